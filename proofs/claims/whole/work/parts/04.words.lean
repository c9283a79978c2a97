def WG : List Cond := lw_tbl.filter goodWord
theorem wg {w : Cond} (h : w ∈ tables_1) (hg : goodWord w = true) : w ∈ WG := List.mem_filter.mpr ⟨List.mem_append_right _ h, hg⟩
theorem wgp {w : Cond} (h : w ∈ k2_sels lw_privs) (hg : goodWord w = true) : w ∈ WG := List.mem_filter.mpr ⟨List.mem_append_left _ h, hg⟩
theorem wt1 {w : Cond} (h : w ∈ tables_1_1) : w ∈ tables_1 := List.mem_append_left _ h
theorem wt2 {w : Cond} (h : w ∈ tables_1_2) : w ∈ tables_1 := List.mem_append_right _ (List.mem_append_left _ h)
theorem wt3 {w : Cond} (h : w ∈ tables_1_3) : w ∈ tables_1 := List.mem_append_right _ (List.mem_append_right _ (List.mem_append_left _ h))
theorem wt4 {w : Cond} (h : w ∈ tables_1_4) : w ∈ tables_1 := List.mem_append_right _ (List.mem_append_right _ (List.mem_append_right _ (List.mem_append_left _ h)))
theorem wt5 {w : Cond} (h : w ∈ tables_1_5) : w ∈ tables_1 := List.mem_append_right _ (List.mem_append_right _ (List.mem_append_right _ (List.mem_append_right _ (List.mem_append_left _ h))))
theorem wt6 {w : Cond} (h : w ∈ tables_1_6) : w ∈ tables_1 := List.mem_append_right _ (List.mem_append_right _ (List.mem_append_right _ (List.mem_append_right _ (List.mem_append_right _ h))))
def isNest : Cond → Bool
  | .fieldLinkNest .. => true
  | .methodLinkNest .. => true
  | .castable .. => true
  | _ => false
def NW : List Cond := tables_1.filter isNest
theorem nw {w : Cond} (h : w ∈ tables_1) (hg : isNest w = true) : w ∈ NW := List.mem_filter.mpr ⟨h, hg⟩
theorem wq_1_0 : Cond.initialized RL ∈ WG := wg (wt1 (List.mem_of_getElem? (i := 0) rfl)) rfl
theorem wq_1_1 : Cond.initialized RX11 ∈ WG := wg (wt1 (List.mem_of_getElem? (i := 1) rfl)) rfl
theorem wq_1_2 : Cond.initialized RX1 ∈ WG := wg (wt1 (List.mem_of_getElem? (i := 2) rfl)) rfl
theorem wq_1_3 : Cond.initialized RX5 ∈ WG := wg (wt1 (List.mem_of_getElem? (i := 3) rfl)) rfl
theorem wq_1_4 : Cond.initialized RX6 ∈ WG := wg (wt1 (List.mem_of_getElem? (i := 4) rfl)) rfl
theorem wq_1_5 : Cond.initialized RX2 ∈ WG := wg (wt1 (List.mem_of_getElem? (i := 5) rfl)) rfl
theorem wq_1_6 : Cond.initialized RX8 ∈ WG := wg (wt1 (List.mem_of_getElem? (i := 6) rfl)) rfl
theorem wq_1_7 : Cond.initialized RX7 ∈ WG := wg (wt1 (List.mem_of_getElem? (i := 7) rfl)) rfl
theorem wq_1_8 : Cond.initialized RX3 ∈ WG := wg (wt1 (List.mem_of_getElem? (i := 8) rfl)) rfl
theorem wq_1_9 : Cond.initialized RX10 ∈ WG := wg (wt1 (List.mem_of_getElem? (i := 9) rfl)) rfl
theorem wq_1_10 : Cond.initialized RJ7 ∈ WG := wg (wt1 (List.mem_of_getElem? (i := 10) rfl)) rfl
theorem wq_1_11 : Cond.initialized RX9 ∈ WG := wg (wt1 (List.mem_of_getElem? (i := 11) rfl)) rfl
theorem wq_1_12 : Cond.initialized RX0 ∈ WG := wg (wt1 (List.mem_of_getElem? (i := 12) rfl)) rfl
theorem wq_1_13 : Cond.initialized RX4 ∈ WG := wg (wt1 (List.mem_of_getElem? (i := 13) rfl)) rfl
theorem wq_1_14 : Cond.initialized RX12 ∈ WG := wg (wt1 (List.mem_of_getElem? (i := 14) rfl)) rfl
theorem wq_1_15 : Cond.initialized RJ0 ∈ WG := wg (wt1 (List.mem_of_getElem? (i := 15) rfl)) rfl
theorem wq_1_16 : Cond.initialized RJ1 ∈ WG := wg (wt1 (List.mem_of_getElem? (i := 16) rfl)) rfl
theorem wq_1_17 : Cond.initialized RJ9 ∈ WG := wg (wt1 (List.mem_of_getElem? (i := 17) rfl)) rfl
theorem wq_1_18 : Cond.initialized RJ2 ∈ WG := wg (wt1 (List.mem_of_getElem? (i := 18) rfl)) rfl
theorem wq_1_19 : Cond.initialized RJ3 ∈ WG := wg (wt1 (List.mem_of_getElem? (i := 19) rfl)) rfl
theorem wq_1_20 : Cond.initialized RJ11 ∈ WG := wg (wt1 (List.mem_of_getElem? (i := 20) rfl)) rfl
theorem wq_1_21 : Cond.initialized RJ10 ∈ WG := wg (wt1 (List.mem_of_getElem? (i := 21) rfl)) rfl
theorem wq_1_22 : Cond.initialized RJ13 ∈ WG := wg (wt1 (List.mem_of_getElem? (i := 22) rfl)) rfl
theorem wq_1_23 : Cond.classLink RL 7 "WhiteWanted" ∈ WG := wg (wt1 (List.mem_of_getElem? (i := 23) rfl)) rfl
theorem wq_1_24 : Cond.instantiable RX11 11 ∈ WG := wg (wt1 (List.mem_of_getElem? (i := 24) rfl)) rfl
theorem wq_1_25 : Cond.methodLink RL 9 yX11_init ∈ WG := wg (wt1 (List.mem_of_getElem? (i := 25) rfl)) rfl
theorem wq_1_26 : Cond.instanceMethod yX11_init ∈ WG := wg (wt1 (List.mem_of_getElem? (i := 26) rfl)) rfl
theorem wq_1_27 : Cond.code yX11_init cX11_init 1 none ∈ WG := wg (wt1 (List.mem_of_getElem? (i := 27) rfl)) rfl
theorem wq_1_28 : Cond.methodLink RX11 1 ⟨"java/lang/Object", "<init>", "()V"⟩ ∈ WG := wg (wt1 (List.mem_of_getElem? (i := 28) rfl)) rfl
theorem wq_1_29 : Cond.instanceMethod ⟨"java/lang/Object", "<init>", "()V"⟩ ∈ WG := wg (wt1 (List.mem_of_getElem? (i := 29) rfl)) rfl
theorem wq_1_30 : Cond.code ⟨"java/lang/Object", "<init>", "()V"⟩ object_method_1_code 1 none ∈ WG := wg (wt1 (List.mem_of_getElem? (i := 30) rfl)) rfl
theorem wq_1_31 : Cond.classLink RX11 7 "WhiteWanted$Ball" ∈ WG := wg (wt1 (List.mem_of_getElem? (i := 31) rfl)) rfl
theorem wq_1_33 : Cond.instantiable RX1 0 ∈ WG := wg (wt1 (List.mem_of_getElem? (i := 33) rfl)) rfl
theorem wq_1_34 : Cond.methodLinkNest RX11 9 yX1_init "WhiteWanted" ∈ NW := nw (wt1 (List.mem_of_getElem? (i := 34) rfl)) rfl
theorem wq_1_35 : Cond.instanceMethod yX1_init ∈ WG := wg (wt1 (List.mem_of_getElem? (i := 35) rfl)) rfl
theorem wq_1_36 : Cond.code yX1_init cX1_init 1 none ∈ WG := wg (wt1 (List.mem_of_getElem? (i := 36) rfl)) rfl
theorem wq_1_37 : Cond.methodLink RX1 1 ⟨"java/lang/Object", "<init>", "()V"⟩ ∈ WG := wg (wt1 (List.mem_of_getElem? (i := 37) rfl)) rfl
theorem wq_1_39 : Cond.classLink RX11 10 "WhiteWanted$Heavy" ∈ WG := wg (wt1 (List.mem_of_getElem? (i := 39) rfl)) rfl
theorem wq_1_40 : Cond.instantiable RX5 0 ∈ WG := wg (wt1 (List.mem_of_getElem? (i := 40) rfl)) rfl
theorem wq_1_41 : Cond.methodLinkNest RX11 12 yX5_init "WhiteWanted" ∈ NW := nw (wt1 (List.mem_of_getElem? (i := 41) rfl)) rfl
theorem wq_1_42 : Cond.instanceMethod yX5_init ∈ WG := wg (wt1 (List.mem_of_getElem? (i := 42) rfl)) rfl
theorem wq_1_43 : Cond.code yX5_init cX5_init 1 none ∈ WG := wg (wt1 (List.mem_of_getElem? (i := 43) rfl)) rfl
theorem wq_1_44 : Cond.methodLinkNest RX5 1 yX1_init "WhiteWanted" ∈ NW := nw (wt1 (List.mem_of_getElem? (i := 44) rfl)) rfl
theorem wq_1_46 : Cond.classLink RX11 13 "WhiteWanted$Light" ∈ WG := wg (wt1 (List.mem_of_getElem? (i := 46) rfl)) rfl
theorem wq_1_47 : Cond.instantiable RX6 0 ∈ WG := wg (wt1 (List.mem_of_getElem? (i := 47) rfl)) rfl
theorem wq_1_48 : Cond.methodLinkNest RX11 15 yX6_init "WhiteWanted" ∈ NW := nw (wt1 (List.mem_of_getElem? (i := 48) rfl)) rfl
theorem wq_1_49 : Cond.instanceMethod yX6_init ∈ WG := wg (wt1 (List.mem_of_getElem? (i := 49) rfl)) rfl
theorem wq_1_50 : Cond.code yX6_init cX6_init 1 none ∈ WG := wg (wt1 (List.mem_of_getElem? (i := 50) rfl)) rfl
theorem wq_1_51 : Cond.methodLinkNest RX6 1 yX1_init "WhiteWanted" ∈ NW := nw (wt1 (List.mem_of_getElem? (i := 51) rfl)) rfl
theorem wq_1_53 : Cond.classLink RX11 16 "WhiteWanted$Dead" ∈ WG := wg (wt1 (List.mem_of_getElem? (i := 53) rfl)) rfl
theorem wq_1_54 : Cond.instantiable RX2 0 ∈ WG := wg (wt1 (List.mem_of_getElem? (i := 54) rfl)) rfl
theorem wq_1_55 : Cond.methodLinkNest RX11 18 yX2_init "WhiteWanted" ∈ NW := nw (wt1 (List.mem_of_getElem? (i := 55) rfl)) rfl
theorem wq_1_56 : Cond.instanceMethod yX2_init ∈ WG := wg (wt1 (List.mem_of_getElem? (i := 56) rfl)) rfl
theorem wq_1_57 : Cond.code yX2_init cX2_init 1 none ∈ WG := wg (wt1 (List.mem_of_getElem? (i := 57) rfl)) rfl
theorem wq_1_58 : Cond.methodLinkNest RX2 1 yX1_init "WhiteWanted" ∈ NW := nw (wt1 (List.mem_of_getElem? (i := 58) rfl)) rfl
theorem wq_1_60 : Cond.classLink RX11 19 "WhiteWanted$Stone" ∈ WG := wg (wt1 (List.mem_of_getElem? (i := 60) rfl)) rfl
theorem wq_1_61 : Cond.instantiable RX8 0 ∈ WG := wg (wt1 (List.mem_of_getElem? (i := 61) rfl)) rfl
theorem wq_1_62 : Cond.methodLinkNest RX11 21 yX8_init "WhiteWanted" ∈ NW := nw (wt1 (List.mem_of_getElem? (i := 62) rfl)) rfl
theorem wq_1_63 : Cond.instanceMethod yX8_init ∈ WG := wg (wt1 (List.mem_of_getElem? (i := 63) rfl)) rfl
theorem wq_1_64 : Cond.code yX8_init cX8_init 1 none ∈ WG := wg (wt1 (List.mem_of_getElem? (i := 64) rfl)) rfl
theorem wq_1_65 : Cond.methodLinkNest RX8 1 yX5_init "WhiteWanted" ∈ NW := nw (wt1 (List.mem_of_getElem? (i := 65) rfl)) rfl
theorem wq_1_67 : Cond.classLink RX11 28 "WhiteWanted$Page" ∈ WG := wg (wt1 (List.mem_of_getElem? (i := 67) rfl)) rfl
theorem wq_1_68 : Cond.instantiable RX7 2 ∈ WG := wg (wt1 (List.mem_of_getElem? (i := 68) rfl)) rfl
theorem wq_1_69 : Cond.methodLinkNest RX11 30 yX7_init "WhiteWanted" ∈ NW := nw (wt1 (List.mem_of_getElem? (i := 69) rfl)) rfl
theorem wq_1_70 : Cond.instanceMethod yX7_init ∈ WG := wg (wt1 (List.mem_of_getElem? (i := 70) rfl)) rfl
theorem wq_1_71 : Cond.code yX7_init cX7_init 1 none ∈ WG := wg (wt1 (List.mem_of_getElem? (i := 71) rfl)) rfl
theorem wq_1_72 : Cond.methodLink RX7 3 ⟨"java/lang/Object", "<init>", "()V"⟩ ∈ WG := wg (wt1 (List.mem_of_getElem? (i := 72) rfl)) rfl
theorem wq_1_73 : Cond.fieldLink RX7 11 "WhiteWanted$Page" "letters" "[I" ∈ WG := wg (wt1 (List.mem_of_getElem? (i := 73) rfl)) rfl
theorem wq_1_74 : Cond.fieldLink RX7 15 "WhiteWanted$Page" "size" "I" ∈ WG := wg (wt1 (List.mem_of_getElem? (i := 74) rfl)) rfl
theorem wq_1_75 : Cond.fieldLinkNest RX11 84 "WhiteWanted$Page" "size" "I" "WhiteWanted" ∈ NW := nw (wt1 (List.mem_of_getElem? (i := 75) rfl)) rfl
theorem wq_1_76 : Cond.laysFinal RX7 "WhiteWanted$Page" "letters" "[I" ∈ WG := wg (wt1 (List.mem_of_getElem? (i := 76) rfl)) rfl
theorem wq_1_78 : Cond.lays RX7 "WhiteWanted$Page" "size" "I" ∈ WG := wg (wt1 (List.mem_of_getElem? (i := 78) rfl)) rfl
theorem wq_1_81 : Cond.arrayClass .int ∈ WG := wg (wt1 (List.mem_of_getElem? (i := 81) rfl)) rfl
theorem wq_1_82 : Cond.classLink RX11 35 "WhiteWanted$Game" ∈ WG := wg (wt1 (List.mem_of_getElem? (i := 82) rfl)) rfl
theorem wq_1_83 : Cond.instantiable RX3 9 ∈ WG := wg (wt1 (List.mem_of_getElem? (i := 83) rfl)) rfl
theorem wq_1_84 : Cond.methodLinkNest RX11 37 yX3_init "WhiteWanted" ∈ NW := nw (wt1 (List.mem_of_getElem? (i := 84) rfl)) rfl
theorem wq_1_85 : Cond.instanceMethod yX3_init ∈ WG := wg (wt1 (List.mem_of_getElem? (i := 85) rfl)) rfl
theorem wq_1_86 : Cond.code yX3_init cX3_init 1 none ∈ WG := wg (wt1 (List.mem_of_getElem? (i := 86) rfl)) rfl
theorem wq_1_87 : Cond.methodLink RX3 3 ⟨"java/lang/Object", "<init>", "()V"⟩ ∈ WG := wg (wt1 (List.mem_of_getElem? (i := 87) rfl)) rfl
theorem wq_1_88 : Cond.classLink RX3 9 "WhiteWanted$Table" ∈ WG := wg (wt1 (List.mem_of_getElem? (i := 88) rfl)) rfl
theorem wq_1_89 : Cond.instantiable RX10 6 ∈ WG := wg (wt1 (List.mem_of_getElem? (i := 89) rfl)) rfl
theorem wq_1_90 : Cond.methodLink RX3 11 yX10_init ∈ WG := wg (wt1 (List.mem_of_getElem? (i := 90) rfl)) rfl
theorem wq_1_91 : Cond.instanceMethod yX10_init ∈ WG := wg (wt1 (List.mem_of_getElem? (i := 91) rfl)) rfl
theorem wq_1_92 : Cond.code yX10_init cX10_init 1 none ∈ WG := wg (wt1 (List.mem_of_getElem? (i := 92) rfl)) rfl
theorem wq_1_93 : Cond.methodLink RX10 3 ⟨"java/lang/Object", "<init>", "()V"⟩ ∈ WG := wg (wt1 (List.mem_of_getElem? (i := 93) rfl)) rfl
theorem wq_1_94 : Cond.methodLink RX10 21 yJ7_fill_53178 ∈ WG := wg (wt1 (List.mem_of_getElem? (i := 94) rfl)) rfl
theorem wq_1_95 : Cond.static yJ7_fill_53178 ∈ WG := wg (wt1 (List.mem_of_getElem? (i := 95) rfl)) rfl
theorem wq_1_96 : Cond.code yJ7_fill_53178 cJ7_fill_53178 4 none ∈ WG := wg (wt1 (List.mem_of_getElem? (i := 96) rfl)) rfl
theorem wq_1_97 : Cond.fieldLink RX10 9 "WhiteWanted$Table" "cells" "[I" ∈ WG := wg (wt1 (List.mem_of_getElem? (i := 97) rfl)) rfl
theorem wq_1_98 : Cond.fieldLink RX10 15 "WhiteWanted$Table" "kinds" "[I" ∈ WG := wg (wt1 (List.mem_of_getElem? (i := 98) rfl)) rfl
theorem wq_1_99 : Cond.fieldLink RX10 18 "WhiteWanted$Table" "worths" "[I" ∈ WG := wg (wt1 (List.mem_of_getElem? (i := 99) rfl)) rfl
theorem wq_1_100 : Cond.fieldLink RX10 27 "WhiteWanted$Table" "taken" "J" ∈ WG := wg (wt1 (List.mem_of_getElem? (i := 100) rfl)) rfl
theorem wq_1_101 : Cond.fieldLink RX10 37 "WhiteWanted$Table" "size" "I" ∈ WG := wg (wt1 (List.mem_of_getElem? (i := 101) rfl)) rfl
theorem wq_1_102 : Cond.fieldLinkNest RX11 113 "WhiteWanted$Table" "size" "I" "WhiteWanted" ∈ NW := nw (wt1 (List.mem_of_getElem? (i := 102) rfl)) rfl
theorem wq_1_103 : Cond.fieldLinkNest RX7 31 "WhiteWanted$Table" "size" "I" "WhiteWanted" ∈ NW := nw (wt1 (List.mem_of_getElem? (i := 103) rfl)) rfl
theorem wq_1_104 : Cond.fieldLink RX10 41 "WhiteWanted$Table" "spot" "I" ∈ WG := wg (wt1 (List.mem_of_getElem? (i := 104) rfl)) rfl
theorem wq_1_105 : Cond.fieldLinkNest RX7 38 "WhiteWanted$Table" "spot" "I" "WhiteWanted" ∈ NW := nw (wt1 (List.mem_of_getElem? (i := 105) rfl)) rfl
theorem wq_1_106 : Cond.fieldLinkNest RX11 252 "WhiteWanted$Table" "spot" "I" "WhiteWanted" ∈ NW := nw (wt1 (List.mem_of_getElem? (i := 106) rfl)) rfl
theorem wq_1_107 : Cond.laysFinal RX10 "WhiteWanted$Table" "cells" "[I" ∈ WG := wg (wt1 (List.mem_of_getElem? (i := 107) rfl)) rfl
theorem wq_1_109 : Cond.laysFinal RX10 "WhiteWanted$Table" "kinds" "[I" ∈ WG := wg (wt1 (List.mem_of_getElem? (i := 109) rfl)) rfl
theorem wq_1_111 : Cond.laysFinal RX10 "WhiteWanted$Table" "worths" "[I" ∈ WG := wg (wt1 (List.mem_of_getElem? (i := 111) rfl)) rfl
theorem wq_1_113 : Cond.lays RX10 "WhiteWanted$Table" "taken" "J" ∈ WG := wg (wt1 (List.mem_of_getElem? (i := 113) rfl)) rfl
theorem wq_1_115 : Cond.lays RX10 "WhiteWanted$Table" "size" "I" ∈ WG := wg (wt1 (List.mem_of_getElem? (i := 115) rfl)) rfl
theorem wq_1_117 : Cond.lays RX10 "WhiteWanted$Table" "spot" "I" ∈ WG := wg (wt1 (List.mem_of_getElem? (i := 117) rfl)) rfl
theorem wq_1_120 : Cond.fieldLink RX3 12 "WhiteWanted$Game" "table" "LWhiteWanted$Table;" ∈ WG := wg (wt1 (List.mem_of_getElem? (i := 120) rfl)) rfl
theorem wq_1_121 : Cond.fieldLinkNest RX4 28 "WhiteWanted$Game" "table" "LWhiteWanted$Table;" "WhiteWanted" ∈ NW := nw (wt1 (List.mem_of_getElem? (i := 121) rfl)) rfl
theorem wq_1_122 : Cond.fieldLinkNest RX11 98 "WhiteWanted$Game" "table" "LWhiteWanted$Table;" "WhiteWanted" ∈ NW := nw (wt1 (List.mem_of_getElem? (i := 122) rfl)) rfl
theorem wq_1_123 : Cond.fieldLink RX3 18 "WhiteWanted$Game" "seenBalls" "[I" ∈ WG := wg (wt1 (List.mem_of_getElem? (i := 123) rfl)) rfl
theorem wq_1_124 : Cond.fieldLinkNest RX4 25 "WhiteWanted$Game" "seenBalls" "[I" "WhiteWanted" ∈ NW := nw (wt1 (List.mem_of_getElem? (i := 124) rfl)) rfl
theorem wq_1_125 : Cond.fieldLink RX3 22 "WhiteWanted$Game" "seenDirections" "[I" ∈ WG := wg (wt1 (List.mem_of_getElem? (i := 125) rfl)) rfl
theorem wq_1_126 : Cond.fieldLinkNest RX4 32 "WhiteWanted$Game" "seenDirections" "[I" "WhiteWanted" ∈ NW := nw (wt1 (List.mem_of_getElem? (i := 126) rfl)) rfl
theorem wq_1_127 : Cond.fieldLink RX3 25 "WhiteWanted$Game" "seenStrengths" "[I" ∈ WG := wg (wt1 (List.mem_of_getElem? (i := 127) rfl)) rfl
theorem wq_1_128 : Cond.fieldLinkNest RX4 35 "WhiteWanted$Game" "seenStrengths" "[I" "WhiteWanted" ∈ NW := nw (wt1 (List.mem_of_getElem? (i := 128) rfl)) rfl
theorem wq_1_129 : Cond.fieldLink RX3 28 "WhiteWanted$Game" "seenCells" "[I" ∈ WG := wg (wt1 (List.mem_of_getElem? (i := 129) rfl)) rfl
theorem wq_1_130 : Cond.fieldLinkNest RX4 42 "WhiteWanted$Game" "seenCells" "[I" "WhiteWanted" ∈ NW := nw (wt1 (List.mem_of_getElem? (i := 130) rfl)) rfl
theorem wq_1_131 : Cond.fieldLink RX3 34 "WhiteWanted$Game" "seen" "I" ∈ WG := wg (wt1 (List.mem_of_getElem? (i := 131) rfl)) rfl
theorem wq_1_132 : Cond.fieldLinkNest RX4 19 "WhiteWanted$Game" "seen" "I" "WhiteWanted" ∈ NW := nw (wt1 (List.mem_of_getElem? (i := 132) rfl)) rfl
theorem wq_1_133 : Cond.fieldLinkNest RX11 216 "WhiteWanted$Game" "seen" "I" "WhiteWanted" ∈ NW := nw (wt1 (List.mem_of_getElem? (i := 133) rfl)) rfl
theorem wq_1_134 : Cond.fieldLink RX3 38 "WhiteWanted$Game" "score" "I" ∈ WG := wg (wt1 (List.mem_of_getElem? (i := 134) rfl)) rfl
theorem wq_1_135 : Cond.fieldLinkNest RX11 243 "WhiteWanted$Game" "score" "I" "WhiteWanted" ∈ NW := nw (wt1 (List.mem_of_getElem? (i := 135) rfl)) rfl
theorem wq_1_136 : Cond.fieldLink RX3 41 "WhiteWanted$Game" "strokes" "I" ∈ WG := wg (wt1 (List.mem_of_getElem? (i := 136) rfl)) rfl
theorem wq_1_137 : Cond.fieldLinkNest RX11 237 "WhiteWanted$Game" "strokes" "I" "WhiteWanted" ∈ NW := nw (wt1 (List.mem_of_getElem? (i := 137) rfl)) rfl
theorem wq_1_138 : Cond.fieldLink RX3 44 "WhiteWanted$Game" "fouls" "I" ∈ WG := wg (wt1 (List.mem_of_getElem? (i := 138) rfl)) rfl
theorem wq_1_139 : Cond.fieldLinkNest RX11 246 "WhiteWanted$Game" "fouls" "I" "WhiteWanted" ∈ NW := nw (wt1 (List.mem_of_getElem? (i := 139) rfl)) rfl
theorem wq_1_140 : Cond.laysFinal RX3 "WhiteWanted$Game" "table" "LWhiteWanted$Table;" ∈ WG := wg (wt1 (List.mem_of_getElem? (i := 140) rfl)) rfl
theorem wq_1_142 : Cond.laysFinal RX3 "WhiteWanted$Game" "seenBalls" "[I" ∈ WG := wg (wt1 (List.mem_of_getElem? (i := 142) rfl)) rfl
theorem wq_1_144 : Cond.laysFinal RX3 "WhiteWanted$Game" "seenDirections" "[I" ∈ WG := wg (wt1 (List.mem_of_getElem? (i := 144) rfl)) rfl
theorem wq_1_146 : Cond.laysFinal RX3 "WhiteWanted$Game" "seenStrengths" "[I" ∈ WG := wg (wt1 (List.mem_of_getElem? (i := 146) rfl)) rfl
theorem wq_1_148 : Cond.laysFinal RX3 "WhiteWanted$Game" "seenCells" "[I" ∈ WG := wg (wt1 (List.mem_of_getElem? (i := 148) rfl)) rfl
theorem wq_1_150 : Cond.lays RX3 "WhiteWanted$Game" "seen" "I" ∈ WG := wg (wt1 (List.mem_of_getElem? (i := 150) rfl)) rfl
theorem wq_1_152 : Cond.lays RX3 "WhiteWanted$Game" "score" "I" ∈ WG := wg (wt1 (List.mem_of_getElem? (i := 152) rfl)) rfl
theorem wq_1_154 : Cond.lays RX3 "WhiteWanted$Game" "strokes" "I" ∈ WG := wg (wt1 (List.mem_of_getElem? (i := 154) rfl)) rfl
theorem wq_1_156 : Cond.lays RX3 "WhiteWanted$Game" "fouls" "I" ∈ WG := wg (wt1 (List.mem_of_getElem? (i := 156) rfl)) rfl
theorem wq_1_159 : Cond.classLink RX11 45 "WhiteWanted$Stroke" ∈ WG := wg (wt1 (List.mem_of_getElem? (i := 159) rfl)) rfl
theorem wq_1_160 : Cond.instantiable RX9 9 ∈ WG := wg (wt1 (List.mem_of_getElem? (i := 160) rfl)) rfl
theorem wq_1_161 : Cond.methodLink RX11 47 yX9_init ∈ WG := wg (wt1 (List.mem_of_getElem? (i := 161) rfl)) rfl
theorem wq_1_162 : Cond.instanceMethod yX9_init ∈ WG := wg (wt1 (List.mem_of_getElem? (i := 162) rfl)) rfl
theorem wq_1_163 : Cond.code yX9_init cX9_init 2 none ∈ WG := wg (wt1 (List.mem_of_getElem? (i := 163) rfl)) rfl
theorem wq_1_164 : Cond.methodLink RX9 3 ⟨"java/lang/Object", "<init>", "()V"⟩ ∈ WG := wg (wt1 (List.mem_of_getElem? (i := 164) rfl)) rfl
theorem wq_1_165 : Cond.classLink RX9 9 "WhiteWanted$Table" ∈ WG := wg (wt1 (List.mem_of_getElem? (i := 165) rfl)) rfl
theorem wq_1_166 : Cond.methodLink RX9 11 yX10_init ∈ WG := wg (wt1 (List.mem_of_getElem? (i := 166) rfl)) rfl
theorem wq_1_167 : Cond.fieldLink RX9 12 "WhiteWanted$Stroke" "table" "LWhiteWanted$Table;" ∈ WG := wg (wt1 (List.mem_of_getElem? (i := 167) rfl)) rfl
theorem wq_1_168 : Cond.fieldLinkNest RX3 57 "WhiteWanted$Stroke" "table" "LWhiteWanted$Table;" "WhiteWanted" ∈ NW := nw (wt1 (List.mem_of_getElem? (i := 168) rfl)) rfl
theorem wq_1_169 : Cond.fieldLinkNest RX4 65 "WhiteWanted$Stroke" "table" "LWhiteWanted$Table;" "WhiteWanted" ∈ NW := nw (wt1 (List.mem_of_getElem? (i := 169) rfl)) rfl
theorem wq_1_170 : Cond.fieldLinkNest RX0 73 "WhiteWanted$Stroke" "table" "LWhiteWanted$Table;" "WhiteWanted" ∈ NW := nw (wt1 (List.mem_of_getElem? (i := 170) rfl)) rfl
theorem wq_1_171 : Cond.fieldLinkNest RX11 229 "WhiteWanted$Stroke" "table" "LWhiteWanted$Table;" "WhiteWanted" ∈ NW := nw (wt1 (List.mem_of_getElem? (i := 171) rfl)) rfl
theorem wq_1_172 : Cond.fieldLink RX9 18 "WhiteWanted$Stroke" "kinds" "[LWhiteWanted$Ball;" ∈ WG := wg (wt1 (List.mem_of_getElem? (i := 172) rfl)) rfl
theorem wq_1_173 : Cond.fieldLink RX9 26 "WhiteWanted$Stroke" "moves" "I" ∈ WG := wg (wt1 (List.mem_of_getElem? (i := 173) rfl)) rfl
theorem wq_1_174 : Cond.fieldLink RX9 30 "WhiteWanted$Stroke" "bounces" "I" ∈ WG := wg (wt1 (List.mem_of_getElem? (i := 174) rfl)) rfl
theorem wq_1_175 : Cond.fieldLink RX9 33 "WhiteWanted$Stroke" "potted" "I" ∈ WG := wg (wt1 (List.mem_of_getElem? (i := 175) rfl)) rfl
theorem wq_1_176 : Cond.fieldLinkNest RX0 26 "WhiteWanted$Stroke" "brings" "I" "WhiteWanted" ∈ NW := nw (wt1 (List.mem_of_getElem? (i := 176) rfl)) rfl
theorem wq_1_177 : Cond.fieldLink RX9 58 "WhiteWanted$Stroke" "brings" "I" ∈ WG := wg (wt1 (List.mem_of_getElem? (i := 177) rfl)) rfl
theorem wq_1_178 : Cond.fieldLinkNest RX3 60 "WhiteWanted$Stroke" "brings" "I" "WhiteWanted" ∈ NW := nw (wt1 (List.mem_of_getElem? (i := 178) rfl)) rfl
theorem wq_1_179 : Cond.fieldLinkNest RX11 192 "WhiteWanted$Stroke" "brings" "I" "WhiteWanted" ∈ NW := nw (wt1 (List.mem_of_getElem? (i := 179) rfl)) rfl
theorem wq_1_180 : Cond.fieldLink RX9 36 "WhiteWanted$Stroke" "firstHitDirection" "I" ∈ WG := wg (wt1 (List.mem_of_getElem? (i := 180) rfl)) rfl
theorem wq_1_181 : Cond.fieldLink RX9 39 "WhiteWanted$Stroke" "firstHitPower" "I" ∈ WG := wg (wt1 (List.mem_of_getElem? (i := 181) rfl)) rfl
theorem wq_1_182 : Cond.fieldLink RX9 50 "WhiteWanted$Stroke" "foul" "Z" ∈ WG := wg (wt1 (List.mem_of_getElem? (i := 182) rfl)) rfl
theorem wq_1_183 : Cond.fieldLinkNest RX0 42 "WhiteWanted$Stroke" "foul" "Z" "WhiteWanted" ∈ NW := nw (wt1 (List.mem_of_getElem? (i := 183) rfl)) rfl
theorem wq_1_184 : Cond.fieldLinkNest RX3 63 "WhiteWanted$Stroke" "foul" "Z" "WhiteWanted" ∈ NW := nw (wt1 (List.mem_of_getElem? (i := 184) rfl)) rfl
theorem wq_1_185 : Cond.laysFinal RX9 "WhiteWanted$Stroke" "table" "LWhiteWanted$Table;" ∈ WG := wg (wt1 (List.mem_of_getElem? (i := 185) rfl)) rfl
theorem wq_1_187 : Cond.laysFinal RX9 "WhiteWanted$Stroke" "kinds" "[LWhiteWanted$Ball;" ∈ WG := wg (wt1 (List.mem_of_getElem? (i := 187) rfl)) rfl
theorem wq_1_189 : Cond.lays RX9 "WhiteWanted$Stroke" "moves" "I" ∈ WG := wg (wt1 (List.mem_of_getElem? (i := 189) rfl)) rfl
theorem wq_1_191 : Cond.lays RX9 "WhiteWanted$Stroke" "bounces" "I" ∈ WG := wg (wt1 (List.mem_of_getElem? (i := 191) rfl)) rfl
theorem wq_1_193 : Cond.lays RX9 "WhiteWanted$Stroke" "potted" "I" ∈ WG := wg (wt1 (List.mem_of_getElem? (i := 193) rfl)) rfl
theorem wq_1_195 : Cond.lays RX9 "WhiteWanted$Stroke" "brings" "I" ∈ WG := wg (wt1 (List.mem_of_getElem? (i := 195) rfl)) rfl
theorem wq_1_197 : Cond.lays RX9 "WhiteWanted$Stroke" "firstHitDirection" "I" ∈ WG := wg (wt1 (List.mem_of_getElem? (i := 197) rfl)) rfl
theorem wq_1_199 : Cond.lays RX9 "WhiteWanted$Stroke" "firstHitPower" "I" ∈ WG := wg (wt1 (List.mem_of_getElem? (i := 199) rfl)) rfl
theorem wq_1_201 : Cond.lays RX9 "WhiteWanted$Stroke" "foul" "Z" ∈ WG := wg (wt1 (List.mem_of_getElem? (i := 201) rfl)) rfl
theorem wq_1_204 : Cond.classLink RX11 54 "WhiteWanted$Adviser" ∈ WG := wg (wt1 (List.mem_of_getElem? (i := 204) rfl)) rfl
theorem wq_1_205 : Cond.instantiable RX0 4 ∈ WG := wg (wt1 (List.mem_of_getElem? (i := 205) rfl)) rfl
theorem wq_1_206 : Cond.methodLink RX11 56 yX0_init ∈ WG := wg (wt1 (List.mem_of_getElem? (i := 206) rfl)) rfl
theorem wq_1_207 : Cond.instanceMethod yX0_init ∈ WG := wg (wt1 (List.mem_of_getElem? (i := 207) rfl)) rfl
theorem wq_1_208 : Cond.code yX0_init cX0_init 3 none ∈ WG := wg (wt1 (List.mem_of_getElem? (i := 208) rfl)) rfl
theorem wq_1_209 : Cond.methodLink RX0 3 ⟨"java/lang/Object", "<init>", "()V"⟩ ∈ WG := wg (wt1 (List.mem_of_getElem? (i := 209) rfl)) rfl
theorem wq_1_210 : Cond.fieldLink RX0 9 "WhiteWanted$Adviser" "first" "LWhiteWanted$Stroke;" ∈ WG := wg (wt1 (List.mem_of_getElem? (i := 210) rfl)) rfl
theorem wq_1_211 : Cond.fieldLink RX0 15 "WhiteWanted$Adviser" "second" "LWhiteWanted$Stroke;" ∈ WG := wg (wt1 (List.mem_of_getElem? (i := 211) rfl)) rfl
theorem wq_1_212 : Cond.fieldLink RX0 18 "WhiteWanted$Adviser" "chosen" "I" ∈ WG := wg (wt1 (List.mem_of_getElem? (i := 212) rfl)) rfl
theorem wq_1_213 : Cond.fieldLink RX0 31 "WhiteWanted$Adviser" "value" "I" ∈ WG := wg (wt1 (List.mem_of_getElem? (i := 213) rfl)) rfl
theorem wq_1_214 : Cond.laysFinal RX0 "WhiteWanted$Adviser" "first" "LWhiteWanted$Stroke;" ∈ WG := wg (wt1 (List.mem_of_getElem? (i := 214) rfl)) rfl
theorem wq_1_216 : Cond.laysFinal RX0 "WhiteWanted$Adviser" "second" "LWhiteWanted$Stroke;" ∈ WG := wg (wt1 (List.mem_of_getElem? (i := 216) rfl)) rfl
theorem wq_1_218 : Cond.lays RX0 "WhiteWanted$Adviser" "chosen" "I" ∈ WG := wg (wt1 (List.mem_of_getElem? (i := 218) rfl)) rfl
theorem wq_1_220 : Cond.lays RX0 "WhiteWanted$Adviser" "value" "I" ∈ WG := wg (wt1 (List.mem_of_getElem? (i := 220) rfl)) rfl
theorem wq_1_223 : Cond.classLink RX11 63 "WhiteWanted$Guesser" ∈ WG := wg (wt1 (List.mem_of_getElem? (i := 223) rfl)) rfl
theorem wq_1_224 : Cond.instantiable RX4 2 ∈ WG := wg (wt1 (List.mem_of_getElem? (i := 224) rfl)) rfl
theorem wq_1_225 : Cond.methodLink RX11 65 yX4_init ∈ WG := wg (wt1 (List.mem_of_getElem? (i := 225) rfl)) rfl
theorem wq_1_226 : Cond.instanceMethod yX4_init ∈ WG := wg (wt1 (List.mem_of_getElem? (i := 226) rfl)) rfl
theorem wq_1_227 : Cond.code yX4_init cX4_init 2 none ∈ WG := wg (wt1 (List.mem_of_getElem? (i := 227) rfl)) rfl
theorem wq_1_228 : Cond.methodLink RX4 3 ⟨"java/lang/Object", "<init>", "()V"⟩ ∈ WG := wg (wt1 (List.mem_of_getElem? (i := 228) rfl)) rfl
theorem wq_1_229 : Cond.fieldLink RX4 15 "WhiteWanted$Guesser" "stroke" "LWhiteWanted$Stroke;" ∈ WG := wg (wt1 (List.mem_of_getElem? (i := 229) rfl)) rfl
theorem wq_1_230 : Cond.fieldLink RX4 9 "WhiteWanted$Guesser" "ends" "[I" ∈ WG := wg (wt1 (List.mem_of_getElem? (i := 230) rfl)) rfl
theorem wq_1_231 : Cond.laysFinal RX4 "WhiteWanted$Guesser" "stroke" "LWhiteWanted$Stroke;" ∈ WG := wg (wt1 (List.mem_of_getElem? (i := 231) rfl)) rfl
theorem wq_1_233 : Cond.laysFinal RX4 "WhiteWanted$Guesser" "ends" "[I" ∈ WG := wg (wt1 (List.mem_of_getElem? (i := 233) rfl)) rfl
theorem wq_1_236 : Cond.fieldLink RX11 22 "WhiteWanted" "kinds" "[LWhiteWanted$Ball;" ∈ WG := wg (wt1 (List.mem_of_getElem? (i := 236) rfl)) rfl
theorem wq_1_237 : Cond.fieldLink RX11 31 "WhiteWanted" "page" "LWhiteWanted$Page;" ∈ WG := wg (wt1 (List.mem_of_getElem? (i := 237) rfl)) rfl
theorem wq_1_238 : Cond.fieldLink RX11 38 "WhiteWanted" "game" "LWhiteWanted$Game;" ∈ WG := wg (wt1 (List.mem_of_getElem? (i := 238) rfl)) rfl
theorem wq_1_239 : Cond.fieldLink RX11 42 "WhiteWanted" "kept" "LWhiteWanted$Game;" ∈ WG := wg (wt1 (List.mem_of_getElem? (i := 239) rfl)) rfl
theorem wq_2_0 : Cond.fieldLink RX11 50 "WhiteWanted" "trial" "LWhiteWanted$Stroke;" ∈ WG := wg (wt2 (List.mem_of_getElem? (i := 0) rfl)) rfl
theorem wq_2_1 : Cond.fieldLink RX11 59 "WhiteWanted" "adviser" "LWhiteWanted$Adviser;" ∈ WG := wg (wt2 (List.mem_of_getElem? (i := 1) rfl)) rfl
theorem wq_2_2 : Cond.fieldLink RX11 68 "WhiteWanted" "guesser" "LWhiteWanted$Guesser;" ∈ WG := wg (wt2 (List.mem_of_getElem? (i := 2) rfl)) rfl
theorem wq_2_3 : Cond.fieldLink RX11 106 "WhiteWanted" "imageKept" "Z" ∈ WG := wg (wt2 (List.mem_of_getElem? (i := 3) rfl)) rfl
theorem wq_2_4 : Cond.fieldLink RX11 110 "WhiteWanted" "tablesRead" "I" ∈ WG := wg (wt2 (List.mem_of_getElem? (i := 4) rfl)) rfl
theorem wq_2_5 : Cond.fieldLink RX11 202 "WhiteWanted" "plansDone" "I" ∈ WG := wg (wt2 (List.mem_of_getElem? (i := 5) rfl)) rfl
theorem wq_2_6 : Cond.fieldLink RX11 208 "WhiteWanted" "safesDone" "I" ∈ WG := wg (wt2 (List.mem_of_getElem? (i := 6) rfl)) rfl
theorem wq_2_7 : Cond.laysFinal RX11 "WhiteWanted" "kinds" "[LWhiteWanted$Ball;" ∈ WG := wg (wt2 (List.mem_of_getElem? (i := 7) rfl)) rfl
theorem wq_2_9 : Cond.laysFinal RX11 "WhiteWanted" "page" "LWhiteWanted$Page;" ∈ WG := wg (wt2 (List.mem_of_getElem? (i := 9) rfl)) rfl
theorem wq_2_11 : Cond.laysFinal RX11 "WhiteWanted" "game" "LWhiteWanted$Game;" ∈ WG := wg (wt2 (List.mem_of_getElem? (i := 11) rfl)) rfl
theorem wq_2_13 : Cond.laysFinal RX11 "WhiteWanted" "kept" "LWhiteWanted$Game;" ∈ WG := wg (wt2 (List.mem_of_getElem? (i := 13) rfl)) rfl
theorem wq_2_15 : Cond.laysFinal RX11 "WhiteWanted" "trial" "LWhiteWanted$Stroke;" ∈ WG := wg (wt2 (List.mem_of_getElem? (i := 15) rfl)) rfl
theorem wq_2_17 : Cond.laysFinal RX11 "WhiteWanted" "adviser" "LWhiteWanted$Adviser;" ∈ WG := wg (wt2 (List.mem_of_getElem? (i := 17) rfl)) rfl
theorem wq_2_19 : Cond.laysFinal RX11 "WhiteWanted" "guesser" "LWhiteWanted$Guesser;" ∈ WG := wg (wt2 (List.mem_of_getElem? (i := 19) rfl)) rfl
theorem wq_2_21 : Cond.lays RX11 "WhiteWanted" "imageKept" "Z" ∈ WG := wg (wt2 (List.mem_of_getElem? (i := 21) rfl)) rfl
theorem wq_2_23 : Cond.lays RX11 "WhiteWanted" "tablesRead" "I" ∈ WG := wg (wt2 (List.mem_of_getElem? (i := 23) rfl)) rfl
theorem wq_2_25 : Cond.lays RX11 "WhiteWanted" "plansDone" "I" ∈ WG := wg (wt2 (List.mem_of_getElem? (i := 25) rfl)) rfl
theorem wq_2_27 : Cond.lays RX11 "WhiteWanted" "safesDone" "I" ∈ WG := wg (wt2 (List.mem_of_getElem? (i := 27) rfl)) rfl
theorem wq_2_30 : Cond.methodLink RL 13 yX11_letter ∈ WG := wg (wt2 (List.mem_of_getElem? (i := 30) rfl)) rfl
theorem wq_2_31 : Cond.instanceMethod yX11_letter ∈ WG := wg (wt2 (List.mem_of_getElem? (i := 31) rfl)) rfl
theorem wq_2_32 : Cond.selects RX11 yX11_letter yX11_letter ∈ WG := wg (wt2 (List.mem_of_getElem? (i := 32) rfl)) rfl
theorem wq_2_33 : Cond.code yX11_letter cX11_letter 2 (some .int) ∈ WG := wg (wt2 (List.mem_of_getElem? (i := 33) rfl)) rfl
theorem wq_2_34 : Cond.methodLink RX11 72 yX11_within ∈ WG := wg (wt2 (List.mem_of_getElem? (i := 34) rfl)) rfl
theorem wq_2_35 : Cond.static yX11_within ∈ WG := wg (wt2 (List.mem_of_getElem? (i := 35) rfl)) rfl
theorem wq_2_36 : Cond.code yX11_within cX11_within 3 (some .boolean) ∈ WG := wg (wt2 (List.mem_of_getElem? (i := 36) rfl)) rfl
theorem wq_2_37 : Cond.methodLink RX11 76 yX7_isFull ∈ WG := wg (wt2 (List.mem_of_getElem? (i := 37) rfl)) rfl
theorem wq_2_38 : Cond.instanceMethod yX7_isFull ∈ WG := wg (wt2 (List.mem_of_getElem? (i := 38) rfl)) rfl
theorem wq_2_39 : Cond.selects RX7 yX7_isFull yX7_isFull ∈ WG := wg (wt2 (List.mem_of_getElem? (i := 39) rfl)) rfl
theorem wq_2_40 : Cond.code yX7_isFull cX7_isFull 1 (some .boolean) ∈ WG := wg (wt2 (List.mem_of_getElem? (i := 40) rfl)) rfl
theorem wq_2_41 : Cond.methodLink RX11 80 yX7_append ∈ WG := wg (wt2 (List.mem_of_getElem? (i := 41) rfl)) rfl
theorem wq_2_42 : Cond.instanceMethod yX7_append ∈ WG := wg (wt2 (List.mem_of_getElem? (i := 42) rfl)) rfl
theorem wq_2_43 : Cond.selects RX7 yX7_append yX7_append ∈ WG := wg (wt2 (List.mem_of_getElem? (i := 43) rfl)) rfl
theorem wq_2_44 : Cond.code yX7_append cX7_append 2 none ∈ WG := wg (wt2 (List.mem_of_getElem? (i := 44) rfl)) rfl
theorem wq_2_45 : Cond.methodLink RX7 19 yX7_isFull ∈ WG := wg (wt2 (List.mem_of_getElem? (i := 45) rfl)) rfl
theorem wq_2_46 : Cond.methodLink RL 18 yX11_blank ∈ WG := wg (wt2 (List.mem_of_getElem? (i := 46) rfl)) rfl
theorem wq_2_47 : Cond.instanceMethod yX11_blank ∈ WG := wg (wt2 (List.mem_of_getElem? (i := 47) rfl)) rfl
theorem wq_2_48 : Cond.selects RX11 yX11_blank yX11_blank ∈ WG := wg (wt2 (List.mem_of_getElem? (i := 48) rfl)) rfl
theorem wq_2_49 : Cond.code yX11_blank cX11_blank 2 (some .int) ∈ WG := wg (wt2 (List.mem_of_getElem? (i := 49) rfl)) rfl
theorem wq_2_50 : Cond.methodLink RL 23 yX11_fault ∈ WG := wg (wt2 (List.mem_of_getElem? (i := 50) rfl)) rfl
theorem wq_2_51 : Cond.instanceMethod yX11_fault ∈ WG := wg (wt2 (List.mem_of_getElem? (i := 51) rfl)) rfl
theorem wq_2_52 : Cond.selects RX11 yX11_fault yX11_fault ∈ WG := wg (wt2 (List.mem_of_getElem? (i := 52) rfl)) rfl
theorem wq_2_53 : Cond.code yX11_fault cX11_fault 1 (some .int) ∈ WG := wg (wt2 (List.mem_of_getElem? (i := 53) rfl)) rfl
theorem wq_2_54 : Cond.methodLink RX11 88 yX7_firstFault ∈ WG := wg (wt2 (List.mem_of_getElem? (i := 54) rfl)) rfl
theorem wq_2_55 : Cond.instanceMethod yX7_firstFault ∈ WG := wg (wt2 (List.mem_of_getElem? (i := 55) rfl)) rfl
theorem wq_2_56 : Cond.selects RX7 yX7_firstFault yX7_firstFault ∈ WG := wg (wt2 (List.mem_of_getElem? (i := 56) rfl)) rfl
theorem wq_2_57 : Cond.code yX7_firstFault cX7_firstFault 2 (some .int) ∈ WG := wg (wt2 (List.mem_of_getElem? (i := 57) rfl)) rfl
theorem wq_2_58 : Cond.methodLink RX7 23 yX7_fits ∈ WG := wg (wt2 (List.mem_of_getElem? (i := 58) rfl)) rfl
theorem wq_2_60 : Cond.instanceMethod yX7_fits ∈ WG := wg (wt2 (List.mem_of_getElem? (i := 60) rfl)) rfl
theorem wq_2_61 : Cond.code yX7_fits cX7_fits 2 (some .boolean) ∈ WG := wg (wt2 (List.mem_of_getElem? (i := 61) rfl)) rfl
theorem wq_2_62 : Cond.methodLink RX7 58 yX7_digitAt ∈ WG := wg (wt2 (List.mem_of_getElem? (i := 62) rfl)) rfl
theorem wq_2_64 : Cond.instanceMethod yX7_digitAt ∈ WG := wg (wt2 (List.mem_of_getElem? (i := 64) rfl)) rfl
theorem wq_2_65 : Cond.code yX7_digitAt cX7_digitAt 2 (some .int) ∈ WG := wg (wt2 (List.mem_of_getElem? (i := 65) rfl)) rfl
theorem wq_2_66 : Cond.methodLink RX7 47 yX7_at ∈ WG := wg (wt2 (List.mem_of_getElem? (i := 66) rfl)) rfl
theorem wq_2_68 : Cond.instanceMethod yX7_at ∈ WG := wg (wt2 (List.mem_of_getElem? (i := 68) rfl)) rfl
theorem wq_2_69 : Cond.code yX7_at cX7_at 2 (some .int) ∈ WG := wg (wt2 (List.mem_of_getElem? (i := 69) rfl)) rfl
theorem wq_2_70 : Cond.methodLinkNest RX7 66 yX11_isRow "WhiteWanted" ∈ NW := nw (wt2 (List.mem_of_getElem? (i := 70) rfl)) rfl
theorem wq_2_71 : Cond.static yX11_isRow ∈ WG := wg (wt2 (List.mem_of_getElem? (i := 71) rfl)) rfl
theorem wq_2_72 : Cond.code yX11_isRow cX11_isRow 1 (some .boolean) ∈ WG := wg (wt2 (List.mem_of_getElem? (i := 72) rfl)) rfl
theorem wq_2_73 : Cond.methodLinkNest RX7 69 yX11_isColumn "WhiteWanted" ∈ NW := nw (wt2 (List.mem_of_getElem? (i := 73) rfl)) rfl
theorem wq_2_74 : Cond.static yX11_isColumn ∈ WG := wg (wt2 (List.mem_of_getElem? (i := 74) rfl)) rfl
theorem wq_2_75 : Cond.code yX11_isColumn cX11_isColumn 1 (some .boolean) ∈ WG := wg (wt2 (List.mem_of_getElem? (i := 75) rfl)) rfl
theorem wq_2_76 : Cond.methodLink RX7 72 yX7_isFreeCell ∈ WG := wg (wt2 (List.mem_of_getElem? (i := 76) rfl)) rfl
theorem wq_2_78 : Cond.instanceMethod yX7_isFreeCell ∈ WG := wg (wt2 (List.mem_of_getElem? (i := 78) rfl)) rfl
theorem wq_2_79 : Cond.code yX7_isFreeCell cX7_isFreeCell 4 (some .boolean) ∈ WG := wg (wt2 (List.mem_of_getElem? (i := 79) rfl)) rfl
theorem wq_2_80 : Cond.methodLink RX7 34 yX7_cellAt ∈ WG := wg (wt2 (List.mem_of_getElem? (i := 80) rfl)) rfl
theorem wq_2_82 : Cond.instanceMethod yX7_cellAt ∈ WG := wg (wt2 (List.mem_of_getElem? (i := 82) rfl)) rfl
theorem wq_2_83 : Cond.code yX7_cellAt cX7_cellAt 2 (some .int) ∈ WG := wg (wt2 (List.mem_of_getElem? (i := 83) rfl)) rfl
theorem wq_2_84 : Cond.methodLinkNest RX7 79 yX11_isPocket "WhiteWanted" ∈ NW := nw (wt2 (List.mem_of_getElem? (i := 84) rfl)) rfl
theorem wq_2_85 : Cond.static yX11_isPocket ∈ WG := wg (wt2 (List.mem_of_getElem? (i := 85) rfl)) rfl
theorem wq_2_86 : Cond.code yX11_isPocket cX11_isPocket 2 (some .boolean) ∈ WG := wg (wt2 (List.mem_of_getElem? (i := 86) rfl)) rfl
theorem wq_2_88 : Cond.methodLink RX7 50 yJ0_indexOf_0f7a4 ∈ WG := wg (wt2 (List.mem_of_getElem? (i := 88) rfl)) rfl
theorem wq_2_89 : Cond.instanceMethod yJ0_indexOf_0f7a4 ∈ WG := wg (wt2 (List.mem_of_getElem? (i := 89) rfl)) rfl
theorem wq_2_90 : Cond.selects RJ0 yJ0_indexOf_0f7a4 yJ0_indexOf_0f7a4 ∈ WG := wg (wt2 (List.mem_of_getElem? (i := 90) rfl)) rfl
theorem wq_2_91 : Cond.code yJ0_indexOf_0f7a4 cJ0_indexOf_0f7a4 2 (some .int) ∈ WG := wg (wt2 (List.mem_of_getElem? (i := 91) rfl)) rfl
theorem wq_2_92 : Cond.methodLink RJ0 633 yJ0_indexOf_7cf53 ∈ WG := wg (wt2 (List.mem_of_getElem? (i := 92) rfl)) rfl
theorem wq_2_93 : Cond.instanceMethod yJ0_indexOf_7cf53 ∈ WG := wg (wt2 (List.mem_of_getElem? (i := 93) rfl)) rfl
theorem wq_2_94 : Cond.selects RJ0 yJ0_indexOf_7cf53 yJ0_indexOf_7cf53 ∈ WG := wg (wt2 (List.mem_of_getElem? (i := 94) rfl)) rfl
theorem wq_2_95 : Cond.code yJ0_indexOf_7cf53 cJ0_indexOf_7cf53 3 (some .int) ∈ WG := wg (wt2 (List.mem_of_getElem? (i := 95) rfl)) rfl
theorem wq_2_96 : Cond.methodLink RJ0 492 yJ0_isLatin1_aae02 ∈ WG := wg (wt2 (List.mem_of_getElem? (i := 96) rfl)) rfl
theorem wq_2_97 : Cond.instanceMethod yJ0_isLatin1_aae02 ∈ WG := wg (wt2 (List.mem_of_getElem? (i := 97) rfl)) rfl
theorem wq_2_98 : Cond.selects RJ0 yJ0_isLatin1_aae02 yJ0_isLatin1_aae02 ∈ WG := wg (wt2 (List.mem_of_getElem? (i := 98) rfl)) rfl
theorem wq_2_99 : Cond.code yJ0_isLatin1_aae02 cJ0_isLatin1_aae02 1 (some .boolean) ∈ WG := wg (wt2 (List.mem_of_getElem? (i := 99) rfl)) rfl
theorem wq_2_100 : Cond.fieldLink RJ0 38 "java/lang/String" "COMPACT_STRINGS" "Z" ∈ WG := wg (wt2 (List.mem_of_getElem? (i := 100) rfl)) rfl
theorem wq_2_102 : Cond.methodLink RJ0 505 yJ0_length_8abf5 ∈ WG := wg (wt2 (List.mem_of_getElem? (i := 102) rfl)) rfl
theorem wq_2_103 : Cond.instanceMethod yJ0_length_8abf5 ∈ WG := wg (wt2 (List.mem_of_getElem? (i := 103) rfl)) rfl
theorem wq_2_104 : Cond.selects RJ0 yJ0_length_8abf5 yJ0_length_8abf5 ∈ WG := wg (wt2 (List.mem_of_getElem? (i := 104) rfl)) rfl
theorem wq_2_105 : Cond.code yJ0_length_8abf5 cJ0_length_8abf5 1 (some .int) ∈ WG := wg (wt2 (List.mem_of_getElem? (i := 105) rfl)) rfl
theorem wq_2_106 : Cond.methodLink RJ0 335 yJ0_coder_7d493 ∈ WG := wg (wt2 (List.mem_of_getElem? (i := 106) rfl)) rfl
theorem wq_2_107 : Cond.instanceMethod yJ0_coder_7d493 ∈ WG := wg (wt2 (List.mem_of_getElem? (i := 107) rfl)) rfl
theorem wq_2_108 : Cond.selects RJ0 yJ0_coder_7d493 yJ0_coder_7d493 ∈ WG := wg (wt2 (List.mem_of_getElem? (i := 108) rfl)) rfl
theorem wq_2_109 : Cond.code yJ0_coder_7d493 cJ0_coder_7d493 1 (some .byte) ∈ WG := wg (wt2 (List.mem_of_getElem? (i := 109) rfl)) rfl
theorem wq_2_110 : Cond.methodLink RJ0 637 yJ1_indexOf_4cfef ∈ WG := wg (wt2 (List.mem_of_getElem? (i := 110) rfl)) rfl
theorem wq_2_111 : Cond.static yJ1_indexOf_4cfef ∈ WG := wg (wt2 (List.mem_of_getElem? (i := 111) rfl)) rfl
theorem wq_2_112 : Cond.code yJ1_indexOf_4cfef cJ1_indexOf_4cfef 4 (some .int) ∈ WG := wg (wt2 (List.mem_of_getElem? (i := 112) rfl)) rfl
theorem wq_2_113 : Cond.methodLink RJ1 88 yJ1_canEncode_9a6ad ∈ WG := wg (wt2 (List.mem_of_getElem? (i := 113) rfl)) rfl
theorem wq_2_114 : Cond.static yJ1_canEncode_9a6ad ∈ WG := wg (wt2 (List.mem_of_getElem? (i := 114) rfl)) rfl
theorem wq_2_115 : Cond.code yJ1_canEncode_9a6ad cJ1_canEncode_9a6ad 1 (some .boolean) ∈ WG := wg (wt2 (List.mem_of_getElem? (i := 115) rfl)) rfl
theorem wq_2_116 : Cond.methodLink RJ1 92 yJ9_max_7cf53 ∈ WG := wg (wt2 (List.mem_of_getElem? (i := 116) rfl)) rfl
theorem wq_2_117 : Cond.static yJ9_max_7cf53 ∈ WG := wg (wt2 (List.mem_of_getElem? (i := 117) rfl)) rfl
theorem wq_2_118 : Cond.code yJ9_max_7cf53 cJ9_max_7cf53 2 (some .int) ∈ WG := wg (wt2 (List.mem_of_getElem? (i := 118) rfl)) rfl
theorem wq_2_119 : Cond.methodLink RJ1 38 yJ9_min_7cf53 ∈ WG := wg (wt2 (List.mem_of_getElem? (i := 119) rfl)) rfl
theorem wq_2_120 : Cond.static yJ9_min_7cf53 ∈ WG := wg (wt2 (List.mem_of_getElem? (i := 120) rfl)) rfl
theorem wq_2_121 : Cond.code yJ9_min_7cf53 cJ9_min_7cf53 2 (some .int) ∈ WG := wg (wt2 (List.mem_of_getElem? (i := 121) rfl)) rfl
theorem wq_2_122 : Cond.methodLink RJ1 95 yJ1_indexOfChar_4cfef ∈ WG := wg (wt2 (List.mem_of_getElem? (i := 122) rfl)) rfl
theorem wq_2_123 : Cond.static yJ1_indexOfChar_4cfef ∈ WG := wg (wt2 (List.mem_of_getElem? (i := 123) rfl)) rfl
theorem wq_2_124 : Cond.code yJ1_indexOfChar_4cfef cJ1_indexOfChar_4cfef 6 (some .int) ∈ WG := wg (wt2 (List.mem_of_getElem? (i := 124) rfl)) rfl
theorem wq_2_125 : Cond.methodLink RJ0 640 yJ2_indexOf_4cfef ∈ WG := wg (wt2 (List.mem_of_getElem? (i := 125) rfl)) rfl
theorem wq_2_126 : Cond.static yJ2_indexOf_4cfef ∈ WG := wg (wt2 (List.mem_of_getElem? (i := 126) rfl)) rfl
theorem wq_2_127 : Cond.code yJ2_indexOf_4cfef cJ2_indexOf_4cfef 4 (some .int) ∈ WG := wg (wt2 (List.mem_of_getElem? (i := 127) rfl)) rfl
theorem wq_2_128 : Cond.methodLink RJ2 224 yJ9_max_7cf53 ∈ WG := wg (wt2 (List.mem_of_getElem? (i := 128) rfl)) rfl
theorem wq_2_129 : Cond.methodLink RJ2 183 yJ9_min_7cf53 ∈ WG := wg (wt2 (List.mem_of_getElem? (i := 129) rfl)) rfl
theorem wq_2_130 : Cond.constant RJ2 227 (65536 : Int32) ∈ WG := wg (wt2 (List.mem_of_getElem? (i := 130) rfl)) rfl
theorem wq_2_131 : Cond.methodLink RJ2 228 yJ2_indexOfChar_4cfef ∈ WG := wg (wt2 (List.mem_of_getElem? (i := 131) rfl)) rfl
theorem wq_2_132 : Cond.static yJ2_indexOfChar_4cfef ∈ WG := wg (wt2 (List.mem_of_getElem? (i := 132) rfl)) rfl
theorem wq_2_133 : Cond.code yJ2_indexOfChar_4cfef cJ2_indexOfChar_4cfef 4 (some .int) ∈ WG := wg (wt2 (List.mem_of_getElem? (i := 133) rfl)) rfl
theorem wq_2_134 : Cond.methodLink RJ2 96 yJ2_checkBoundsBeginEnd_d044e ∈ WG := wg (wt2 (List.mem_of_getElem? (i := 134) rfl)) rfl
theorem wq_2_135 : Cond.static yJ2_checkBoundsBeginEnd_d044e ∈ WG := wg (wt2 (List.mem_of_getElem? (i := 135) rfl)) rfl
theorem wq_2_136 : Cond.code yJ2_checkBoundsBeginEnd_d044e cJ2_checkBoundsBeginEnd_d044e 3 none ∈ WG := wg (wt2 (List.mem_of_getElem? (i := 136) rfl)) rfl
theorem wq_2_137 : Cond.methodLink RJ2 48 yJ2_length_9d52b ∈ WG := wg (wt2 (List.mem_of_getElem? (i := 137) rfl)) rfl
theorem wq_2_138 : Cond.static yJ2_length_9d52b ∈ WG := wg (wt2 (List.mem_of_getElem? (i := 138) rfl)) rfl
theorem wq_2_139 : Cond.code yJ2_length_9d52b cJ2_length_9d52b 1 (some .int) ∈ WG := wg (wt2 (List.mem_of_getElem? (i := 139) rfl)) rfl
theorem wq_2_140 : Cond.methodLink RJ2 241 yJ0_checkBoundsBeginEnd_23922 ∈ WG := wg (wt2 (List.mem_of_getElem? (i := 140) rfl)) rfl
theorem wq_2_141 : Cond.static yJ0_checkBoundsBeginEnd_23922 ∈ WG := wg (wt2 (List.mem_of_getElem? (i := 141) rfl)) rfl
theorem wq_2_142 : Cond.code yJ0_checkBoundsBeginEnd_23922 cJ0_checkBoundsBeginEnd_23922 3 none ∈ WG := wg (wt2 (List.mem_of_getElem? (i := 142) rfl)) rfl
theorem wq_2_143 : Cond.fieldLink RJ0 1053 "jdk/internal/util/Preconditions" "SIOOBE_FORMATTER" "Ljava/util/function/BiFunction;" ∈ WG := wg (wt2 (List.mem_of_getElem? (i := 143) rfl)) rfl
theorem wq_2_145 : Cond.methodLink RJ0 1062 yJ3_checkFromToIndex_8c36e ∈ WG := wg (wt2 (List.mem_of_getElem? (i := 145) rfl)) rfl
theorem wq_2_146 : Cond.static yJ3_checkFromToIndex_8c36e ∈ WG := wg (wt2 (List.mem_of_getElem? (i := 146) rfl)) rfl
theorem wq_2_147 : Cond.code yJ3_checkFromToIndex_8c36e cJ3_checkFromToIndex_8c36e 4 (some .int) ∈ WG := wg (wt2 (List.mem_of_getElem? (i := 147) rfl)) rfl
theorem wq_2_148 : Cond.methodLink RJ2 244 yJ2_indexOfCharUnsafe_4cfef ∈ WG := wg (wt2 (List.mem_of_getElem? (i := 148) rfl)) rfl
theorem wq_2_149 : Cond.static yJ2_indexOfCharUnsafe_4cfef ∈ WG := wg (wt2 (List.mem_of_getElem? (i := 149) rfl)) rfl
theorem wq_2_150 : Cond.code yJ2_indexOfCharUnsafe_4cfef cJ2_indexOfCharUnsafe_4cfef 5 (some .int) ∈ WG := wg (wt2 (List.mem_of_getElem? (i := 150) rfl)) rfl
theorem wq_2_151 : Cond.methodLink RJ2 71 yJ2_getChar_3b067 ∈ WG := wg (wt2 (List.mem_of_getElem? (i := 151) rfl)) rfl
theorem wq_2_152 : Cond.static yJ2_getChar_3b067 ∈ WG := wg (wt2 (List.mem_of_getElem? (i := 152) rfl)) rfl
theorem wq_2_153 : Cond.code yJ2_getChar_3b067 cJ2_getChar_3b067 2 (some .char) ∈ WG := wg (wt2 (List.mem_of_getElem? (i := 153) rfl)) rfl
theorem wq_2_154 : Cond.fieldLink RJ2 44 "java/lang/StringUTF16" "$assertionsDisabled" "Z" ∈ WG := wg (wt2 (List.mem_of_getElem? (i := 154) rfl)) rfl
theorem wq_2_156 : Cond.fieldLink RJ2 59 "java/lang/StringUTF16" "HI_BYTE_SHIFT" "I" ∈ WG := wg (wt2 (List.mem_of_getElem? (i := 156) rfl)) rfl
theorem wq_2_158 : Cond.fieldLink RJ2 63 "java/lang/StringUTF16" "LO_BYTE_SHIFT" "I" ∈ WG := wg (wt2 (List.mem_of_getElem? (i := 158) rfl)) rfl
theorem wq_2_160 : Cond.methodLink RJ2 232 yJ2_indexOfSupplementary_4cfef ∈ WG := wg (wt2 (List.mem_of_getElem? (i := 160) rfl)) rfl
theorem wq_2_161 : Cond.static yJ2_indexOfSupplementary_4cfef ∈ WG := wg (wt2 (List.mem_of_getElem? (i := 161) rfl)) rfl
theorem wq_2_162 : Cond.code yJ2_indexOfSupplementary_4cfef cJ2_indexOfSupplementary_4cfef 7 (some .int) ∈ WG := wg (wt2 (List.mem_of_getElem? (i := 162) rfl)) rfl
theorem wq_2_163 : Cond.methodLink RJ2 164 yJ11_isValidCodePoint_9a6ad ∈ WG := wg (wt2 (List.mem_of_getElem? (i := 163) rfl)) rfl
theorem wq_2_164 : Cond.static yJ11_isValidCodePoint_9a6ad ∈ WG := wg (wt2 (List.mem_of_getElem? (i := 164) rfl)) rfl
theorem wq_2_165 : Cond.code yJ11_isValidCodePoint_9a6ad cJ11_isValidCodePoint_9a6ad 2 (some .boolean) ∈ WG := wg (wt2 (List.mem_of_getElem? (i := 165) rfl)) rfl
theorem wq_2_166 : Cond.methodLink RJ2 157 yJ11_highSurrogate_5068e ∈ WG := wg (wt2 (List.mem_of_getElem? (i := 166) rfl)) rfl
theorem wq_2_167 : Cond.static yJ11_highSurrogate_5068e ∈ WG := wg (wt2 (List.mem_of_getElem? (i := 167) rfl)) rfl
theorem wq_2_168 : Cond.code yJ11_highSurrogate_5068e cJ11_highSurrogate_5068e 1 (some .char) ∈ WG := wg (wt2 (List.mem_of_getElem? (i := 168) rfl)) rfl
theorem wq_2_169 : Cond.constant RJ11 110 (55232 : Int32) ∈ WG := wg (wt2 (List.mem_of_getElem? (i := 169) rfl)) rfl
theorem wq_2_170 : Cond.methodLink RJ2 161 yJ11_lowSurrogate_5068e ∈ WG := wg (wt2 (List.mem_of_getElem? (i := 170) rfl)) rfl
theorem wq_2_171 : Cond.static yJ11_lowSurrogate_5068e ∈ WG := wg (wt2 (List.mem_of_getElem? (i := 171) rfl)) rfl
theorem wq_2_172 : Cond.code yJ11_lowSurrogate_5068e cJ11_lowSurrogate_5068e 1 (some .char) ∈ WG := wg (wt2 (List.mem_of_getElem? (i := 172) rfl)) rfl
theorem wq_2_173 : Cond.constant RJ11 76 (56320 : Int32) ∈ WG := wg (wt2 (List.mem_of_getElem? (i := 173) rfl)) rfl
theorem wq_2_174 : Cond.methodLinkNest RX7 75 yX11_within "WhiteWanted" ∈ NW := nw (wt2 (List.mem_of_getElem? (i := 174) rfl)) rfl
theorem wq_2_175 : Cond.arrayClass .byte ∈ WG := wg (wt2 (List.mem_of_getElem? (i := 175) rfl)) rfl
theorem wq_2_176 : Cond.methodLink RL 27 yX11_table ∈ WG := wg (wt2 (List.mem_of_getElem? (i := 176) rfl)) rfl
theorem wq_2_177 : Cond.instanceMethod yX11_table ∈ WG := wg (wt2 (List.mem_of_getElem? (i := 177) rfl)) rfl
theorem wq_2_178 : Cond.selects RX11 yX11_table yX11_table ∈ WG := wg (wt2 (List.mem_of_getElem? (i := 178) rfl)) rfl
theorem wq_2_179 : Cond.code yX11_table cX11_table 1 (some .int) ∈ WG := wg (wt2 (List.mem_of_getElem? (i := 179) rfl)) rfl
theorem wq_2_180 : Cond.methodLink RX11 92 yX7_isWhole ∈ WG := wg (wt2 (List.mem_of_getElem? (i := 180) rfl)) rfl
theorem wq_2_181 : Cond.instanceMethod yX7_isWhole ∈ WG := wg (wt2 (List.mem_of_getElem? (i := 181) rfl)) rfl
theorem wq_2_182 : Cond.selects RX7 yX7_isWhole yX7_isWhole ∈ WG := wg (wt2 (List.mem_of_getElem? (i := 182) rfl)) rfl
theorem wq_2_183 : Cond.code yX7_isWhole cX7_isWhole 1 (some .boolean) ∈ WG := wg (wt2 (List.mem_of_getElem? (i := 183) rfl)) rfl
theorem wq_2_184 : Cond.methodLink RX7 27 yX7_firstFault ∈ WG := wg (wt2 (List.mem_of_getElem? (i := 184) rfl)) rfl
theorem wq_2_185 : Cond.methodLink RX11 95 yX3_clear ∈ WG := wg (wt2 (List.mem_of_getElem? (i := 185) rfl)) rfl
theorem wq_2_186 : Cond.instanceMethod yX3_clear ∈ WG := wg (wt2 (List.mem_of_getElem? (i := 186) rfl)) rfl
theorem wq_2_187 : Cond.selects RX3 yX3_clear yX3_clear ∈ WG := wg (wt2 (List.mem_of_getElem? (i := 187) rfl)) rfl
theorem wq_2_188 : Cond.code yX3_clear cX3_clear 1 none ∈ WG := wg (wt2 (List.mem_of_getElem? (i := 188) rfl)) rfl
theorem wq_2_189 : Cond.methodLink RX3 31 yX10_clear ∈ WG := wg (wt2 (List.mem_of_getElem? (i := 189) rfl)) rfl
theorem wq_2_190 : Cond.instanceMethod yX10_clear ∈ WG := wg (wt2 (List.mem_of_getElem? (i := 190) rfl)) rfl
theorem wq_2_191 : Cond.selects RX10 yX10_clear yX10_clear ∈ WG := wg (wt2 (List.mem_of_getElem? (i := 191) rfl)) rfl
theorem wq_2_192 : Cond.code yX10_clear cX10_clear 1 none ∈ WG := wg (wt2 (List.mem_of_getElem? (i := 192) rfl)) rfl
theorem wq_2_193 : Cond.methodLink RX11 102 yX7_readInto ∈ WG := wg (wt2 (List.mem_of_getElem? (i := 193) rfl)) rfl
theorem wq_2_194 : Cond.instanceMethod yX7_readInto ∈ WG := wg (wt2 (List.mem_of_getElem? (i := 194) rfl)) rfl
theorem wq_2_195 : Cond.selects RX7 yX7_readInto yX7_readInto ∈ WG := wg (wt2 (List.mem_of_getElem? (i := 195) rfl)) rfl
theorem wq_2_196 : Cond.code yX7_readInto cX7_readInto 4 none ∈ WG := wg (wt2 (List.mem_of_getElem? (i := 196) rfl)) rfl
theorem wq_2_197 : Cond.methodLink RX7 41 yX10_lay ∈ WG := wg (wt2 (List.mem_of_getElem? (i := 197) rfl)) rfl
theorem wq_2_198 : Cond.instanceMethod yX10_lay ∈ WG := wg (wt2 (List.mem_of_getElem? (i := 198) rfl)) rfl
theorem wq_2_199 : Cond.selects RX10 yX10_lay yX10_lay ∈ WG := wg (wt2 (List.mem_of_getElem? (i := 199) rfl)) rfl
theorem wq_2_200 : Cond.code yX10_lay cX10_lay 3 none ∈ WG := wg (wt2 (List.mem_of_getElem? (i := 200) rfl)) rfl
theorem wq_2_201 : Cond.constantLong RX10 44 (-1 : Int64) ∈ WG := wg (wt2 (List.mem_of_getElem? (i := 201) rfl)) rfl
theorem wq_2_202 : Cond.methodLink RX7 55 yX10_setKind ∈ WG := wg (wt2 (List.mem_of_getElem? (i := 202) rfl)) rfl
theorem wq_2_203 : Cond.instanceMethod yX10_setKind ∈ WG := wg (wt2 (List.mem_of_getElem? (i := 203) rfl)) rfl
theorem wq_2_204 : Cond.selects RX10 yX10_setKind yX10_setKind ∈ WG := wg (wt2 (List.mem_of_getElem? (i := 204) rfl)) rfl
theorem wq_2_205 : Cond.code yX10_setKind cX10_setKind 3 none ∈ WG := wg (wt2 (List.mem_of_getElem? (i := 205) rfl)) rfl
theorem wq_2_206 : Cond.methodLink RX7 61 yX10_setWorth ∈ WG := wg (wt2 (List.mem_of_getElem? (i := 206) rfl)) rfl
theorem wq_2_207 : Cond.instanceMethod yX10_setWorth ∈ WG := wg (wt2 (List.mem_of_getElem? (i := 207) rfl)) rfl
theorem wq_2_208 : Cond.selects RX10 yX10_setWorth yX10_setWorth ∈ WG := wg (wt2 (List.mem_of_getElem? (i := 208) rfl)) rfl
theorem wq_2_209 : Cond.code yX10_setWorth cX10_setWorth 3 none ∈ WG := wg (wt2 (List.mem_of_getElem? (i := 209) rfl)) rfl
theorem wq_2_210 : Cond.methodLink RL 31 yX11_ball ∈ WG := wg (wt2 (List.mem_of_getElem? (i := 210) rfl)) rfl
theorem wq_2_211 : Cond.instanceMethod yX11_ball ∈ WG := wg (wt2 (List.mem_of_getElem? (i := 211) rfl)) rfl
theorem wq_2_212 : Cond.selects RX11 yX11_ball yX11_ball ∈ WG := wg (wt2 (List.mem_of_getElem? (i := 212) rfl)) rfl
theorem wq_2_213 : Cond.code yX11_ball cX11_ball 3 (some .int) ∈ WG := wg (wt2 (List.mem_of_getElem? (i := 213) rfl)) rfl
theorem wq_2_214 : Cond.methodLink RX11 116 yX11_isBall ∈ WG := wg (wt2 (List.mem_of_getElem? (i := 214) rfl)) rfl
theorem wq_2_216 : Cond.instanceMethod yX11_isBall ∈ WG := wg (wt2 (List.mem_of_getElem? (i := 216) rfl)) rfl
theorem wq_2_217 : Cond.code yX11_isBall cX11_isBall 2 (some .boolean) ∈ WG := wg (wt2 (List.mem_of_getElem? (i := 217) rfl)) rfl
theorem wq_2_218 : Cond.methodLink RX11 151 yX11_hasTable ∈ WG := wg (wt2 (List.mem_of_getElem? (i := 218) rfl)) rfl
theorem wq_2_220 : Cond.instanceMethod yX11_hasTable ∈ WG := wg (wt2 (List.mem_of_getElem? (i := 220) rfl)) rfl
theorem wq_2_221 : Cond.code yX11_hasTable cX11_hasTable 1 (some .boolean) ∈ WG := wg (wt2 (List.mem_of_getElem? (i := 221) rfl)) rfl
theorem wq_2_222 : Cond.methodLink RX11 120 yX10_kindOf ∈ WG := wg (wt2 (List.mem_of_getElem? (i := 222) rfl)) rfl
theorem wq_2_223 : Cond.instanceMethod yX10_kindOf ∈ WG := wg (wt2 (List.mem_of_getElem? (i := 223) rfl)) rfl
theorem wq_2_224 : Cond.selects RX10 yX10_kindOf yX10_kindOf ∈ WG := wg (wt2 (List.mem_of_getElem? (i := 224) rfl)) rfl
theorem wq_2_225 : Cond.code yX10_kindOf cX10_kindOf 2 (some .int) ∈ WG := wg (wt2 (List.mem_of_getElem? (i := 225) rfl)) rfl
theorem wq_2_226 : Cond.methodLink RX11 124 yX10_worthOf ∈ WG := wg (wt2 (List.mem_of_getElem? (i := 226) rfl)) rfl
theorem wq_2_227 : Cond.instanceMethod yX10_worthOf ∈ WG := wg (wt2 (List.mem_of_getElem? (i := 227) rfl)) rfl
theorem wq_2_228 : Cond.selects RX10 yX10_worthOf yX10_worthOf ∈ WG := wg (wt2 (List.mem_of_getElem? (i := 228) rfl)) rfl
theorem wq_2_229 : Cond.code yX10_worthOf cX10_worthOf 2 (some .int) ∈ WG := wg (wt2 (List.mem_of_getElem? (i := 229) rfl)) rfl
theorem wq_2_230 : Cond.methodLink RX11 127 yX10_cellOf ∈ WG := wg (wt2 (List.mem_of_getElem? (i := 230) rfl)) rfl
theorem wq_2_231 : Cond.instanceMethod yX10_cellOf ∈ WG := wg (wt2 (List.mem_of_getElem? (i := 231) rfl)) rfl
theorem wq_2_232 : Cond.selects RX10 yX10_cellOf yX10_cellOf ∈ WG := wg (wt2 (List.mem_of_getElem? (i := 232) rfl)) rfl
theorem wq_2_233 : Cond.code yX10_cellOf cX10_cellOf 2 (some .int) ∈ WG := wg (wt2 (List.mem_of_getElem? (i := 233) rfl)) rfl
theorem wq_2_234 : Cond.methodLink RX11 130 yX4_possibleKinds ∈ WG := wg (wt2 (List.mem_of_getElem? (i := 234) rfl)) rfl
theorem wq_2_235 : Cond.instanceMethod yX4_possibleKinds ∈ WG := wg (wt2 (List.mem_of_getElem? (i := 235) rfl)) rfl
theorem wq_2_236 : Cond.selects RX4 yX4_possibleKinds yX4_possibleKinds ∈ WG := wg (wt2 (List.mem_of_getElem? (i := 236) rfl)) rfl
theorem wq_2_237 : Cond.code yX4_possibleKinds cX4_possibleKinds 7 (some .int) ∈ WG := wg (wt2 (List.mem_of_getElem? (i := 237) rfl)) rfl
theorem wq_2_238 : Cond.methodLink RX4 38 yX4_endAs ∈ WG := wg (wt2 (List.mem_of_getElem? (i := 238) rfl)) rfl
theorem wq_3_0 : Cond.instanceMethod yX4_endAs ∈ WG := wg (wt3 (List.mem_of_getElem? (i := 0) rfl)) rfl
theorem wq_3_1 : Cond.code yX4_endAs cX4_endAs 6 (some .int) ∈ WG := wg (wt3 (List.mem_of_getElem? (i := 1) rfl)) rfl
theorem wq_3_2 : Cond.methodLink RX4 59 yX9_begin ∈ WG := wg (wt3 (List.mem_of_getElem? (i := 2) rfl)) rfl
theorem wq_3_3 : Cond.instanceMethod yX9_begin ∈ WG := wg (wt3 (List.mem_of_getElem? (i := 3) rfl)) rfl
theorem wq_3_4 : Cond.selects RX9 yX9_begin yX9_begin ∈ WG := wg (wt3 (List.mem_of_getElem? (i := 4) rfl)) rfl
theorem wq_3_5 : Cond.code yX9_begin cX9_begin 2 none ∈ WG := wg (wt3 (List.mem_of_getElem? (i := 5) rfl)) rfl
theorem wq_3_6 : Cond.methodLink RX9 22 yX10_copy ∈ WG := wg (wt3 (List.mem_of_getElem? (i := 6) rfl)) rfl
theorem wq_3_7 : Cond.instanceMethod yX10_copy ∈ WG := wg (wt3 (List.mem_of_getElem? (i := 7) rfl)) rfl
theorem wq_3_8 : Cond.selects RX10 yX10_copy yX10_copy ∈ WG := wg (wt3 (List.mem_of_getElem? (i := 8) rfl)) rfl
theorem wq_3_9 : Cond.code yX10_copy cX10_copy 2 none ∈ WG := wg (wt3 (List.mem_of_getElem? (i := 9) rfl)) rfl
theorem wq_3_10 : Cond.methodLink RX10 31 ⟨"java/lang/System", "arraycopy", "(Ljava/lang/Object;ILjava/lang/Object;II)V"⟩ ∈ WG := wg (wt3 (List.mem_of_getElem? (i := 10) rfl)) rfl
theorem wq_3_11 : Cond.static ⟨"java/lang/System", "arraycopy", "(Ljava/lang/Object;ILjava/lang/Object;II)V"⟩ ∈ WG := wg (wt3 (List.mem_of_getElem? (i := 11) rfl)) rfl
theorem wq_3_12 : Cond.native ⟨"java/lang/System", "arraycopy", "(Ljava/lang/Object;ILjava/lang/Object;II)V"⟩ ∈ WG := wg (wt3 (List.mem_of_getElem? (i := 12) rfl)) rfl
theorem wq_3_13 : Cond.methodLink RX4 66 yX10_setKind ∈ WG := wg (wt3 (List.mem_of_getElem? (i := 13) rfl)) rfl
theorem wq_3_14 : Cond.methodLink RX4 72 yX9_shoot ∈ WG := wg (wt3 (List.mem_of_getElem? (i := 14) rfl)) rfl
theorem wq_3_15 : Cond.instanceMethod yX9_shoot ∈ WG := wg (wt3 (List.mem_of_getElem? (i := 15) rfl)) rfl
theorem wq_3_16 : Cond.selects RX9 yX9_shoot yX9_shoot ∈ WG := wg (wt3 (List.mem_of_getElem? (i := 16) rfl)) rfl
theorem wq_3_17 : Cond.code yX9_shoot cX9_shoot 5 none ∈ WG := wg (wt3 (List.mem_of_getElem? (i := 17) rfl)) rfl
theorem wq_3_18 : Cond.methodLink RX9 42 yX9_roll ∈ WG := wg (wt3 (List.mem_of_getElem? (i := 18) rfl)) rfl
theorem wq_3_20 : Cond.instanceMethod yX9_roll ∈ WG := wg (wt3 (List.mem_of_getElem? (i := 20) rfl)) rfl
theorem wq_3_21 : Cond.code yX9_roll cX9_roll 12 none ∈ WG := wg (wt3 (List.mem_of_getElem? (i := 21) rfl)) rfl
theorem wq_3_22 : Cond.methodLink RX9 64 yX10_cellOf ∈ WG := wg (wt3 (List.mem_of_getElem? (i := 22) rfl)) rfl
theorem wq_3_23 : Cond.methodLink RX9 68 yX10_rowStep ∈ WG := wg (wt3 (List.mem_of_getElem? (i := 23) rfl)) rfl
theorem wq_3_24 : Cond.static yX10_rowStep ∈ WG := wg (wt3 (List.mem_of_getElem? (i := 24) rfl)) rfl
theorem wq_3_25 : Cond.code yX10_rowStep cX10_rowStep 1 (some .int) ∈ WG := wg (wt3 (List.mem_of_getElem? (i := 25) rfl)) rfl
theorem wq_3_26 : Cond.fieldLink RX10 76 "WhiteWanted$Table" "ROW_STEPS" "[I" ∈ WG := wg (wt3 (List.mem_of_getElem? (i := 26) rfl)) rfl
theorem wq_3_28 : Cond.methodLink RX9 71 yX10_columnStep ∈ WG := wg (wt3 (List.mem_of_getElem? (i := 28) rfl)) rfl
theorem wq_3_29 : Cond.static yX10_columnStep ∈ WG := wg (wt3 (List.mem_of_getElem? (i := 29) rfl)) rfl
theorem wq_3_30 : Cond.code yX10_columnStep cX10_columnStep 1 (some .int) ∈ WG := wg (wt3 (List.mem_of_getElem? (i := 30) rfl)) rfl
theorem wq_3_31 : Cond.fieldLink RX10 79 "WhiteWanted$Table" "COLUMN_STEPS" "[I" ∈ WG := wg (wt3 (List.mem_of_getElem? (i := 31) rfl)) rfl
theorem wq_3_33 : Cond.methodLinkNest RX9 74 yX11_isRow "WhiteWanted" ∈ NW := nw (wt3 (List.mem_of_getElem? (i := 33) rfl)) rfl
theorem wq_3_34 : Cond.methodLinkNest RX9 78 yX11_isColumn "WhiteWanted" ∈ NW := nw (wt3 (List.mem_of_getElem? (i := 34) rfl)) rfl
theorem wq_3_35 : Cond.methodLink RX9 81 yX10_kindOf ∈ WG := wg (wt3 (List.mem_of_getElem? (i := 35) rfl)) rfl
theorem wq_3_36 : Cond.methodLink RX9 84 yX9_kind ∈ WG := wg (wt3 (List.mem_of_getElem? (i := 36) rfl)) rfl
theorem wq_3_38 : Cond.instanceMethod yX9_kind ∈ WG := wg (wt3 (List.mem_of_getElem? (i := 38) rfl)) rfl
theorem wq_3_39 : Cond.code yX9_kind cX9_kind 2 (some (.object "WhiteWanted$Ball")) ∈ WG := wg (wt3 (List.mem_of_getElem? (i := 39) rfl)) rfl
theorem wq_3_40 : Cond.methodLink RX9 88 yX1_stopsAtCushion ∈ WG := wg (wt3 (List.mem_of_getElem? (i := 40) rfl)) rfl
theorem wq_3_41 : Cond.instanceMethod yX1_stopsAtCushion ∈ WG := wg (wt3 (List.mem_of_getElem? (i := 41) rfl)) rfl
theorem wq_3_42 : Cond.selects RX1 yX1_stopsAtCushion yX1_stopsAtCushion ∈ WG := wg (wt3 (List.mem_of_getElem? (i := 42) rfl)) rfl
theorem wq_3_43 : Cond.sameMethod "WhiteWanted$Ball" "WhiteWanted$Ball" "stopsAtCushion" "()Z" ∈ WG := wg (wt3 (List.mem_of_getElem? (i := 43) rfl)) rfl
theorem wq_3_44 : Cond.selects RX2 yX1_stopsAtCushion yX2_stopsAtCushion ∈ WG := wg (wt3 (List.mem_of_getElem? (i := 44) rfl)) rfl
theorem wq_3_45 : Cond.instanceMethod yX2_stopsAtCushion ∈ WG := wg (wt3 (List.mem_of_getElem? (i := 45) rfl)) rfl
theorem wq_3_46 : Cond.code yX2_stopsAtCushion cX2_stopsAtCushion 1 (some .boolean) ∈ WG := wg (wt3 (List.mem_of_getElem? (i := 46) rfl)) rfl
theorem wq_3_47 : Cond.selects RX5 yX1_stopsAtCushion yX1_stopsAtCushion ∈ WG := wg (wt3 (List.mem_of_getElem? (i := 47) rfl)) rfl
theorem wq_3_48 : Cond.selects RX6 yX1_stopsAtCushion yX1_stopsAtCushion ∈ WG := wg (wt3 (List.mem_of_getElem? (i := 48) rfl)) rfl
theorem wq_3_49 : Cond.selects RX8 yX1_stopsAtCushion yX1_stopsAtCushion ∈ WG := wg (wt3 (List.mem_of_getElem? (i := 49) rfl)) rfl
theorem wq_3_50 : Cond.code yX1_stopsAtCushion cX1_stopsAtCushion 1 (some .boolean) ∈ WG := wg (wt3 (List.mem_of_getElem? (i := 50) rfl)) rfl
theorem wq_3_51 : Cond.methodLink RX9 93 yX9_turned ∈ WG := wg (wt3 (List.mem_of_getElem? (i := 51) rfl)) rfl
theorem wq_3_52 : Cond.static yX9_turned ∈ WG := wg (wt3 (List.mem_of_getElem? (i := 52) rfl)) rfl
theorem wq_3_53 : Cond.code yX9_turned cX9_turned 4 (some .int) ∈ WG := wg (wt3 (List.mem_of_getElem? (i := 53) rfl)) rfl
theorem wq_3_54 : Cond.methodLink RX9 97 yX10_ballIn ∈ WG := wg (wt3 (List.mem_of_getElem? (i := 54) rfl)) rfl
theorem wq_3_55 : Cond.instanceMethod yX10_ballIn ∈ WG := wg (wt3 (List.mem_of_getElem? (i := 55) rfl)) rfl
theorem wq_3_56 : Cond.selects RX10 yX10_ballIn yX10_ballIn ∈ WG := wg (wt3 (List.mem_of_getElem? (i := 56) rfl)) rfl
theorem wq_3_57 : Cond.code yX10_ballIn cX10_ballIn 3 (some .int) ∈ WG := wg (wt3 (List.mem_of_getElem? (i := 57) rfl)) rfl
theorem wq_3_58 : Cond.methodLink RX9 100 yX9_noteWhiteHit ∈ WG := wg (wt3 (List.mem_of_getElem? (i := 58) rfl)) rfl
theorem wq_3_60 : Cond.instanceMethod yX9_noteWhiteHit ∈ WG := wg (wt3 (List.mem_of_getElem? (i := 60) rfl)) rfl
theorem wq_3_61 : Cond.code yX9_noteWhiteHit cX9_noteWhiteHit 3 none ∈ WG := wg (wt3 (List.mem_of_getElem? (i := 61) rfl)) rfl
theorem wq_3_62 : Cond.methodLink RX9 104 yX1_powerWhenHit ∈ WG := wg (wt3 (List.mem_of_getElem? (i := 62) rfl)) rfl
theorem wq_3_63 : Cond.instanceMethod yX1_powerWhenHit ∈ WG := wg (wt3 (List.mem_of_getElem? (i := 63) rfl)) rfl
theorem wq_3_64 : Cond.selects RX1 yX1_powerWhenHit yX1_powerWhenHit ∈ WG := wg (wt3 (List.mem_of_getElem? (i := 64) rfl)) rfl
theorem wq_3_65 : Cond.sameMethod "WhiteWanted$Ball" "WhiteWanted$Ball" "powerWhenHit" "(I)I" ∈ WG := wg (wt3 (List.mem_of_getElem? (i := 65) rfl)) rfl
theorem wq_3_66 : Cond.selects RX2 yX1_powerWhenHit yX1_powerWhenHit ∈ WG := wg (wt3 (List.mem_of_getElem? (i := 66) rfl)) rfl
theorem wq_3_67 : Cond.selects RX5 yX1_powerWhenHit yX5_powerWhenHit ∈ WG := wg (wt3 (List.mem_of_getElem? (i := 67) rfl)) rfl
theorem wq_3_68 : Cond.instanceMethod yX5_powerWhenHit ∈ WG := wg (wt3 (List.mem_of_getElem? (i := 68) rfl)) rfl
theorem wq_3_69 : Cond.code yX5_powerWhenHit cX5_powerWhenHit 2 (some .int) ∈ WG := wg (wt3 (List.mem_of_getElem? (i := 69) rfl)) rfl
theorem wq_3_70 : Cond.selects RX6 yX1_powerWhenHit yX6_powerWhenHit ∈ WG := wg (wt3 (List.mem_of_getElem? (i := 70) rfl)) rfl
theorem wq_3_71 : Cond.instanceMethod yX6_powerWhenHit ∈ WG := wg (wt3 (List.mem_of_getElem? (i := 71) rfl)) rfl
theorem wq_3_72 : Cond.code yX6_powerWhenHit cX6_powerWhenHit 2 (some .int) ∈ WG := wg (wt3 (List.mem_of_getElem? (i := 72) rfl)) rfl
theorem wq_3_73 : Cond.selects RX8 yX1_powerWhenHit yX8_powerWhenHit ∈ WG := wg (wt3 (List.mem_of_getElem? (i := 73) rfl)) rfl
theorem wq_3_74 : Cond.instanceMethod yX8_powerWhenHit ∈ WG := wg (wt3 (List.mem_of_getElem? (i := 74) rfl)) rfl
theorem wq_3_75 : Cond.code yX8_powerWhenHit cX8_powerWhenHit 2 (some .int) ∈ WG := wg (wt3 (List.mem_of_getElem? (i := 75) rfl)) rfl
theorem wq_3_76 : Cond.code yX1_powerWhenHit cX1_powerWhenHit 2 (some .int) ∈ WG := wg (wt3 (List.mem_of_getElem? (i := 76) rfl)) rfl
theorem wq_3_77 : Cond.methodLinkNest RX9 107 yX11_isPocket "WhiteWanted" ∈ NW := nw (wt3 (List.mem_of_getElem? (i := 77) rfl)) rfl
theorem wq_3_78 : Cond.methodLink RX9 110 yX10_lay ∈ WG := wg (wt3 (List.mem_of_getElem? (i := 78) rfl)) rfl
theorem wq_3_79 : Cond.methodLink RX9 113 yX9_notePotted ∈ WG := wg (wt3 (List.mem_of_getElem? (i := 79) rfl)) rfl
theorem wq_3_81 : Cond.instanceMethod yX9_notePotted ∈ WG := wg (wt3 (List.mem_of_getElem? (i := 81) rfl)) rfl
theorem wq_3_82 : Cond.code yX9_notePotted cX9_notePotted 2 none ∈ WG := wg (wt3 (List.mem_of_getElem? (i := 82) rfl)) rfl
theorem wq_3_83 : Cond.methodLink RX9 46 yX9_isWhitePotted ∈ WG := wg (wt3 (List.mem_of_getElem? (i := 83) rfl)) rfl
theorem wq_3_85 : Cond.instanceMethod yX9_isWhitePotted ∈ WG := wg (wt3 (List.mem_of_getElem? (i := 85) rfl)) rfl
theorem wq_3_86 : Cond.code yX9_isWhitePotted cX9_isWhitePotted 1 (some .boolean) ∈ WG := wg (wt3 (List.mem_of_getElem? (i := 86) rfl)) rfl
theorem wq_3_87 : Cond.methodLink RX9 54 yX9_worthPotted ∈ WG := wg (wt3 (List.mem_of_getElem? (i := 87) rfl)) rfl
theorem wq_3_89 : Cond.instanceMethod yX9_worthPotted ∈ WG := wg (wt3 (List.mem_of_getElem? (i := 89) rfl)) rfl
theorem wq_3_90 : Cond.code yX9_worthPotted cX9_worthPotted 3 (some .int) ∈ WG := wg (wt3 (List.mem_of_getElem? (i := 90) rfl)) rfl
theorem wq_3_91 : Cond.methodLink RX9 117 yX10_worthOf ∈ WG := wg (wt3 (List.mem_of_getElem? (i := 91) rfl)) rfl
theorem wq_3_92 : Cond.methodLink RX9 61 yX10_returnWhite ∈ WG := wg (wt3 (List.mem_of_getElem? (i := 92) rfl)) rfl
theorem wq_3_93 : Cond.instanceMethod yX10_returnWhite ∈ WG := wg (wt3 (List.mem_of_getElem? (i := 93) rfl)) rfl
theorem wq_3_94 : Cond.selects RX10 yX10_returnWhite yX10_returnWhite ∈ WG := wg (wt3 (List.mem_of_getElem? (i := 94) rfl)) rfl
theorem wq_3_95 : Cond.code yX10_returnWhite cX10_returnWhite 3 none ∈ WG := wg (wt3 (List.mem_of_getElem? (i := 95) rfl)) rfl
theorem wq_3_96 : Cond.methodLink RX10 66 yX10_ballIn ∈ WG := wg (wt3 (List.mem_of_getElem? (i := 96) rfl)) rfl
theorem wq_3_97 : Cond.methodLinkNest RX10 69 yX11_isPocket "WhiteWanted" ∈ NW := nw (wt3 (List.mem_of_getElem? (i := 97) rfl)) rfl
theorem wq_3_98 : Cond.methodLink RX10 72 yX10_lay ∈ WG := wg (wt3 (List.mem_of_getElem? (i := 98) rfl)) rfl
theorem wq_3_99 : Cond.methodLink RX4 76 yX10_cellOf ∈ WG := wg (wt3 (List.mem_of_getElem? (i := 99) rfl)) rfl
theorem wq_3_100 : Cond.methodLink RX11 134 yX4_tellingDirection ∈ WG := wg (wt3 (List.mem_of_getElem? (i := 100) rfl)) rfl
theorem wq_3_101 : Cond.instanceMethod yX4_tellingDirection ∈ WG := wg (wt3 (List.mem_of_getElem? (i := 101) rfl)) rfl
theorem wq_3_102 : Cond.selects RX4 yX4_tellingDirection yX4_tellingDirection ∈ WG := wg (wt3 (List.mem_of_getElem? (i := 102) rfl)) rfl
theorem wq_3_103 : Cond.code yX4_tellingDirection cX4_tellingDirection 8 (some .int) ∈ WG := wg (wt3 (List.mem_of_getElem? (i := 103) rfl)) rfl
theorem wq_3_104 : Cond.methodLink RX4 45 yX4_possibleKinds ∈ WG := wg (wt3 (List.mem_of_getElem? (i := 104) rfl)) rfl
theorem wq_3_105 : Cond.methodLink RX4 49 yX4_leftAtWorst ∈ WG := wg (wt3 (List.mem_of_getElem? (i := 105) rfl)) rfl
theorem wq_3_107 : Cond.instanceMethod yX4_leftAtWorst ∈ WG := wg (wt3 (List.mem_of_getElem? (i := 107) rfl)) rfl
theorem wq_3_108 : Cond.code yX4_leftAtWorst cX4_leftAtWorst 9 (some .int) ∈ WG := wg (wt3 (List.mem_of_getElem? (i := 108) rfl)) rfl
theorem wq_3_109 : Cond.methodLink RX4 53 yJ9_max_7cf53 ∈ WG := wg (wt3 (List.mem_of_getElem? (i := 109) rfl)) rfl
theorem wq_3_110 : Cond.methodLink RX11 137 yX11_wantedCells ∈ WG := wg (wt3 (List.mem_of_getElem? (i := 110) rfl)) rfl
theorem wq_3_112 : Cond.instanceMethod yX11_wantedCells ∈ WG := wg (wt3 (List.mem_of_getElem? (i := 112) rfl)) rfl
theorem wq_3_113 : Cond.code yX11_wantedCells cX11_wantedCells 3 (some .long) ∈ WG := wg (wt3 (List.mem_of_getElem? (i := 113) rfl)) rfl
theorem wq_3_114 : Cond.methodLink RX11 275 yX0_cellsToPotFrom ∈ WG := wg (wt3 (List.mem_of_getElem? (i := 114) rfl)) rfl
theorem wq_3_115 : Cond.instanceMethod yX0_cellsToPotFrom ∈ WG := wg (wt3 (List.mem_of_getElem? (i := 115) rfl)) rfl
theorem wq_3_116 : Cond.selects RX0 yX0_cellsToPotFrom yX0_cellsToPotFrom ∈ WG := wg (wt3 (List.mem_of_getElem? (i := 116) rfl)) rfl
theorem wq_3_117 : Cond.code yX0_cellsToPotFrom cX0_cellsToPotFrom 8 (some .long) ∈ WG := wg (wt3 (List.mem_of_getElem? (i := 117) rfl)) rfl
theorem wq_3_118 : Cond.methodLink RX0 56 yX10_ballIn ∈ WG := wg (wt3 (List.mem_of_getElem? (i := 118) rfl)) rfl
theorem wq_3_119 : Cond.methodLinkNest RX0 61 yX11_isPocket "WhiteWanted" ∈ NW := nw (wt3 (List.mem_of_getElem? (i := 119) rfl)) rfl
theorem wq_3_120 : Cond.methodLink RX0 65 yX0_canPotFrom ∈ WG := wg (wt3 (List.mem_of_getElem? (i := 120) rfl)) rfl
theorem wq_3_122 : Cond.instanceMethod yX0_canPotFrom ∈ WG := wg (wt3 (List.mem_of_getElem? (i := 122) rfl)) rfl
theorem wq_3_123 : Cond.code yX0_canPotFrom cX0_canPotFrom 5 (some .boolean) ∈ WG := wg (wt3 (List.mem_of_getElem? (i := 123) rfl)) rfl
theorem wq_3_124 : Cond.methodLink RX0 69 yX9_begin ∈ WG := wg (wt3 (List.mem_of_getElem? (i := 124) rfl)) rfl
theorem wq_3_125 : Cond.methodLink RX0 77 yX10_lay ∈ WG := wg (wt3 (List.mem_of_getElem? (i := 125) rfl)) rfl
theorem wq_3_126 : Cond.methodLink RX0 46 yX0_directionOf ∈ WG := wg (wt3 (List.mem_of_getElem? (i := 126) rfl)) rfl
theorem wq_3_127 : Cond.static yX0_directionOf ∈ WG := wg (wt3 (List.mem_of_getElem? (i := 127) rfl)) rfl
theorem wq_3_128 : Cond.code yX0_directionOf cX0_directionOf 1 (some .int) ∈ WG := wg (wt3 (List.mem_of_getElem? (i := 128) rfl)) rfl
theorem wq_3_129 : Cond.methodLink RX0 50 yX0_strengthOf ∈ WG := wg (wt3 (List.mem_of_getElem? (i := 129) rfl)) rfl
theorem wq_3_130 : Cond.static yX0_strengthOf ∈ WG := wg (wt3 (List.mem_of_getElem? (i := 130) rfl)) rfl
theorem wq_3_131 : Cond.code yX0_strengthOf cX0_strengthOf 1 (some .int) ∈ WG := wg (wt3 (List.mem_of_getElem? (i := 131) rfl)) rfl
theorem wq_3_132 : Cond.methodLink RX0 80 yX9_shoot ∈ WG := wg (wt3 (List.mem_of_getElem? (i := 132) rfl)) rfl
theorem wq_3_133 : Cond.methodLink RX0 84 yX9_hasPotted ∈ WG := wg (wt3 (List.mem_of_getElem? (i := 133) rfl)) rfl
theorem wq_3_134 : Cond.instanceMethod yX9_hasPotted ∈ WG := wg (wt3 (List.mem_of_getElem? (i := 134) rfl)) rfl
theorem wq_3_135 : Cond.selects RX9 yX9_hasPotted yX9_hasPotted ∈ WG := wg (wt3 (List.mem_of_getElem? (i := 135) rfl)) rfl
theorem wq_3_136 : Cond.code yX9_hasPotted cX9_hasPotted 2 (some .boolean) ∈ WG := wg (wt3 (List.mem_of_getElem? (i := 136) rfl)) rfl
theorem wq_3_137 : Cond.methodLink RX11 141 yJ13_bitCount_95d88 ∈ WG := wg (wt3 (List.mem_of_getElem? (i := 137) rfl)) rfl
theorem wq_3_138 : Cond.static yJ13_bitCount_95d88 ∈ WG := wg (wt3 (List.mem_of_getElem? (i := 138) rfl)) rfl
theorem wq_3_139 : Cond.code yJ13_bitCount_95d88 cJ13_bitCount_95d88 2 (some .int) ∈ WG := wg (wt3 (List.mem_of_getElem? (i := 139) rfl)) rfl
theorem wq_3_140 : Cond.constantLong RJ13 314 (6148914691236517205 : Int64) ∈ WG := wg (wt3 (List.mem_of_getElem? (i := 140) rfl)) rfl
theorem wq_3_141 : Cond.constantLong RJ13 316 (3689348814741910323 : Int64) ∈ WG := wg (wt3 (List.mem_of_getElem? (i := 141) rfl)) rfl
theorem wq_3_142 : Cond.constantLong RJ13 318 (1085102592571150095 : Int64) ∈ WG := wg (wt3 (List.mem_of_getElem? (i := 142) rfl)) rfl
theorem wq_3_143 : Cond.methodLink RL 36 yX11_as ∈ WG := wg (wt3 (List.mem_of_getElem? (i := 143) rfl)) rfl
theorem wq_3_144 : Cond.instanceMethod yX11_as ∈ WG := wg (wt3 (List.mem_of_getElem? (i := 144) rfl)) rfl
theorem wq_3_145 : Cond.selects RX11 yX11_as yX11_as ∈ WG := wg (wt3 (List.mem_of_getElem? (i := 145) rfl)) rfl
theorem wq_3_146 : Cond.code yX11_as cX11_as 3 (some .int) ∈ WG := wg (wt3 (List.mem_of_getElem? (i := 146) rfl)) rfl
theorem wq_3_147 : Cond.methodLink RX11 147 yX11_isOfKind ∈ WG := wg (wt3 (List.mem_of_getElem? (i := 147) rfl)) rfl
theorem wq_3_149 : Cond.instanceMethod yX11_isOfKind ∈ WG := wg (wt3 (List.mem_of_getElem? (i := 149) rfl)) rfl
theorem wq_3_150 : Cond.code yX11_isOfKind cX11_isOfKind 4 (some .boolean) ∈ WG := wg (wt3 (List.mem_of_getElem? (i := 150) rfl)) rfl
theorem wq_3_151 : Cond.methodLink RL 40 yX11_cell ∈ WG := wg (wt3 (List.mem_of_getElem? (i := 151) rfl)) rfl
theorem wq_3_152 : Cond.instanceMethod yX11_cell ∈ WG := wg (wt3 (List.mem_of_getElem? (i := 152) rfl)) rfl
theorem wq_3_153 : Cond.selects RX11 yX11_cell yX11_cell ∈ WG := wg (wt3 (List.mem_of_getElem? (i := 153) rfl)) rfl
theorem wq_3_154 : Cond.code yX11_cell cX11_cell 2 (some .int) ∈ WG := wg (wt3 (List.mem_of_getElem? (i := 154) rfl)) rfl
theorem wq_3_155 : Cond.methodLink RX11 154 yX11_isCell ∈ WG := wg (wt3 (List.mem_of_getElem? (i := 155) rfl)) rfl
theorem wq_3_156 : Cond.static yX11_isCell ∈ WG := wg (wt3 (List.mem_of_getElem? (i := 156) rfl)) rfl
theorem wq_3_157 : Cond.code yX11_isCell cX11_isCell 1 (some .boolean) ∈ WG := wg (wt3 (List.mem_of_getElem? (i := 157) rfl)) rfl
theorem wq_3_158 : Cond.methodLink RX11 157 yX11_isPocket ∈ WG := wg (wt3 (List.mem_of_getElem? (i := 158) rfl)) rfl
theorem wq_3_159 : Cond.methodLink RX11 160 yX10_ballIn ∈ WG := wg (wt3 (List.mem_of_getElem? (i := 159) rfl)) rfl
theorem wq_3_160 : Cond.methodLink RL 44 yX11_sees ∈ WG := wg (wt3 (List.mem_of_getElem? (i := 160) rfl)) rfl
theorem wq_3_161 : Cond.instanceMethod yX11_sees ∈ WG := wg (wt3 (List.mem_of_getElem? (i := 161) rfl)) rfl
theorem wq_3_162 : Cond.selects RX11 yX11_sees yX11_sees ∈ WG := wg (wt3 (List.mem_of_getElem? (i := 162) rfl)) rfl
theorem wq_3_163 : Cond.code yX11_sees cX11_sees 2 (some .int) ∈ WG := wg (wt3 (List.mem_of_getElem? (i := 163) rfl)) rfl
theorem wq_3_164 : Cond.methodLink RX11 163 yX11_isDirection ∈ WG := wg (wt3 (List.mem_of_getElem? (i := 164) rfl)) rfl
theorem wq_3_165 : Cond.static yX11_isDirection ∈ WG := wg (wt3 (List.mem_of_getElem? (i := 165) rfl)) rfl
theorem wq_3_166 : Cond.code yX11_isDirection cX11_isDirection 1 (some .boolean) ∈ WG := wg (wt3 (List.mem_of_getElem? (i := 166) rfl)) rfl
theorem wq_3_167 : Cond.methodLink RX11 166 yX10_firstInSight ∈ WG := wg (wt3 (List.mem_of_getElem? (i := 167) rfl)) rfl
theorem wq_3_168 : Cond.instanceMethod yX10_firstInSight ∈ WG := wg (wt3 (List.mem_of_getElem? (i := 168) rfl)) rfl
theorem wq_3_169 : Cond.selects RX10 yX10_firstInSight yX10_firstInSight ∈ WG := wg (wt3 (List.mem_of_getElem? (i := 169) rfl)) rfl
theorem wq_3_170 : Cond.code yX10_firstInSight cX10_firstInSight 6 (some .int) ∈ WG := wg (wt3 (List.mem_of_getElem? (i := 170) rfl)) rfl
theorem wq_3_171 : Cond.methodLink RX10 50 yX10_cellOf ∈ WG := wg (wt3 (List.mem_of_getElem? (i := 171) rfl)) rfl
theorem wq_3_172 : Cond.methodLink RX10 53 yX10_rowStep ∈ WG := wg (wt3 (List.mem_of_getElem? (i := 172) rfl)) rfl
theorem wq_3_173 : Cond.methodLink RX10 56 yX10_columnStep ∈ WG := wg (wt3 (List.mem_of_getElem? (i := 173) rfl)) rfl
theorem wq_3_174 : Cond.methodLinkNest RX10 59 yX11_isRow "WhiteWanted" ∈ NW := nw (wt3 (List.mem_of_getElem? (i := 174) rfl)) rfl
theorem wq_3_175 : Cond.methodLinkNest RX10 63 yX11_isColumn "WhiteWanted" ∈ NW := nw (wt3 (List.mem_of_getElem? (i := 175) rfl)) rfl
theorem wq_3_176 : Cond.methodLink RL 48 yX11_put ∈ WG := wg (wt3 (List.mem_of_getElem? (i := 176) rfl)) rfl
theorem wq_3_177 : Cond.instanceMethod yX11_put ∈ WG := wg (wt3 (List.mem_of_getElem? (i := 177) rfl)) rfl
theorem wq_3_178 : Cond.selects RX11 yX11_put yX11_put ∈ WG := wg (wt3 (List.mem_of_getElem? (i := 178) rfl)) rfl
theorem wq_3_179 : Cond.code yX11_put cX11_put 5 (some .int) ∈ WG := wg (wt3 (List.mem_of_getElem? (i := 179) rfl)) rfl
theorem wq_3_180 : Cond.methodLink RX11 169 yX10_lay ∈ WG := wg (wt3 (List.mem_of_getElem? (i := 180) rfl)) rfl
theorem wq_3_181 : Cond.methodLink RL 52 yX11_lift ∈ WG := wg (wt3 (List.mem_of_getElem? (i := 181) rfl)) rfl
theorem wq_3_182 : Cond.instanceMethod yX11_lift ∈ WG := wg (wt3 (List.mem_of_getElem? (i := 182) rfl)) rfl
theorem wq_3_183 : Cond.selects RX11 yX11_lift yX11_lift ∈ WG := wg (wt3 (List.mem_of_getElem? (i := 183) rfl)) rfl
theorem wq_3_184 : Cond.code yX11_lift cX11_lift 3 (some .int) ∈ WG := wg (wt3 (List.mem_of_getElem? (i := 184) rfl)) rfl
theorem wq_3_185 : Cond.methodLink RX11 173 yX11_isObjectBall ∈ WG := wg (wt3 (List.mem_of_getElem? (i := 185) rfl)) rfl
theorem wq_3_187 : Cond.instanceMethod yX11_isObjectBall ∈ WG := wg (wt3 (List.mem_of_getElem? (i := 187) rfl)) rfl
theorem wq_3_188 : Cond.code yX11_isObjectBall cX11_isObjectBall 2 (some .boolean) ∈ WG := wg (wt3 (List.mem_of_getElem? (i := 188) rfl)) rfl
theorem wq_3_189 : Cond.methodLink RL 56 yX11_change ∈ WG := wg (wt3 (List.mem_of_getElem? (i := 189) rfl)) rfl
theorem wq_3_190 : Cond.instanceMethod yX11_change ∈ WG := wg (wt3 (List.mem_of_getElem? (i := 190) rfl)) rfl
theorem wq_3_191 : Cond.selects RX11 yX11_change yX11_change ∈ WG := wg (wt3 (List.mem_of_getElem? (i := 191) rfl)) rfl
theorem wq_3_192 : Cond.code yX11_change cX11_change 4 (some .int) ∈ WG := wg (wt3 (List.mem_of_getElem? (i := 192) rfl)) rfl
theorem wq_3_193 : Cond.methodLink RX11 176 yX10_setKind ∈ WG := wg (wt3 (List.mem_of_getElem? (i := 193) rfl)) rfl
theorem wq_3_194 : Cond.methodLink RL 60 yX11_stroke ∈ WG := wg (wt3 (List.mem_of_getElem? (i := 194) rfl)) rfl
theorem wq_3_195 : Cond.instanceMethod yX11_stroke ∈ WG := wg (wt3 (List.mem_of_getElem? (i := 195) rfl)) rfl
theorem wq_3_196 : Cond.selects RX11 yX11_stroke yX11_stroke ∈ WG := wg (wt3 (List.mem_of_getElem? (i := 196) rfl)) rfl
theorem wq_3_197 : Cond.code yX11_stroke cX11_stroke 4 (some .int) ∈ WG := wg (wt3 (List.mem_of_getElem? (i := 197) rfl)) rfl
theorem wq_3_198 : Cond.methodLink RX11 179 yX11_isStroke ∈ WG := wg (wt3 (List.mem_of_getElem? (i := 198) rfl)) rfl
theorem wq_3_199 : Cond.static yX11_isStroke ∈ WG := wg (wt3 (List.mem_of_getElem? (i := 199) rfl)) rfl
theorem wq_3_200 : Cond.code yX11_isStroke cX11_isStroke 3 (some .boolean) ∈ WG := wg (wt3 (List.mem_of_getElem? (i := 200) rfl)) rfl
theorem wq_3_201 : Cond.methodLink RX11 182 yX9_begin ∈ WG := wg (wt3 (List.mem_of_getElem? (i := 201) rfl)) rfl
theorem wq_3_202 : Cond.methodLink RX11 185 yX9_shoot ∈ WG := wg (wt3 (List.mem_of_getElem? (i := 202) rfl)) rfl
theorem wq_3_203 : Cond.methodLink RX11 189 yX3_take ∈ WG := wg (wt3 (List.mem_of_getElem? (i := 203) rfl)) rfl
theorem wq_3_204 : Cond.instanceMethod yX3_take ∈ WG := wg (wt3 (List.mem_of_getElem? (i := 204) rfl)) rfl
theorem wq_3_205 : Cond.selects RX3 yX3_take yX3_take ∈ WG := wg (wt3 (List.mem_of_getElem? (i := 205) rfl)) rfl
theorem wq_3_206 : Cond.code yX3_take cX3_take 2 none ∈ WG := wg (wt3 (List.mem_of_getElem? (i := 206) rfl)) rfl
theorem wq_3_207 : Cond.methodLink RX3 47 yX10_copy ∈ WG := wg (wt3 (List.mem_of_getElem? (i := 207) rfl)) rfl
theorem wq_3_208 : Cond.methodLink RL 65 yX11_would ∈ WG := wg (wt3 (List.mem_of_getElem? (i := 208) rfl)) rfl
theorem wq_3_209 : Cond.instanceMethod yX11_would ∈ WG := wg (wt3 (List.mem_of_getElem? (i := 209) rfl)) rfl
theorem wq_3_210 : Cond.selects RX11 yX11_would yX11_would ∈ WG := wg (wt3 (List.mem_of_getElem? (i := 210) rfl)) rfl
theorem wq_3_211 : Cond.code yX11_would cX11_would 5 (some .int) ∈ WG := wg (wt3 (List.mem_of_getElem? (i := 211) rfl)) rfl
theorem wq_3_212 : Cond.methodLink RX11 195 yX9_tell ∈ WG := wg (wt3 (List.mem_of_getElem? (i := 212) rfl)) rfl
theorem wq_3_213 : Cond.instanceMethod yX9_tell ∈ WG := wg (wt3 (List.mem_of_getElem? (i := 213) rfl)) rfl
theorem wq_3_214 : Cond.selects RX9 yX9_tell yX9_tell ∈ WG := wg (wt3 (List.mem_of_getElem? (i := 214) rfl)) rfl
theorem wq_3_215 : Cond.code yX9_tell cX9_tell 2 (some .int) ∈ WG := wg (wt3 (List.mem_of_getElem? (i := 215) rfl)) rfl
theorem wq_3_216 : Cond.methodLink RL 70 yX11_best ∈ WG := wg (wt3 (List.mem_of_getElem? (i := 216) rfl)) rfl
theorem wq_3_217 : Cond.instanceMethod yX11_best ∈ WG := wg (wt3 (List.mem_of_getElem? (i := 217) rfl)) rfl
theorem wq_3_218 : Cond.selects RX11 yX11_best yX11_best ∈ WG := wg (wt3 (List.mem_of_getElem? (i := 218) rfl)) rfl
theorem wq_3_219 : Cond.code yX11_best cX11_best 2 (some .int) ∈ WG := wg (wt3 (List.mem_of_getElem? (i := 219) rfl)) rfl
theorem wq_3_220 : Cond.methodLink RX11 198 yX0_chooseBest ∈ WG := wg (wt3 (List.mem_of_getElem? (i := 220) rfl)) rfl
theorem wq_3_221 : Cond.instanceMethod yX0_chooseBest ∈ WG := wg (wt3 (List.mem_of_getElem? (i := 221) rfl)) rfl
theorem wq_3_222 : Cond.selects RX0 yX0_chooseBest yX0_chooseBest ∈ WG := wg (wt3 (List.mem_of_getElem? (i := 222) rfl)) rfl
theorem wq_3_223 : Cond.code yX0_chooseBest cX0_chooseBest 3 none ∈ WG := wg (wt3 (List.mem_of_getElem? (i := 223) rfl)) rfl
theorem wq_3_224 : Cond.methodLink RX0 22 yX0_tryStroke ∈ WG := wg (wt3 (List.mem_of_getElem? (i := 224) rfl)) rfl
theorem wq_3_226 : Cond.instanceMethod yX0_tryStroke ∈ WG := wg (wt3 (List.mem_of_getElem? (i := 226) rfl)) rfl
theorem wq_3_227 : Cond.code yX0_tryStroke cX0_tryStroke 3 none ∈ WG := wg (wt3 (List.mem_of_getElem? (i := 227) rfl)) rfl
theorem wq_3_228 : Cond.methodLink RX0 53 yX0_spinOf ∈ WG := wg (wt3 (List.mem_of_getElem? (i := 228) rfl)) rfl
theorem wq_3_229 : Cond.static yX0_spinOf ∈ WG := wg (wt3 (List.mem_of_getElem? (i := 229) rfl)) rfl
theorem wq_3_230 : Cond.code yX0_spinOf cX0_spinOf 1 (some .int) ∈ WG := wg (wt3 (List.mem_of_getElem? (i := 230) rfl)) rfl
theorem wq_3_231 : Cond.methodLink RX0 34 yX0_choose ∈ WG := wg (wt3 (List.mem_of_getElem? (i := 231) rfl)) rfl
theorem wq_3_233 : Cond.instanceMethod yX0_choose ∈ WG := wg (wt3 (List.mem_of_getElem? (i := 233) rfl)) rfl
theorem wq_3_234 : Cond.code yX0_choose cX0_choose 3 none ∈ WG := wg (wt3 (List.mem_of_getElem? (i := 234) rfl)) rfl
theorem wq_3_235 : Cond.methodLink RX11 201 yX0_tell ∈ WG := wg (wt3 (List.mem_of_getElem? (i := 235) rfl)) rfl
theorem wq_3_236 : Cond.instanceMethod yX0_tell ∈ WG := wg (wt3 (List.mem_of_getElem? (i := 236) rfl)) rfl
theorem wq_3_237 : Cond.selects RX0 yX0_tell yX0_tell ∈ WG := wg (wt3 (List.mem_of_getElem? (i := 237) rfl)) rfl
theorem wq_3_238 : Cond.code yX0_tell cX0_tell 2 (some .int) ∈ WG := wg (wt3 (List.mem_of_getElem? (i := 238) rfl)) rfl
theorem wq_3_239 : Cond.methodLink RL 74 yX11_plan ∈ WG := wg (wt3 (List.mem_of_getElem? (i := 239) rfl)) rfl
theorem wq_4_0 : Cond.instanceMethod yX11_plan ∈ WG := wg (wt4 (List.mem_of_getElem? (i := 0) rfl)) rfl
theorem wq_4_1 : Cond.selects RX11 yX11_plan yX11_plan ∈ WG := wg (wt4 (List.mem_of_getElem? (i := 1) rfl)) rfl
theorem wq_4_2 : Cond.code yX11_plan cX11_plan 2 (some .int) ∈ WG := wg (wt4 (List.mem_of_getElem? (i := 2) rfl)) rfl
theorem wq_4_3 : Cond.methodLink RX11 205 yX0_choosePlan ∈ WG := wg (wt4 (List.mem_of_getElem? (i := 3) rfl)) rfl
theorem wq_4_4 : Cond.instanceMethod yX0_choosePlan ∈ WG := wg (wt4 (List.mem_of_getElem? (i := 4) rfl)) rfl
theorem wq_4_5 : Cond.selects RX0 yX0_choosePlan yX0_choosePlan ∈ WG := wg (wt4 (List.mem_of_getElem? (i := 5) rfl)) rfl
theorem wq_4_6 : Cond.code yX0_choosePlan cX0_choosePlan 4 none ∈ WG := wg (wt4 (List.mem_of_getElem? (i := 6) rfl)) rfl
theorem wq_4_7 : Cond.methodLink RX0 38 yX0_bestReply ∈ WG := wg (wt4 (List.mem_of_getElem? (i := 7) rfl)) rfl
theorem wq_4_9 : Cond.instanceMethod yX0_bestReply ∈ WG := wg (wt4 (List.mem_of_getElem? (i := 9) rfl)) rfl
theorem wq_4_10 : Cond.code yX0_bestReply cX0_bestReply 4 (some .int) ∈ WG := wg (wt4 (List.mem_of_getElem? (i := 10) rfl)) rfl
theorem wq_4_11 : Cond.methodLink RL 78 yX11_safe ∈ WG := wg (wt4 (List.mem_of_getElem? (i := 11) rfl)) rfl
theorem wq_4_12 : Cond.instanceMethod yX11_safe ∈ WG := wg (wt4 (List.mem_of_getElem? (i := 12) rfl)) rfl
theorem wq_4_13 : Cond.selects RX11 yX11_safe yX11_safe ∈ WG := wg (wt4 (List.mem_of_getElem? (i := 13) rfl)) rfl
theorem wq_4_14 : Cond.code yX11_safe cX11_safe 2 (some .int) ∈ WG := wg (wt4 (List.mem_of_getElem? (i := 14) rfl)) rfl
theorem wq_4_15 : Cond.methodLink RX11 211 yX0_chooseSafe ∈ WG := wg (wt4 (List.mem_of_getElem? (i := 15) rfl)) rfl
theorem wq_4_16 : Cond.instanceMethod yX0_chooseSafe ∈ WG := wg (wt4 (List.mem_of_getElem? (i := 16) rfl)) rfl
theorem wq_4_17 : Cond.selects RX0 yX0_chooseSafe yX0_chooseSafe ∈ WG := wg (wt4 (List.mem_of_getElem? (i := 17) rfl)) rfl
theorem wq_4_18 : Cond.code yX0_chooseSafe cX0_chooseSafe 4 none ∈ WG := wg (wt4 (List.mem_of_getElem? (i := 18) rfl)) rfl
theorem wq_4_19 : Cond.methodLink RL 82 yX11_wanted ∈ WG := wg (wt4 (List.mem_of_getElem? (i := 19) rfl)) rfl
theorem wq_4_20 : Cond.instanceMethod yX11_wanted ∈ WG := wg (wt4 (List.mem_of_getElem? (i := 20) rfl)) rfl
theorem wq_4_21 : Cond.selects RX11 yX11_wanted yX11_wanted ∈ WG := wg (wt4 (List.mem_of_getElem? (i := 21) rfl)) rfl
theorem wq_4_22 : Cond.code yX11_wanted cX11_wanted 2 (some .long) ∈ WG := wg (wt4 (List.mem_of_getElem? (i := 22) rfl)) rfl
theorem wq_4_23 : Cond.constantLong RX11 214 (-101 : Int64) ∈ WG := wg (wt4 (List.mem_of_getElem? (i := 23) rfl)) rfl
theorem wq_4_24 : Cond.methodLink RL 87 yX11_see ∈ WG := wg (wt4 (List.mem_of_getElem? (i := 24) rfl)) rfl
theorem wq_4_25 : Cond.instanceMethod yX11_see ∈ WG := wg (wt4 (List.mem_of_getElem? (i := 25) rfl)) rfl
theorem wq_4_26 : Cond.selects RX11 yX11_see yX11_see ∈ WG := wg (wt4 (List.mem_of_getElem? (i := 26) rfl)) rfl
theorem wq_4_27 : Cond.code yX11_see cX11_see 5 (some .int) ∈ WG := wg (wt4 (List.mem_of_getElem? (i := 27) rfl)) rfl
theorem wq_4_28 : Cond.methodLink RX11 219 yX3_note ∈ WG := wg (wt4 (List.mem_of_getElem? (i := 28) rfl)) rfl
theorem wq_4_29 : Cond.instanceMethod yX3_note ∈ WG := wg (wt4 (List.mem_of_getElem? (i := 29) rfl)) rfl
theorem wq_4_30 : Cond.selects RX3 yX3_note yX3_note ∈ WG := wg (wt4 (List.mem_of_getElem? (i := 30) rfl)) rfl
theorem wq_4_31 : Cond.code yX3_note cX3_note 5 none ∈ WG := wg (wt4 (List.mem_of_getElem? (i := 31) rfl)) rfl
theorem wq_4_32 : Cond.methodLink RL 91 yX11_forget ∈ WG := wg (wt4 (List.mem_of_getElem? (i := 32) rfl)) rfl
theorem wq_4_33 : Cond.instanceMethod yX11_forget ∈ WG := wg (wt4 (List.mem_of_getElem? (i := 33) rfl)) rfl
theorem wq_4_34 : Cond.selects RX11 yX11_forget yX11_forget ∈ WG := wg (wt4 (List.mem_of_getElem? (i := 34) rfl)) rfl
theorem wq_4_35 : Cond.code yX11_forget cX11_forget 2 (some .int) ∈ WG := wg (wt4 (List.mem_of_getElem? (i := 35) rfl)) rfl
theorem wq_4_36 : Cond.methodLink RL 95 yX11_frames ∈ WG := wg (wt4 (List.mem_of_getElem? (i := 36) rfl)) rfl
theorem wq_4_37 : Cond.instanceMethod yX11_frames ∈ WG := wg (wt4 (List.mem_of_getElem? (i := 37) rfl)) rfl
theorem wq_4_38 : Cond.selects RX11 yX11_frames yX11_frames ∈ WG := wg (wt4 (List.mem_of_getElem? (i := 38) rfl)) rfl
theorem wq_4_39 : Cond.code yX11_frames cX11_frames 10 (some .int) ∈ WG := wg (wt4 (List.mem_of_getElem? (i := 39) rfl)) rfl
theorem wq_4_40 : Cond.methodLink RX11 223 yX11_nextSeed ∈ WG := wg (wt4 (List.mem_of_getElem? (i := 40) rfl)) rfl
theorem wq_4_41 : Cond.static yX11_nextSeed ∈ WG := wg (wt4 (List.mem_of_getElem? (i := 41) rfl)) rfl
theorem wq_4_42 : Cond.code yX11_nextSeed cX11_nextSeed 1 (some .int) ∈ WG := wg (wt4 (List.mem_of_getElem? (i := 42) rfl)) rfl
theorem wq_4_43 : Cond.constantLong RX11 279 (1103515245 : Int64) ∈ WG := wg (wt4 (List.mem_of_getElem? (i := 43) rfl)) rfl
theorem wq_4_44 : Cond.constantLong RX11 281 (12345 : Int64) ∈ WG := wg (wt4 (List.mem_of_getElem? (i := 44) rfl)) rfl
theorem wq_4_45 : Cond.constantLong RX11 283 (2147483647 : Int64) ∈ WG := wg (wt4 (List.mem_of_getElem? (i := 45) rfl)) rfl
theorem wq_4_46 : Cond.methodLink RX11 226 yX11_drawn ∈ WG := wg (wt4 (List.mem_of_getElem? (i := 46) rfl)) rfl
theorem wq_4_47 : Cond.static yX11_drawn ∈ WG := wg (wt4 (List.mem_of_getElem? (i := 47) rfl)) rfl
theorem wq_4_48 : Cond.code yX11_drawn cX11_drawn 1 (some .int) ∈ WG := wg (wt4 (List.mem_of_getElem? (i := 48) rfl)) rfl
theorem wq_4_49 : Cond.constant RX11 285 (65536 : Int32) ∈ WG := wg (wt4 (List.mem_of_getElem? (i := 49) rfl)) rfl
theorem wq_4_50 : Cond.methodLink RX11 230 yX10_lying ∈ WG := wg (wt4 (List.mem_of_getElem? (i := 50) rfl)) rfl
theorem wq_4_51 : Cond.instanceMethod yX10_lying ∈ WG := wg (wt4 (List.mem_of_getElem? (i := 51) rfl)) rfl
theorem wq_4_52 : Cond.selects RX10 yX10_lying yX10_lying ∈ WG := wg (wt4 (List.mem_of_getElem? (i := 52) rfl)) rfl
theorem wq_4_53 : Cond.code yX10_lying cX10_lying 3 (some .int) ∈ WG := wg (wt4 (List.mem_of_getElem? (i := 53) rfl)) rfl
theorem wq_4_54 : Cond.methodLink RL 99 yX11_image ∈ WG := wg (wt4 (List.mem_of_getElem? (i := 54) rfl)) rfl
theorem wq_4_55 : Cond.instanceMethod yX11_image ∈ WG := wg (wt4 (List.mem_of_getElem? (i := 55) rfl)) rfl
theorem wq_4_56 : Cond.selects RX11 yX11_image yX11_image ∈ WG := wg (wt4 (List.mem_of_getElem? (i := 56) rfl)) rfl
theorem wq_4_57 : Cond.code yX11_image cX11_image 1 (some .int) ∈ WG := wg (wt4 (List.mem_of_getElem? (i := 57) rfl)) rfl
theorem wq_4_58 : Cond.methodLink RX11 233 yX3_copy ∈ WG := wg (wt4 (List.mem_of_getElem? (i := 58) rfl)) rfl
theorem wq_4_59 : Cond.instanceMethod yX3_copy ∈ WG := wg (wt4 (List.mem_of_getElem? (i := 59) rfl)) rfl
theorem wq_4_60 : Cond.selects RX3 yX3_copy yX3_copy ∈ WG := wg (wt4 (List.mem_of_getElem? (i := 60) rfl)) rfl
theorem wq_4_61 : Cond.code yX3_copy cX3_copy 2 none ∈ WG := wg (wt4 (List.mem_of_getElem? (i := 61) rfl)) rfl
theorem wq_4_62 : Cond.methodLink RX3 51 ⟨"java/lang/System", "arraycopy", "(Ljava/lang/Object;ILjava/lang/Object;II)V"⟩ ∈ WG := wg (wt4 (List.mem_of_getElem? (i := 62) rfl)) rfl
theorem wq_4_63 : Cond.methodLink RL 103 yX11_restore ∈ WG := wg (wt4 (List.mem_of_getElem? (i := 63) rfl)) rfl
theorem wq_4_64 : Cond.instanceMethod yX11_restore ∈ WG := wg (wt4 (List.mem_of_getElem? (i := 64) rfl)) rfl
theorem wq_4_65 : Cond.selects RX11 yX11_restore yX11_restore ∈ WG := wg (wt4 (List.mem_of_getElem? (i := 65) rfl)) rfl
theorem wq_4_66 : Cond.code yX11_restore cX11_restore 1 (some .int) ∈ WG := wg (wt4 (List.mem_of_getElem? (i := 66) rfl)) rfl
theorem wq_4_67 : Cond.methodLink RL 107 yX11_count ∈ WG := wg (wt4 (List.mem_of_getElem? (i := 67) rfl)) rfl
theorem wq_4_68 : Cond.instanceMethod yX11_count ∈ WG := wg (wt4 (List.mem_of_getElem? (i := 68) rfl)) rfl
theorem wq_4_69 : Cond.selects RX11 yX11_count yX11_count ∈ WG := wg (wt4 (List.mem_of_getElem? (i := 69) rfl)) rfl
theorem wq_4_70 : Cond.code yX11_count cX11_count 2 (some .int) ∈ WG := wg (wt4 (List.mem_of_getElem? (i := 70) rfl)) rfl
theorem wq_4_71 : Cond.methodLink RX11 240 yX10_worthLying ∈ WG := wg (wt4 (List.mem_of_getElem? (i := 71) rfl)) rfl
theorem wq_4_72 : Cond.instanceMethod yX10_worthLying ∈ WG := wg (wt4 (List.mem_of_getElem? (i := 72) rfl)) rfl
theorem wq_4_73 : Cond.selects RX10 yX10_worthLying yX10_worthLying ∈ WG := wg (wt4 (List.mem_of_getElem? (i := 73) rfl)) rfl
theorem wq_4_74 : Cond.code yX10_worthLying cX10_worthLying 3 (some .int) ∈ WG := wg (wt4 (List.mem_of_getElem? (i := 74) rfl)) rfl
theorem wq_4_75 : Cond.methodLink RX10 46 yX10_worthOf ∈ WG := wg (wt4 (List.mem_of_getElem? (i := 75) rfl)) rfl
theorem wq_4_76 : Cond.methodLink RX11 249 yX11_ballsInSight ∈ WG := wg (wt4 (List.mem_of_getElem? (i := 76) rfl)) rfl
theorem wq_4_78 : Cond.instanceMethod yX11_ballsInSight ∈ WG := wg (wt4 (List.mem_of_getElem? (i := 78) rfl)) rfl
theorem wq_4_79 : Cond.code yX11_ballsInSight cX11_ballsInSight 3 (some .int) ∈ WG := wg (wt4 (List.mem_of_getElem? (i := 79) rfl)) rfl
theorem wq_4_80 : Cond.methodLink RL 111 yX11_digest ∈ WG := wg (wt4 (List.mem_of_getElem? (i := 80) rfl)) rfl
theorem wq_4_81 : Cond.instanceMethod yX11_digest ∈ WG := wg (wt4 (List.mem_of_getElem? (i := 81) rfl)) rfl
theorem wq_4_82 : Cond.selects RX11 yX11_digest yX11_digest ∈ WG := wg (wt4 (List.mem_of_getElem? (i := 82) rfl)) rfl
theorem wq_4_83 : Cond.code yX11_digest cX11_digest 4 (some .long) ∈ WG := wg (wt4 (List.mem_of_getElem? (i := 83) rfl)) rfl
theorem wq_4_84 : Cond.constantLong RX11 255 (1097 : Int64) ∈ WG := wg (wt4 (List.mem_of_getElem? (i := 84) rfl)) rfl
theorem wq_4_85 : Cond.methodLink RX11 257 yX11_digestOfBalls ∈ WG := wg (wt4 (List.mem_of_getElem? (i := 85) rfl)) rfl
theorem wq_4_87 : Cond.instanceMethod yX11_digestOfBalls ∈ WG := wg (wt4 (List.mem_of_getElem? (i := 87) rfl)) rfl
theorem wq_4_88 : Cond.code yX11_digestOfBalls cX11_digestOfBalls 6 (some .long) ∈ WG := wg (wt4 (List.mem_of_getElem? (i := 88) rfl)) rfl
theorem wq_4_89 : Cond.constantLong RX11 261 (31 : Int64) ∈ WG := wg (wt4 (List.mem_of_getElem? (i := 89) rfl)) rfl
theorem wq_4_90 : Cond.methodLink RX11 263 yX11_sees ∈ WG := wg (wt4 (List.mem_of_getElem? (i := 90) rfl)) rfl
theorem wq_4_91 : Cond.methodLink RX11 266 yX11_digestOfStrokes ∈ WG := wg (wt4 (List.mem_of_getElem? (i := 91) rfl)) rfl
theorem wq_4_93 : Cond.instanceMethod yX11_digestOfStrokes ∈ WG := wg (wt4 (List.mem_of_getElem? (i := 93) rfl)) rfl
theorem wq_4_94 : Cond.code yX11_digestOfStrokes cX11_digestOfStrokes 6 (some .long) ∈ WG := wg (wt4 (List.mem_of_getElem? (i := 94) rfl)) rfl
theorem wq_4_95 : Cond.methodLink RX11 269 yX7_digestOn ∈ WG := wg (wt4 (List.mem_of_getElem? (i := 95) rfl)) rfl
theorem wq_4_96 : Cond.instanceMethod yX7_digestOn ∈ WG := wg (wt4 (List.mem_of_getElem? (i := 96) rfl)) rfl
theorem wq_4_97 : Cond.selects RX7 yX7_digestOn yX7_digestOn ∈ WG := wg (wt4 (List.mem_of_getElem? (i := 97) rfl)) rfl
theorem wq_4_98 : Cond.code yX7_digestOn cX7_digestOn 6 (some .long) ∈ WG := wg (wt4 (List.mem_of_getElem? (i := 98) rfl)) rfl
theorem wq_4_99 : Cond.constantLong RX7 64 (31 : Int64) ∈ WG := wg (wt4 (List.mem_of_getElem? (i := 99) rfl)) rfl
theorem wq_4_100 : Cond.methodLink RX11 272 yX11_count ∈ WG := wg (wt4 (List.mem_of_getElem? (i := 100) rfl)) rfl
theorem wq_4_101 : Cond.classLink RL 10 "WhiteWantedModel" ∈ WG := wg (wt4 (List.mem_of_getElem? (i := 101) rfl)) rfl
theorem wq_4_102 : Cond.instantiable RX12 38 ∈ WG := wg (wt4 (List.mem_of_getElem? (i := 102) rfl)) rfl
theorem wq_4_103 : Cond.methodLink RL 12 yX12_init ∈ WG := wg (wt4 (List.mem_of_getElem? (i := 103) rfl)) rfl
theorem wq_4_104 : Cond.instanceMethod yX12_init ∈ WG := wg (wt4 (List.mem_of_getElem? (i := 104) rfl)) rfl
theorem wq_4_105 : Cond.code yX12_init cX12_init 1 none ∈ WG := wg (wt4 (List.mem_of_getElem? (i := 105) rfl)) rfl
theorem wq_4_106 : Cond.methodLink RX12 1 ⟨"java/lang/Object", "<init>", "()V"⟩ ∈ WG := wg (wt4 (List.mem_of_getElem? (i := 106) rfl)) rfl
theorem wq_4_107 : Cond.fieldLink RX12 7 "WhiteWantedModel" "page" "[I" ∈ WG := wg (wt4 (List.mem_of_getElem? (i := 107) rfl)) rfl
theorem wq_4_108 : Cond.fieldLink RX12 53 "WhiteWantedModel" "pageMany" "I" ∈ WG := wg (wt4 (List.mem_of_getElem? (i := 108) rfl)) rfl
theorem wq_4_109 : Cond.fieldLink RX12 90 "WhiteWantedModel" "balls" "I" ∈ WG := wg (wt4 (List.mem_of_getElem? (i := 109) rfl)) rfl
theorem wq_4_110 : Cond.fieldLink RX12 93 "WhiteWantedModel" "spot" "I" ∈ WG := wg (wt4 (List.mem_of_getElem? (i := 110) rfl)) rfl
theorem wq_4_111 : Cond.fieldLink RX12 96 "WhiteWantedModel" "score" "I" ∈ WG := wg (wt4 (List.mem_of_getElem? (i := 111) rfl)) rfl
theorem wq_4_112 : Cond.fieldLink RX12 99 "WhiteWantedModel" "strokesNow" "I" ∈ WG := wg (wt4 (List.mem_of_getElem? (i := 112) rfl)) rfl
theorem wq_4_113 : Cond.fieldLink RX12 102 "WhiteWantedModel" "fouls" "I" ∈ WG := wg (wt4 (List.mem_of_getElem? (i := 113) rfl)) rfl
theorem wq_4_114 : Cond.fieldLink RX12 108 "WhiteWantedModel" "tablesRead" "I" ∈ WG := wg (wt4 (List.mem_of_getElem? (i := 114) rfl)) rfl
theorem wq_4_115 : Cond.fieldLink RX12 13 "WhiteWantedModel" "kinds" "[I" ∈ WG := wg (wt4 (List.mem_of_getElem? (i := 115) rfl)) rfl
theorem wq_4_116 : Cond.fieldLink RX12 16 "WhiteWantedModel" "worths" "[I" ∈ WG := wg (wt4 (List.mem_of_getElem? (i := 116) rfl)) rfl
theorem wq_4_117 : Cond.fieldLink RX12 19 "WhiteWantedModel" "cells" "[I" ∈ WG := wg (wt4 (List.mem_of_getElem? (i := 117) rfl)) rfl
theorem wq_4_118 : Cond.fieldLink RX12 147 "WhiteWantedModel" "potted" "I" ∈ WG := wg (wt4 (List.mem_of_getElem? (i := 118) rfl)) rfl
theorem wq_4_119 : Cond.fieldLink RX12 144 "WhiteWantedModel" "moves" "I" ∈ WG := wg (wt4 (List.mem_of_getElem? (i := 119) rfl)) rfl
theorem wq_4_120 : Cond.fieldLink RX12 125 "WhiteWantedModel" "bounces" "I" ∈ WG := wg (wt4 (List.mem_of_getElem? (i := 120) rfl)) rfl
theorem wq_4_121 : Cond.fieldLink RX12 128 "WhiteWantedModel" "hitFirst" "I" ∈ WG := wg (wt4 (List.mem_of_getElem? (i := 121) rfl)) rfl
theorem wq_4_122 : Cond.fieldLink RX12 131 "WhiteWantedModel" "hitPower" "I" ∈ WG := wg (wt4 (List.mem_of_getElem? (i := 122) rfl)) rfl
theorem wq_4_123 : Cond.fieldLink RX12 134 "WhiteWantedModel" "hitDown" "I" ∈ WG := wg (wt4 (List.mem_of_getElem? (i := 123) rfl)) rfl
theorem wq_4_124 : Cond.fieldLink RX12 137 "WhiteWantedModel" "hitRight" "I" ∈ WG := wg (wt4 (List.mem_of_getElem? (i := 124) rfl)) rfl
theorem wq_4_125 : Cond.fieldLink RX12 160 "WhiteWantedModel" "isFoul" "Z" ∈ WG := wg (wt4 (List.mem_of_getElem? (i := 125) rfl)) rfl
theorem wq_4_126 : Cond.fieldLink RX12 22 "WhiteWantedModel" "work" "[I" ∈ WG := wg (wt4 (List.mem_of_getElem? (i := 126) rfl)) rfl
theorem wq_4_127 : Cond.fieldLink RX12 25 "WhiteWantedModel" "then" "[I" ∈ WG := wg (wt4 (List.mem_of_getElem? (i := 127) rfl)) rfl
theorem wq_4_128 : Cond.fieldLink RX12 220 "WhiteWantedModel" "bestCode" "I" ∈ WG := wg (wt4 (List.mem_of_getElem? (i := 128) rfl)) rfl
theorem wq_4_129 : Cond.fieldLink RX12 223 "WhiteWantedModel" "bestBrings" "I" ∈ WG := wg (wt4 (List.mem_of_getElem? (i := 129) rfl)) rfl
theorem wq_4_130 : Cond.fieldLink RX12 238 "WhiteWantedModel" "plansDone" "I" ∈ WG := wg (wt4 (List.mem_of_getElem? (i := 130) rfl)) rfl
theorem wq_4_131 : Cond.fieldLink RX12 244 "WhiteWantedModel" "safesDone" "I" ∈ WG := wg (wt4 (List.mem_of_getElem? (i := 131) rfl)) rfl
theorem wq_4_132 : Cond.fieldLink RX12 105 "WhiteWantedModel" "seenMany" "I" ∈ WG := wg (wt4 (List.mem_of_getElem? (i := 132) rfl)) rfl
theorem wq_4_133 : Cond.fieldLink RX12 28 "WhiteWantedModel" "sights" "[I" ∈ WG := wg (wt4 (List.mem_of_getElem? (i := 133) rfl)) rfl
theorem wq_4_134 : Cond.fieldLink RX12 31 "WhiteWantedModel" "behind" "[I" ∈ WG := wg (wt4 (List.mem_of_getElem? (i := 134) rfl)) rfl
theorem wq_4_135 : Cond.fieldLink RX12 265 "WhiteWantedModel" "seedNow" "I" ∈ WG := wg (wt4 (List.mem_of_getElem? (i := 135) rfl)) rfl
theorem wq_4_136 : Cond.fieldLink RX12 43 "WhiteWantedModel" "keptTable" "I" ∈ WG := wg (wt4 (List.mem_of_getElem? (i := 136) rfl)) rfl
theorem wq_4_137 : Cond.fieldLink RX12 281 "WhiteWantedModel" "keptScore" "I" ∈ WG := wg (wt4 (List.mem_of_getElem? (i := 137) rfl)) rfl
theorem wq_4_138 : Cond.fieldLink RX12 284 "WhiteWantedModel" "keptStrokes" "I" ∈ WG := wg (wt4 (List.mem_of_getElem? (i := 138) rfl)) rfl
theorem wq_4_139 : Cond.fieldLink RX12 287 "WhiteWantedModel" "keptFouls" "I" ∈ WG := wg (wt4 (List.mem_of_getElem? (i := 139) rfl)) rfl
theorem wq_4_140 : Cond.fieldLink RX12 290 "WhiteWantedModel" "keptSeen" "I" ∈ WG := wg (wt4 (List.mem_of_getElem? (i := 140) rfl)) rfl
theorem wq_4_141 : Cond.fieldLink RX12 34 "WhiteWantedModel" "keptKinds" "[I" ∈ WG := wg (wt4 (List.mem_of_getElem? (i := 141) rfl)) rfl
theorem wq_4_142 : Cond.fieldLink RX12 37 "WhiteWantedModel" "keptCells" "[I" ∈ WG := wg (wt4 (List.mem_of_getElem? (i := 142) rfl)) rfl
theorem wq_4_143 : Cond.fieldLink RX12 40 "WhiteWantedModel" "keptSights" "[I" ∈ WG := wg (wt4 (List.mem_of_getElem? (i := 143) rfl)) rfl
theorem wq_4_144 : Cond.fieldLink RX12 304 "WhiteWantedModel" "hash" "J" ∈ WG := wg (wt4 (List.mem_of_getElem? (i := 144) rfl)) rfl
theorem wq_4_145 : Cond.laysFinal RX12 "WhiteWantedModel" "page" "[I" ∈ WG := wg (wt4 (List.mem_of_getElem? (i := 145) rfl)) rfl
theorem wq_4_147 : Cond.lays RX12 "WhiteWantedModel" "pageMany" "I" ∈ WG := wg (wt4 (List.mem_of_getElem? (i := 147) rfl)) rfl
theorem wq_4_149 : Cond.lays RX12 "WhiteWantedModel" "balls" "I" ∈ WG := wg (wt4 (List.mem_of_getElem? (i := 149) rfl)) rfl
theorem wq_4_151 : Cond.lays RX12 "WhiteWantedModel" "spot" "I" ∈ WG := wg (wt4 (List.mem_of_getElem? (i := 151) rfl)) rfl
theorem wq_4_153 : Cond.lays RX12 "WhiteWantedModel" "score" "I" ∈ WG := wg (wt4 (List.mem_of_getElem? (i := 153) rfl)) rfl
theorem wq_4_155 : Cond.lays RX12 "WhiteWantedModel" "strokesNow" "I" ∈ WG := wg (wt4 (List.mem_of_getElem? (i := 155) rfl)) rfl
theorem wq_4_157 : Cond.lays RX12 "WhiteWantedModel" "fouls" "I" ∈ WG := wg (wt4 (List.mem_of_getElem? (i := 157) rfl)) rfl
theorem wq_4_159 : Cond.lays RX12 "WhiteWantedModel" "tablesRead" "I" ∈ WG := wg (wt4 (List.mem_of_getElem? (i := 159) rfl)) rfl
theorem wq_4_161 : Cond.laysFinal RX12 "WhiteWantedModel" "kinds" "[I" ∈ WG := wg (wt4 (List.mem_of_getElem? (i := 161) rfl)) rfl
theorem wq_4_163 : Cond.laysFinal RX12 "WhiteWantedModel" "worths" "[I" ∈ WG := wg (wt4 (List.mem_of_getElem? (i := 163) rfl)) rfl
theorem wq_4_165 : Cond.laysFinal RX12 "WhiteWantedModel" "cells" "[I" ∈ WG := wg (wt4 (List.mem_of_getElem? (i := 165) rfl)) rfl
theorem wq_4_167 : Cond.lays RX12 "WhiteWantedModel" "potted" "I" ∈ WG := wg (wt4 (List.mem_of_getElem? (i := 167) rfl)) rfl
theorem wq_4_169 : Cond.lays RX12 "WhiteWantedModel" "moves" "I" ∈ WG := wg (wt4 (List.mem_of_getElem? (i := 169) rfl)) rfl
theorem wq_4_171 : Cond.lays RX12 "WhiteWantedModel" "bounces" "I" ∈ WG := wg (wt4 (List.mem_of_getElem? (i := 171) rfl)) rfl
theorem wq_4_173 : Cond.lays RX12 "WhiteWantedModel" "hitFirst" "I" ∈ WG := wg (wt4 (List.mem_of_getElem? (i := 173) rfl)) rfl
theorem wq_4_175 : Cond.lays RX12 "WhiteWantedModel" "hitPower" "I" ∈ WG := wg (wt4 (List.mem_of_getElem? (i := 175) rfl)) rfl
theorem wq_4_177 : Cond.lays RX12 "WhiteWantedModel" "hitDown" "I" ∈ WG := wg (wt4 (List.mem_of_getElem? (i := 177) rfl)) rfl
theorem wq_4_179 : Cond.lays RX12 "WhiteWantedModel" "hitRight" "I" ∈ WG := wg (wt4 (List.mem_of_getElem? (i := 179) rfl)) rfl
theorem wq_4_181 : Cond.lays RX12 "WhiteWantedModel" "isFoul" "Z" ∈ WG := wg (wt4 (List.mem_of_getElem? (i := 181) rfl)) rfl
theorem wq_4_183 : Cond.laysFinal RX12 "WhiteWantedModel" "work" "[I" ∈ WG := wg (wt4 (List.mem_of_getElem? (i := 183) rfl)) rfl
theorem wq_4_185 : Cond.laysFinal RX12 "WhiteWantedModel" "then" "[I" ∈ WG := wg (wt4 (List.mem_of_getElem? (i := 185) rfl)) rfl
theorem wq_4_187 : Cond.lays RX12 "WhiteWantedModel" "bestCode" "I" ∈ WG := wg (wt4 (List.mem_of_getElem? (i := 187) rfl)) rfl
theorem wq_4_189 : Cond.lays RX12 "WhiteWantedModel" "bestBrings" "I" ∈ WG := wg (wt4 (List.mem_of_getElem? (i := 189) rfl)) rfl
theorem wq_4_191 : Cond.lays RX12 "WhiteWantedModel" "plansDone" "I" ∈ WG := wg (wt4 (List.mem_of_getElem? (i := 191) rfl)) rfl
theorem wq_4_193 : Cond.lays RX12 "WhiteWantedModel" "safesDone" "I" ∈ WG := wg (wt4 (List.mem_of_getElem? (i := 193) rfl)) rfl
theorem wq_4_195 : Cond.lays RX12 "WhiteWantedModel" "seenMany" "I" ∈ WG := wg (wt4 (List.mem_of_getElem? (i := 195) rfl)) rfl
theorem wq_4_197 : Cond.laysFinal RX12 "WhiteWantedModel" "sights" "[I" ∈ WG := wg (wt4 (List.mem_of_getElem? (i := 197) rfl)) rfl
theorem wq_4_199 : Cond.laysFinal RX12 "WhiteWantedModel" "behind" "[I" ∈ WG := wg (wt4 (List.mem_of_getElem? (i := 199) rfl)) rfl
theorem wq_4_201 : Cond.lays RX12 "WhiteWantedModel" "seedNow" "I" ∈ WG := wg (wt4 (List.mem_of_getElem? (i := 201) rfl)) rfl
theorem wq_4_203 : Cond.lays RX12 "WhiteWantedModel" "keptTable" "I" ∈ WG := wg (wt4 (List.mem_of_getElem? (i := 203) rfl)) rfl
theorem wq_4_205 : Cond.lays RX12 "WhiteWantedModel" "keptScore" "I" ∈ WG := wg (wt4 (List.mem_of_getElem? (i := 205) rfl)) rfl
theorem wq_4_207 : Cond.lays RX12 "WhiteWantedModel" "keptStrokes" "I" ∈ WG := wg (wt4 (List.mem_of_getElem? (i := 207) rfl)) rfl
theorem wq_4_209 : Cond.lays RX12 "WhiteWantedModel" "keptFouls" "I" ∈ WG := wg (wt4 (List.mem_of_getElem? (i := 209) rfl)) rfl
theorem wq_4_211 : Cond.lays RX12 "WhiteWantedModel" "keptSeen" "I" ∈ WG := wg (wt4 (List.mem_of_getElem? (i := 211) rfl)) rfl
theorem wq_4_213 : Cond.laysFinal RX12 "WhiteWantedModel" "keptKinds" "[I" ∈ WG := wg (wt4 (List.mem_of_getElem? (i := 213) rfl)) rfl
theorem wq_4_215 : Cond.laysFinal RX12 "WhiteWantedModel" "keptCells" "[I" ∈ WG := wg (wt4 (List.mem_of_getElem? (i := 215) rfl)) rfl
theorem wq_4_217 : Cond.laysFinal RX12 "WhiteWantedModel" "keptSights" "[I" ∈ WG := wg (wt4 (List.mem_of_getElem? (i := 217) rfl)) rfl
theorem wq_4_219 : Cond.lays RX12 "WhiteWantedModel" "hash" "J" ∈ WG := wg (wt4 (List.mem_of_getElem? (i := 219) rfl)) rfl
theorem wq_4_222 : Cond.methodLink RL 17 yX12_letter ∈ WG := wg (wt4 (List.mem_of_getElem? (i := 222) rfl)) rfl
theorem wq_4_223 : Cond.instanceMethod yX12_letter ∈ WG := wg (wt4 (List.mem_of_getElem? (i := 223) rfl)) rfl
theorem wq_4_224 : Cond.selects RX12 yX12_letter yX12_letter ∈ WG := wg (wt4 (List.mem_of_getElem? (i := 224) rfl)) rfl
theorem wq_4_225 : Cond.code yX12_letter cX12_letter 2 (some .int) ∈ WG := wg (wt4 (List.mem_of_getElem? (i := 225) rfl)) rfl
theorem wq_4_226 : Cond.constantLong RX12 47 (126 : Int64) ∈ WG := wg (wt4 (List.mem_of_getElem? (i := 226) rfl)) rfl
theorem wq_4_227 : Cond.methodLink RX12 49 yX12_in ∈ WG := wg (wt4 (List.mem_of_getElem? (i := 227) rfl)) rfl
theorem wq_4_228 : Cond.static yX12_in ∈ WG := wg (wt4 (List.mem_of_getElem? (i := 228) rfl)) rfl
theorem wq_4_229 : Cond.code yX12_in cX12_in 6 (some .boolean) ∈ WG := wg (wt4 (List.mem_of_getElem? (i := 229) rfl)) rfl
theorem wq_4_230 : Cond.methodLink RL 22 yX12_blank ∈ WG := wg (wt4 (List.mem_of_getElem? (i := 230) rfl)) rfl
theorem wq_4_231 : Cond.instanceMethod yX12_blank ∈ WG := wg (wt4 (List.mem_of_getElem? (i := 231) rfl)) rfl
theorem wq_4_232 : Cond.selects RX12 yX12_blank yX12_blank ∈ WG := wg (wt4 (List.mem_of_getElem? (i := 232) rfl)) rfl
theorem wq_4_233 : Cond.code yX12_blank cX12_blank 2 (some .int) ∈ WG := wg (wt4 (List.mem_of_getElem? (i := 233) rfl)) rfl
theorem wq_4_234 : Cond.methodLink RL 26 yX12_fault ∈ WG := wg (wt4 (List.mem_of_getElem? (i := 234) rfl)) rfl
theorem wq_4_235 : Cond.instanceMethod yX12_fault ∈ WG := wg (wt4 (List.mem_of_getElem? (i := 235) rfl)) rfl
theorem wq_4_236 : Cond.selects RX12 yX12_fault yX12_fault ∈ WG := wg (wt4 (List.mem_of_getElem? (i := 236) rfl)) rfl
theorem wq_4_237 : Cond.code yX12_fault cX12_fault 1 (some .int) ∈ WG := wg (wt4 (List.mem_of_getElem? (i := 237) rfl)) rfl
theorem wq_4_238 : Cond.methodLink RX12 86 yX12_faultOf ∈ WG := wg (wt4 (List.mem_of_getElem? (i := 238) rfl)) rfl
theorem wq_5_0 : Cond.instanceMethod yX12_faultOf ∈ WG := wg (wt5 (List.mem_of_getElem? (i := 0) rfl)) rfl
theorem wq_5_1 : Cond.code yX12_faultOf cX12_faultOf 2 (some .int) ∈ WG := wg (wt5 (List.mem_of_getElem? (i := 1) rfl)) rfl
theorem wq_5_2 : Cond.methodLink RX12 83 yX12_isGood ∈ WG := wg (wt5 (List.mem_of_getElem? (i := 2) rfl)) rfl
theorem wq_5_4 : Cond.instanceMethod yX12_isGood ∈ WG := wg (wt5 (List.mem_of_getElem? (i := 4) rfl)) rfl
theorem wq_5_5 : Cond.code yX12_isGood cX12_isGood 3 (some .boolean) ∈ WG := wg (wt5 (List.mem_of_getElem? (i := 5) rfl)) rfl
theorem wq_5_6 : Cond.constantLong RX12 60 (48 : Int64) ∈ WG := wg (wt5 (List.mem_of_getElem? (i := 6) rfl)) rfl
theorem wq_5_7 : Cond.constantLong RX12 71 (52 : Int64) ∈ WG := wg (wt5 (List.mem_of_getElem? (i := 7) rfl)) rfl
theorem wq_5_8 : Cond.methodLink RX12 73 yX12_isColumn ∈ WG := wg (wt5 (List.mem_of_getElem? (i := 8) rfl)) rfl
theorem wq_5_10 : Cond.instanceMethod yX12_isColumn ∈ WG := wg (wt5 (List.mem_of_getElem? (i := 10) rfl)) rfl
theorem wq_5_11 : Cond.code yX12_isColumn cX12_isColumn 2 (some .boolean) ∈ WG := wg (wt5 (List.mem_of_getElem? (i := 11) rfl)) rfl
theorem wq_5_12 : Cond.constantLong RX12 62 (56 : Int64) ∈ WG := wg (wt5 (List.mem_of_getElem? (i := 12) rfl)) rfl
theorem wq_5_13 : Cond.methodLink RX12 56 yX12_cellAt ∈ WG := wg (wt5 (List.mem_of_getElem? (i := 13) rfl)) rfl
theorem wq_5_15 : Cond.instanceMethod yX12_cellAt ∈ WG := wg (wt5 (List.mem_of_getElem? (i := 15) rfl)) rfl
theorem wq_5_16 : Cond.code yX12_cellAt cX12_cellAt 2 (some .int) ∈ WG := wg (wt5 (List.mem_of_getElem? (i := 16) rfl)) rfl
theorem wq_5_17 : Cond.methodLink RX12 64 yX12_isPocket ∈ WG := wg (wt5 (List.mem_of_getElem? (i := 17) rfl)) rfl
theorem wq_5_18 : Cond.static yX12_isPocket ∈ WG := wg (wt5 (List.mem_of_getElem? (i := 18) rfl)) rfl
theorem wq_5_19 : Cond.code yX12_isPocket cX12_isPocket 3 (some .boolean) ∈ WG := wg (wt5 (List.mem_of_getElem? (i := 19) rfl)) rfl
theorem wq_5_20 : Cond.methodLink RX12 68 yX12_isToldAhead ∈ WG := wg (wt5 (List.mem_of_getElem? (i := 20) rfl)) rfl
theorem wq_5_22 : Cond.instanceMethod yX12_isToldAhead ∈ WG := wg (wt5 (List.mem_of_getElem? (i := 22) rfl)) rfl
theorem wq_5_23 : Cond.code yX12_isToldAhead cX12_isToldAhead 4 (some .boolean) ∈ WG := wg (wt5 (List.mem_of_getElem? (i := 23) rfl)) rfl
theorem wq_5_24 : Cond.methodLink RX12 76 yX12_kindBy ∈ WG := wg (wt5 (List.mem_of_getElem? (i := 24) rfl)) rfl
theorem wq_5_25 : Cond.static yX12_kindBy ∈ WG := wg (wt5 (List.mem_of_getElem? (i := 25) rfl)) rfl
theorem wq_5_26 : Cond.code yX12_kindBy cX12_kindBy 1 (some .int) ∈ WG := wg (wt5 (List.mem_of_getElem? (i := 26) rfl)) rfl
theorem wq_5_27 : Cond.constantLong RX12 79 (49 : Int64) ∈ WG := wg (wt5 (List.mem_of_getElem? (i := 27) rfl)) rfl
theorem wq_5_28 : Cond.constantLong RX12 81 (55 : Int64) ∈ WG := wg (wt5 (List.mem_of_getElem? (i := 28) rfl)) rfl
theorem wq_5_29 : Cond.methodLink RL 30 yX12_table ∈ WG := wg (wt5 (List.mem_of_getElem? (i := 29) rfl)) rfl
theorem wq_5_30 : Cond.instanceMethod yX12_table ∈ WG := wg (wt5 (List.mem_of_getElem? (i := 30) rfl)) rfl
theorem wq_5_31 : Cond.selects RX12 yX12_table yX12_table ∈ WG := wg (wt5 (List.mem_of_getElem? (i := 31) rfl)) rfl
theorem wq_5_32 : Cond.code yX12_table cX12_table 3 (some .int) ∈ WG := wg (wt5 (List.mem_of_getElem? (i := 32) rfl)) rfl
theorem wq_5_33 : Cond.methodLink RL 35 yX12_ball ∈ WG := wg (wt5 (List.mem_of_getElem? (i := 33) rfl)) rfl
theorem wq_5_34 : Cond.instanceMethod yX12_ball ∈ WG := wg (wt5 (List.mem_of_getElem? (i := 34) rfl)) rfl
theorem wq_5_35 : Cond.selects RX12 yX12_ball yX12_ball ∈ WG := wg (wt5 (List.mem_of_getElem? (i := 35) rfl)) rfl
theorem wq_5_36 : Cond.code yX12_ball cX12_ball 3 (some .int) ∈ WG := wg (wt5 (List.mem_of_getElem? (i := 36) rfl)) rfl
theorem wq_5_37 : Cond.methodLink RX12 177 yX12_isBall ∈ WG := wg (wt5 (List.mem_of_getElem? (i := 37) rfl)) rfl
theorem wq_5_39 : Cond.instanceMethod yX12_isBall ∈ WG := wg (wt5 (List.mem_of_getElem? (i := 39) rfl)) rfl
theorem wq_5_40 : Cond.code yX12_isBall cX12_isBall 2 (some .boolean) ∈ WG := wg (wt5 (List.mem_of_getElem? (i := 40) rfl)) rfl
theorem wq_5_41 : Cond.methodLink RX12 111 yX12_lacks ∈ WG := wg (wt5 (List.mem_of_getElem? (i := 41) rfl)) rfl
theorem wq_5_43 : Cond.instanceMethod yX12_lacks ∈ WG := wg (wt5 (List.mem_of_getElem? (i := 43) rfl)) rfl
theorem wq_5_44 : Cond.code yX12_lacks cX12_lacks 1 (some .boolean) ∈ WG := wg (wt5 (List.mem_of_getElem? (i := 44) rfl)) rfl
theorem wq_5_45 : Cond.methodLink RX12 180 yX12_tellBall ∈ WG := wg (wt5 (List.mem_of_getElem? (i := 45) rfl)) rfl
theorem wq_5_47 : Cond.instanceMethod yX12_tellBall ∈ WG := wg (wt5 (List.mem_of_getElem? (i := 47) rfl)) rfl
theorem wq_5_48 : Cond.code yX12_tellBall cX12_tellBall 3 (some .int) ∈ WG := wg (wt5 (List.mem_of_getElem? (i := 48) rfl)) rfl
theorem wq_5_49 : Cond.methodLink RX12 168 yX12_kindsOf ∈ WG := wg (wt5 (List.mem_of_getElem? (i := 49) rfl)) rfl
theorem wq_5_51 : Cond.instanceMethod yX12_kindsOf ∈ WG := wg (wt5 (List.mem_of_getElem? (i := 51) rfl)) rfl
theorem wq_5_52 : Cond.code yX12_kindsOf cX12_kindsOf 6 (some .int) ∈ WG := wg (wt5 (List.mem_of_getElem? (i := 52) rfl)) rfl
theorem wq_5_53 : Cond.methodLink RX12 260 yX12_behindAs ∈ WG := wg (wt5 (List.mem_of_getElem? (i := 53) rfl)) rfl
theorem wq_5_55 : Cond.instanceMethod yX12_behindAs ∈ WG := wg (wt5 (List.mem_of_getElem? (i := 55) rfl)) rfl
theorem wq_5_56 : Cond.code yX12_behindAs cX12_behindAs 6 (some .int) ∈ WG := wg (wt5 (List.mem_of_getElem? (i := 56) rfl)) rfl
theorem wq_5_57 : Cond.methodLink RX12 206 yX12_copy ∈ WG := wg (wt5 (List.mem_of_getElem? (i := 57) rfl)) rfl
theorem wq_5_58 : Cond.static yX12_copy ∈ WG := wg (wt5 (List.mem_of_getElem? (i := 58) rfl)) rfl
theorem wq_5_59 : Cond.code yX12_copy cX12_copy 3 none ∈ WG := wg (wt5 (List.mem_of_getElem? (i := 59) rfl)) rfl
theorem wq_5_60 : Cond.methodLink RX12 202 yX12_strike ∈ WG := wg (wt5 (List.mem_of_getElem? (i := 60) rfl)) rfl
theorem wq_5_62 : Cond.instanceMethod yX12_strike ∈ WG := wg (wt5 (List.mem_of_getElem? (i := 62) rfl)) rfl
theorem wq_5_63 : Cond.code yX12_strike cX12_strike 7 (some .int) ∈ WG := wg (wt5 (List.mem_of_getElem? (i := 63) rfl)) rfl
theorem wq_5_64 : Cond.methodLink RX12 150 yX12_downBy ∈ WG := wg (wt5 (List.mem_of_getElem? (i := 64) rfl)) rfl
theorem wq_5_65 : Cond.static yX12_downBy ∈ WG := wg (wt5 (List.mem_of_getElem? (i := 65) rfl)) rfl
theorem wq_5_66 : Cond.code yX12_downBy cX12_downBy 1 (some .int) ∈ WG := wg (wt5 (List.mem_of_getElem? (i := 66) rfl)) rfl
theorem wq_5_67 : Cond.methodLink RX12 153 yX12_rightBy ∈ WG := wg (wt5 (List.mem_of_getElem? (i := 67) rfl)) rfl
theorem wq_5_68 : Cond.static yX12_rightBy ∈ WG := wg (wt5 (List.mem_of_getElem? (i := 68) rfl)) rfl
theorem wq_5_69 : Cond.code yX12_rightBy cX12_rightBy 1 (some .int) ∈ WG := wg (wt5 (List.mem_of_getElem? (i := 69) rfl)) rfl
theorem wq_5_70 : Cond.methodLink RX12 156 yX12_roll ∈ WG := wg (wt5 (List.mem_of_getElem? (i := 70) rfl)) rfl
theorem wq_5_72 : Cond.instanceMethod yX12_roll ∈ WG := wg (wt5 (List.mem_of_getElem? (i := 72) rfl)) rfl
theorem wq_5_73 : Cond.code yX12_roll cX12_roll 16 none ∈ WG := wg (wt5 (List.mem_of_getElem? (i := 73) rfl)) rfl
theorem wq_5_74 : Cond.constantLong RX12 117 (4 : Int64) ∈ WG := wg (wt5 (List.mem_of_getElem? (i := 74) rfl)) rfl
theorem wq_5_75 : Cond.constantLong RX12 119 (8 : Int64) ∈ WG := wg (wt5 (List.mem_of_getElem? (i := 75) rfl)) rfl
theorem wq_5_76 : Cond.methodLink RX12 121 yX12_liesIn ∈ WG := wg (wt5 (List.mem_of_getElem? (i := 76) rfl)) rfl
theorem wq_5_78 : Cond.instanceMethod yX12_liesIn ∈ WG := wg (wt5 (List.mem_of_getElem? (i := 78) rfl)) rfl
theorem wq_5_79 : Cond.code yX12_liesIn cX12_liesIn 5 (some .int) ∈ WG := wg (wt5 (List.mem_of_getElem? (i := 79) rfl)) rfl
theorem wq_5_80 : Cond.methodLink RX12 140 yX12_rollsBy ∈ WG := wg (wt5 (List.mem_of_getElem? (i := 80) rfl)) rfl
theorem wq_5_81 : Cond.static yX12_rollsBy ∈ WG := wg (wt5 (List.mem_of_getElem? (i := 81) rfl)) rfl
theorem wq_5_82 : Cond.code yX12_rollsBy cX12_rollsBy 2 (some .int) ∈ WG := wg (wt5 (List.mem_of_getElem? (i := 82) rfl)) rfl
theorem wq_5_83 : Cond.methodLink RX12 164 yX12_spotWhite ∈ WG := wg (wt5 (List.mem_of_getElem? (i := 83) rfl)) rfl
theorem wq_5_85 : Cond.instanceMethod yX12_spotWhite ∈ WG := wg (wt5 (List.mem_of_getElem? (i := 85) rfl)) rfl
theorem wq_5_86 : Cond.code yX12_spotWhite cX12_spotWhite 3 none ∈ WG := wg (wt5 (List.mem_of_getElem? (i := 86) rfl)) rfl
theorem wq_5_87 : Cond.methodLink RX12 171 yX12_tryOf ∈ WG := wg (wt5 (List.mem_of_getElem? (i := 87) rfl)) rfl
theorem wq_5_89 : Cond.instanceMethod yX12_tryOf ∈ WG := wg (wt5 (List.mem_of_getElem? (i := 89) rfl)) rfl
theorem wq_5_90 : Cond.code yX12_tryOf cX12_tryOf 10 (some .int) ∈ WG := wg (wt5 (List.mem_of_getElem? (i := 90) rfl)) rfl
theorem wq_5_91 : Cond.methodLink RX12 174 yX12_wantedMany ∈ WG := wg (wt5 (List.mem_of_getElem? (i := 91) rfl)) rfl
theorem wq_5_93 : Cond.instanceMethod yX12_wantedMany ∈ WG := wg (wt5 (List.mem_of_getElem? (i := 93) rfl)) rfl
theorem wq_5_94 : Cond.code yX12_wantedMany cX12_wantedMany 6 (some .int) ∈ WG := wg (wt5 (List.mem_of_getElem? (i := 94) rfl)) rfl
theorem wq_5_95 : Cond.methodLink RX12 254 yX12_wantedOf ∈ WG := wg (wt5 (List.mem_of_getElem? (i := 95) rfl)) rfl
theorem wq_5_97 : Cond.instanceMethod yX12_wantedOf ∈ WG := wg (wt5 (List.mem_of_getElem? (i := 97) rfl)) rfl
theorem wq_5_98 : Cond.code yX12_wantedOf cX12_wantedOf 6 (some .long) ∈ WG := wg (wt5 (List.mem_of_getElem? (i := 98) rfl)) rfl
theorem wq_5_99 : Cond.methodLink RX12 250 yX12_isWantedFrom ∈ WG := wg (wt5 (List.mem_of_getElem? (i := 99) rfl)) rfl
theorem wq_5_101 : Cond.instanceMethod yX12_isWantedFrom ∈ WG := wg (wt5 (List.mem_of_getElem? (i := 101) rfl)) rfl
theorem wq_5_102 : Cond.code yX12_isWantedFrom cX12_isWantedFrom 5 (some .boolean) ∈ WG := wg (wt5 (List.mem_of_getElem? (i := 102) rfl)) rfl
theorem wq_5_103 : Cond.methodLink RL 39 yX12_as ∈ WG := wg (wt5 (List.mem_of_getElem? (i := 103) rfl)) rfl
theorem wq_5_104 : Cond.instanceMethod yX12_as ∈ WG := wg (wt5 (List.mem_of_getElem? (i := 104) rfl)) rfl
theorem wq_5_105 : Cond.selects RX12 yX12_as yX12_as ∈ WG := wg (wt5 (List.mem_of_getElem? (i := 105) rfl)) rfl
theorem wq_5_106 : Cond.code yX12_as cX12_as 4 (some .int) ∈ WG := wg (wt5 (List.mem_of_getElem? (i := 106) rfl)) rfl
theorem wq_5_107 : Cond.methodLink RL 43 yX12_cell ∈ WG := wg (wt5 (List.mem_of_getElem? (i := 107) rfl)) rfl
theorem wq_5_108 : Cond.instanceMethod yX12_cell ∈ WG := wg (wt5 (List.mem_of_getElem? (i := 108) rfl)) rfl
theorem wq_5_109 : Cond.selects RX12 yX12_cell yX12_cell ∈ WG := wg (wt5 (List.mem_of_getElem? (i := 109) rfl)) rfl
theorem wq_5_110 : Cond.code yX12_cell cX12_cell 2 (some .int) ∈ WG := wg (wt5 (List.mem_of_getElem? (i := 110) rfl)) rfl
theorem wq_5_111 : Cond.methodLink RX12 183 yX12_isCell ∈ WG := wg (wt5 (List.mem_of_getElem? (i := 111) rfl)) rfl
theorem wq_5_113 : Cond.instanceMethod yX12_isCell ∈ WG := wg (wt5 (List.mem_of_getElem? (i := 113) rfl)) rfl
theorem wq_5_114 : Cond.code yX12_isCell cX12_isCell 2 (some .boolean) ∈ WG := wg (wt5 (List.mem_of_getElem? (i := 114) rfl)) rfl
theorem wq_5_115 : Cond.constantLong RX12 115 (44 : Int64) ∈ WG := wg (wt5 (List.mem_of_getElem? (i := 115) rfl)) rfl
theorem wq_5_116 : Cond.methodLink RL 47 yX12_sees ∈ WG := wg (wt5 (List.mem_of_getElem? (i := 116) rfl)) rfl
theorem wq_5_117 : Cond.instanceMethod yX12_sees ∈ WG := wg (wt5 (List.mem_of_getElem? (i := 117) rfl)) rfl
theorem wq_5_118 : Cond.selects RX12 yX12_sees yX12_sees ∈ WG := wg (wt5 (List.mem_of_getElem? (i := 118) rfl)) rfl
theorem wq_5_119 : Cond.code yX12_sees cX12_sees 2 (some .int) ∈ WG := wg (wt5 (List.mem_of_getElem? (i := 119) rfl)) rfl
theorem wq_5_120 : Cond.constantLong RX12 186 (7 : Int64) ∈ WG := wg (wt5 (List.mem_of_getElem? (i := 120) rfl)) rfl
theorem wq_5_121 : Cond.methodLink RX12 188 yX12_seesBy ∈ WG := wg (wt5 (List.mem_of_getElem? (i := 121) rfl)) rfl
theorem wq_5_123 : Cond.instanceMethod yX12_seesBy ∈ WG := wg (wt5 (List.mem_of_getElem? (i := 123) rfl)) rfl
theorem wq_5_124 : Cond.code yX12_seesBy cX12_seesBy 5 (some .int) ∈ WG := wg (wt5 (List.mem_of_getElem? (i := 124) rfl)) rfl
theorem wq_5_125 : Cond.methodLink RL 51 yX12_put ∈ WG := wg (wt5 (List.mem_of_getElem? (i := 125) rfl)) rfl
theorem wq_5_126 : Cond.instanceMethod yX12_put ∈ WG := wg (wt5 (List.mem_of_getElem? (i := 126) rfl)) rfl
theorem wq_5_127 : Cond.selects RX12 yX12_put yX12_put ∈ WG := wg (wt5 (List.mem_of_getElem? (i := 127) rfl)) rfl
theorem wq_5_128 : Cond.code yX12_put cX12_put 5 (some .int) ∈ WG := wg (wt5 (List.mem_of_getElem? (i := 128) rfl)) rfl
theorem wq_5_129 : Cond.methodLink RL 55 yX12_lift ∈ WG := wg (wt5 (List.mem_of_getElem? (i := 129) rfl)) rfl
theorem wq_5_130 : Cond.instanceMethod yX12_lift ∈ WG := wg (wt5 (List.mem_of_getElem? (i := 130) rfl)) rfl
theorem wq_5_131 : Cond.selects RX12 yX12_lift yX12_lift ∈ WG := wg (wt5 (List.mem_of_getElem? (i := 131) rfl)) rfl
theorem wq_5_132 : Cond.code yX12_lift cX12_lift 3 (some .int) ∈ WG := wg (wt5 (List.mem_of_getElem? (i := 132) rfl)) rfl
theorem wq_5_133 : Cond.methodLink RX12 191 yX12_isColoured ∈ WG := wg (wt5 (List.mem_of_getElem? (i := 133) rfl)) rfl
theorem wq_5_135 : Cond.instanceMethod yX12_isColoured ∈ WG := wg (wt5 (List.mem_of_getElem? (i := 135) rfl)) rfl
theorem wq_5_136 : Cond.code yX12_isColoured cX12_isColoured 2 (some .boolean) ∈ WG := wg (wt5 (List.mem_of_getElem? (i := 136) rfl)) rfl
theorem wq_5_137 : Cond.methodLink RL 59 yX12_change ∈ WG := wg (wt5 (List.mem_of_getElem? (i := 137) rfl)) rfl
theorem wq_5_138 : Cond.instanceMethod yX12_change ∈ WG := wg (wt5 (List.mem_of_getElem? (i := 138) rfl)) rfl
theorem wq_5_139 : Cond.selects RX12 yX12_change yX12_change ∈ WG := wg (wt5 (List.mem_of_getElem? (i := 139) rfl)) rfl
theorem wq_5_140 : Cond.code yX12_change cX12_change 4 (some .int) ∈ WG := wg (wt5 (List.mem_of_getElem? (i := 140) rfl)) rfl
theorem wq_5_141 : Cond.methodLink RL 64 yX12_stroke ∈ WG := wg (wt5 (List.mem_of_getElem? (i := 141) rfl)) rfl
theorem wq_5_142 : Cond.instanceMethod yX12_stroke ∈ WG := wg (wt5 (List.mem_of_getElem? (i := 142) rfl)) rfl
theorem wq_5_143 : Cond.selects RX12 yX12_stroke yX12_stroke ∈ WG := wg (wt5 (List.mem_of_getElem? (i := 143) rfl)) rfl
theorem wq_5_144 : Cond.code yX12_stroke cX12_stroke 5 (some .int) ∈ WG := wg (wt5 (List.mem_of_getElem? (i := 144) rfl)) rfl
theorem wq_5_145 : Cond.methodLink RX12 198 yX12_isStroke ∈ WG := wg (wt5 (List.mem_of_getElem? (i := 145) rfl)) rfl
theorem wq_5_146 : Cond.static yX12_isStroke ∈ WG := wg (wt5 (List.mem_of_getElem? (i := 146) rfl)) rfl
theorem wq_5_147 : Cond.code yX12_isStroke cX12_isStroke 3 (some .boolean) ∈ WG := wg (wt5 (List.mem_of_getElem? (i := 147) rfl)) rfl
theorem wq_5_148 : Cond.constantLong RX12 194 (9 : Int64) ∈ WG := wg (wt5 (List.mem_of_getElem? (i := 148) rfl)) rfl
theorem wq_5_149 : Cond.constantLong RX12 196 (2 : Int64) ∈ WG := wg (wt5 (List.mem_of_getElem? (i := 149) rfl)) rfl
theorem wq_5_150 : Cond.methodLink RL 69 yX12_would ∈ WG := wg (wt5 (List.mem_of_getElem? (i := 150) rfl)) rfl
theorem wq_5_151 : Cond.instanceMethod yX12_would ∈ WG := wg (wt5 (List.mem_of_getElem? (i := 151) rfl)) rfl
theorem wq_5_152 : Cond.selects RX12 yX12_would yX12_would ∈ WG := wg (wt5 (List.mem_of_getElem? (i := 152) rfl)) rfl
theorem wq_5_153 : Cond.code yX12_would cX12_would 5 (some .int) ∈ WG := wg (wt5 (List.mem_of_getElem? (i := 153) rfl)) rfl
theorem wq_5_154 : Cond.constantLong RX12 210 (5 : Int64) ∈ WG := wg (wt5 (List.mem_of_getElem? (i := 154) rfl)) rfl
theorem wq_5_155 : Cond.constantLong RX12 212 (10 : Int64) ∈ WG := wg (wt5 (List.mem_of_getElem? (i := 155) rfl)) rfl
theorem wq_5_156 : Cond.constantLong RX12 214 (15 : Int64) ∈ WG := wg (wt5 (List.mem_of_getElem? (i := 156) rfl)) rfl
theorem wq_5_157 : Cond.methodLink RX12 216 yX12_wouldBe ∈ WG := wg (wt5 (List.mem_of_getElem? (i := 157) rfl)) rfl
theorem wq_5_159 : Cond.instanceMethod yX12_wouldBe ∈ WG := wg (wt5 (List.mem_of_getElem? (i := 159) rfl)) rfl
theorem wq_5_160 : Cond.code yX12_wouldBe cX12_wouldBe 6 (some .int) ∈ WG := wg (wt5 (List.mem_of_getElem? (i := 160) rfl)) rfl
theorem wq_5_161 : Cond.methodLink RL 73 yX12_best ∈ WG := wg (wt5 (List.mem_of_getElem? (i := 161) rfl)) rfl
theorem wq_5_162 : Cond.instanceMethod yX12_best ∈ WG := wg (wt5 (List.mem_of_getElem? (i := 162) rfl)) rfl
theorem wq_5_163 : Cond.selects RX12 yX12_best yX12_best ∈ WG := wg (wt5 (List.mem_of_getElem? (i := 163) rfl)) rfl
theorem wq_5_164 : Cond.code yX12_best cX12_best 2 (some .int) ∈ WG := wg (wt5 (List.mem_of_getElem? (i := 164) rfl)) rfl
theorem wq_5_165 : Cond.constantLong RX12 229 (3 : Int64) ∈ WG := wg (wt5 (List.mem_of_getElem? (i := 165) rfl)) rfl
theorem wq_5_166 : Cond.methodLink RX12 231 yX12_bestOf ∈ WG := wg (wt5 (List.mem_of_getElem? (i := 166) rfl)) rfl
theorem wq_5_168 : Cond.instanceMethod yX12_bestOf ∈ WG := wg (wt5 (List.mem_of_getElem? (i := 168) rfl)) rfl
theorem wq_5_169 : Cond.code yX12_bestOf cX12_bestOf 4 (some .int) ∈ WG := wg (wt5 (List.mem_of_getElem? (i := 169) rfl)) rfl
theorem wq_5_170 : Cond.methodLink RX12 226 yX12_tellCode ∈ WG := wg (wt5 (List.mem_of_getElem? (i := 170) rfl)) rfl
theorem wq_5_172 : Cond.instanceMethod yX12_tellCode ∈ WG := wg (wt5 (List.mem_of_getElem? (i := 172) rfl)) rfl
theorem wq_5_173 : Cond.code yX12_tellCode cX12_tellCode 2 (some .int) ∈ WG := wg (wt5 (List.mem_of_getElem? (i := 173) rfl)) rfl
theorem wq_5_174 : Cond.methodLink RL 77 yX12_plan ∈ WG := wg (wt5 (List.mem_of_getElem? (i := 174) rfl)) rfl
theorem wq_5_175 : Cond.instanceMethod yX12_plan ∈ WG := wg (wt5 (List.mem_of_getElem? (i := 175) rfl)) rfl
theorem wq_5_176 : Cond.selects RX12 yX12_plan yX12_plan ∈ WG := wg (wt5 (List.mem_of_getElem? (i := 176) rfl)) rfl
theorem wq_5_177 : Cond.code yX12_plan cX12_plan 2 (some .int) ∈ WG := wg (wt5 (List.mem_of_getElem? (i := 177) rfl)) rfl
theorem wq_5_178 : Cond.methodLink RX12 241 yX12_planOf ∈ WG := wg (wt5 (List.mem_of_getElem? (i := 178) rfl)) rfl
theorem wq_5_180 : Cond.instanceMethod yX12_planOf ∈ WG := wg (wt5 (List.mem_of_getElem? (i := 180) rfl)) rfl
theorem wq_5_181 : Cond.code yX12_planOf cX12_planOf 4 (some .int) ∈ WG := wg (wt5 (List.mem_of_getElem? (i := 181) rfl)) rfl
theorem wq_5_182 : Cond.methodLink RX12 234 yX12_replyOf ∈ WG := wg (wt5 (List.mem_of_getElem? (i := 182) rfl)) rfl
theorem wq_5_184 : Cond.instanceMethod yX12_replyOf ∈ WG := wg (wt5 (List.mem_of_getElem? (i := 184) rfl)) rfl
theorem wq_5_185 : Cond.code yX12_replyOf cX12_replyOf 6 (some .int) ∈ WG := wg (wt5 (List.mem_of_getElem? (i := 185) rfl)) rfl
theorem wq_5_186 : Cond.methodLink RL 81 yX12_safe ∈ WG := wg (wt5 (List.mem_of_getElem? (i := 186) rfl)) rfl
theorem wq_5_187 : Cond.instanceMethod yX12_safe ∈ WG := wg (wt5 (List.mem_of_getElem? (i := 187) rfl)) rfl
theorem wq_5_188 : Cond.selects RX12 yX12_safe yX12_safe ∈ WG := wg (wt5 (List.mem_of_getElem? (i := 188) rfl)) rfl
theorem wq_5_189 : Cond.code yX12_safe cX12_safe 2 (some .int) ∈ WG := wg (wt5 (List.mem_of_getElem? (i := 189) rfl)) rfl
theorem wq_5_190 : Cond.methodLink RX12 247 yX12_safeOf ∈ WG := wg (wt5 (List.mem_of_getElem? (i := 190) rfl)) rfl
theorem wq_5_192 : Cond.instanceMethod yX12_safeOf ∈ WG := wg (wt5 (List.mem_of_getElem? (i := 192) rfl)) rfl
theorem wq_5_193 : Cond.code yX12_safeOf cX12_safeOf 4 (some .int) ∈ WG := wg (wt5 (List.mem_of_getElem? (i := 193) rfl)) rfl
theorem wq_5_194 : Cond.methodLink RL 86 yX12_wanted ∈ WG := wg (wt5 (List.mem_of_getElem? (i := 194) rfl)) rfl
theorem wq_5_195 : Cond.instanceMethod yX12_wanted ∈ WG := wg (wt5 (List.mem_of_getElem? (i := 195) rfl)) rfl
theorem wq_5_196 : Cond.selects RX12 yX12_wanted yX12_wanted ∈ WG := wg (wt5 (List.mem_of_getElem? (i := 196) rfl)) rfl
theorem wq_5_197 : Cond.code yX12_wanted cX12_wanted 2 (some .long) ∈ WG := wg (wt5 (List.mem_of_getElem? (i := 197) rfl)) rfl
theorem wq_5_198 : Cond.constantLong RX12 258 (-101 : Int64) ∈ WG := wg (wt5 (List.mem_of_getElem? (i := 198) rfl)) rfl
theorem wq_5_199 : Cond.methodLink RL 90 yX12_see ∈ WG := wg (wt5 (List.mem_of_getElem? (i := 199) rfl)) rfl
theorem wq_5_200 : Cond.instanceMethod yX12_see ∈ WG := wg (wt5 (List.mem_of_getElem? (i := 200) rfl)) rfl
theorem wq_5_201 : Cond.selects RX12 yX12_see yX12_see ∈ WG := wg (wt5 (List.mem_of_getElem? (i := 201) rfl)) rfl
theorem wq_5_202 : Cond.code yX12_see cX12_see 5 (some .int) ∈ WG := wg (wt5 (List.mem_of_getElem? (i := 202) rfl)) rfl
theorem wq_5_203 : Cond.methodLink RL 94 yX12_forget ∈ WG := wg (wt5 (List.mem_of_getElem? (i := 203) rfl)) rfl
theorem wq_5_204 : Cond.instanceMethod yX12_forget ∈ WG := wg (wt5 (List.mem_of_getElem? (i := 204) rfl)) rfl
theorem wq_5_205 : Cond.selects RX12 yX12_forget yX12_forget ∈ WG := wg (wt5 (List.mem_of_getElem? (i := 205) rfl)) rfl
theorem wq_5_206 : Cond.code yX12_forget cX12_forget 2 (some .int) ∈ WG := wg (wt5 (List.mem_of_getElem? (i := 206) rfl)) rfl
theorem wq_5_207 : Cond.methodLink RL 98 yX12_frames ∈ WG := wg (wt5 (List.mem_of_getElem? (i := 207) rfl)) rfl
theorem wq_5_208 : Cond.instanceMethod yX12_frames ∈ WG := wg (wt5 (List.mem_of_getElem? (i := 208) rfl)) rfl
theorem wq_5_209 : Cond.selects RX12 yX12_frames yX12_frames ∈ WG := wg (wt5 (List.mem_of_getElem? (i := 209) rfl)) rfl
theorem wq_5_210 : Cond.code yX12_frames cX12_frames 9 (some .int) ∈ WG := wg (wt5 (List.mem_of_getElem? (i := 210) rfl)) rfl
theorem wq_5_211 : Cond.constantLong RX12 273 (60 : Int64) ∈ WG := wg (wt5 (List.mem_of_getElem? (i := 211) rfl)) rfl
theorem wq_5_212 : Cond.methodLink RX12 275 yX12_draw ∈ WG := wg (wt5 (List.mem_of_getElem? (i := 212) rfl)) rfl
theorem wq_5_214 : Cond.instanceMethod yX12_draw ∈ WG := wg (wt5 (List.mem_of_getElem? (i := 214) rfl)) rfl
theorem wq_5_215 : Cond.code yX12_draw cX12_draw 2 (some .int) ∈ WG := wg (wt5 (List.mem_of_getElem? (i := 215) rfl)) rfl
theorem wq_5_216 : Cond.constantLong RX12 263 (1103515245 : Int64) ∈ WG := wg (wt5 (List.mem_of_getElem? (i := 216) rfl)) rfl
theorem wq_5_217 : Cond.constantLong RX12 268 (12345 : Int64) ∈ WG := wg (wt5 (List.mem_of_getElem? (i := 217) rfl)) rfl
theorem wq_5_218 : Cond.constantLong RX12 270 (2147483647 : Int64) ∈ WG := wg (wt5 (List.mem_of_getElem? (i := 218) rfl)) rfl
theorem wq_5_219 : Cond.constant RX12 272 (65536 : Int32) ∈ WG := wg (wt5 (List.mem_of_getElem? (i := 219) rfl)) rfl
theorem wq_5_220 : Cond.methodLink RX12 278 yX12_onTable ∈ WG := wg (wt5 (List.mem_of_getElem? (i := 220) rfl)) rfl
theorem wq_5_222 : Cond.instanceMethod yX12_onTable ∈ WG := wg (wt5 (List.mem_of_getElem? (i := 222) rfl)) rfl
theorem wq_5_223 : Cond.code yX12_onTable cX12_onTable 4 (some .int) ∈ WG := wg (wt5 (List.mem_of_getElem? (i := 223) rfl)) rfl
theorem wq_5_224 : Cond.methodLink RL 102 yX12_image ∈ WG := wg (wt5 (List.mem_of_getElem? (i := 224) rfl)) rfl
theorem wq_5_225 : Cond.instanceMethod yX12_image ∈ WG := wg (wt5 (List.mem_of_getElem? (i := 225) rfl)) rfl
theorem wq_5_226 : Cond.selects RX12 yX12_image yX12_image ∈ WG := wg (wt5 (List.mem_of_getElem? (i := 226) rfl)) rfl
theorem wq_5_227 : Cond.code yX12_image cX12_image 1 (some .int) ∈ WG := wg (wt5 (List.mem_of_getElem? (i := 227) rfl)) rfl
theorem wq_5_228 : Cond.methodLink RL 106 yX12_restore ∈ WG := wg (wt5 (List.mem_of_getElem? (i := 228) rfl)) rfl
theorem wq_5_229 : Cond.instanceMethod yX12_restore ∈ WG := wg (wt5 (List.mem_of_getElem? (i := 229) rfl)) rfl
theorem wq_5_230 : Cond.selects RX12 yX12_restore yX12_restore ∈ WG := wg (wt5 (List.mem_of_getElem? (i := 230) rfl)) rfl
theorem wq_5_231 : Cond.code yX12_restore cX12_restore 1 (some .int) ∈ WG := wg (wt5 (List.mem_of_getElem? (i := 231) rfl)) rfl
theorem wq_5_232 : Cond.methodLink RL 110 yX12_count ∈ WG := wg (wt5 (List.mem_of_getElem? (i := 232) rfl)) rfl
theorem wq_5_233 : Cond.instanceMethod yX12_count ∈ WG := wg (wt5 (List.mem_of_getElem? (i := 233) rfl)) rfl
theorem wq_5_234 : Cond.selects RX12 yX12_count yX12_count ∈ WG := wg (wt5 (List.mem_of_getElem? (i := 234) rfl)) rfl
theorem wq_5_235 : Cond.code yX12_count cX12_count 2 (some .int) ∈ WG := wg (wt5 (List.mem_of_getElem? (i := 235) rfl)) rfl
theorem wq_5_236 : Cond.methodLink RX12 299 yX12_countOf ∈ WG := wg (wt5 (List.mem_of_getElem? (i := 236) rfl)) rfl
theorem wq_5_238 : Cond.instanceMethod yX12_countOf ∈ WG := wg (wt5 (List.mem_of_getElem? (i := 238) rfl)) rfl
theorem wq_5_239 : Cond.code yX12_countOf cX12_countOf 2 (some .int) ∈ WG := wg (wt5 (List.mem_of_getElem? (i := 239) rfl)) rfl
theorem wq_6_0 : Cond.methodLink RX12 293 yX12_worthAll ∈ WG := wg (wt6 (List.mem_of_getElem? (i := 0) rfl)) rfl
theorem wq_6_2 : Cond.instanceMethod yX12_worthAll ∈ WG := wg (wt6 (List.mem_of_getElem? (i := 2) rfl)) rfl
theorem wq_6_3 : Cond.code yX12_worthAll cX12_worthAll 3 (some .int) ∈ WG := wg (wt6 (List.mem_of_getElem? (i := 3) rfl)) rfl
theorem wq_6_4 : Cond.methodLink RX12 296 yX12_seenByWhite ∈ WG := wg (wt6 (List.mem_of_getElem? (i := 4) rfl)) rfl
theorem wq_6_6 : Cond.instanceMethod yX12_seenByWhite ∈ WG := wg (wt6 (List.mem_of_getElem? (i := 6) rfl)) rfl
theorem wq_6_7 : Cond.code yX12_seenByWhite cX12_seenByWhite 5 (some .int) ∈ WG := wg (wt6 (List.mem_of_getElem? (i := 7) rfl)) rfl
theorem wq_6_8 : Cond.methodLink RL 115 yX12_digest ∈ WG := wg (wt6 (List.mem_of_getElem? (i := 8) rfl)) rfl
theorem wq_6_9 : Cond.instanceMethod yX12_digest ∈ WG := wg (wt6 (List.mem_of_getElem? (i := 9) rfl)) rfl
theorem wq_6_10 : Cond.selects RX12 yX12_digest yX12_digest ∈ WG := wg (wt6 (List.mem_of_getElem? (i := 10) rfl)) rfl
theorem wq_6_11 : Cond.code yX12_digest cX12_digest 2 (some .long) ∈ WG := wg (wt6 (List.mem_of_getElem? (i := 11) rfl)) rfl
theorem wq_6_12 : Cond.constantLong RX12 312 (1097 : Int64) ∈ WG := wg (wt6 (List.mem_of_getElem? (i := 12) rfl)) rfl
theorem wq_6_13 : Cond.methodLink RX12 314 yX12_sayTable ∈ WG := wg (wt6 (List.mem_of_getElem? (i := 13) rfl)) rfl
theorem wq_6_15 : Cond.instanceMethod yX12_sayTable ∈ WG := wg (wt6 (List.mem_of_getElem? (i := 15) rfl)) rfl
theorem wq_6_16 : Cond.code yX12_sayTable cX12_sayTable 2 none ∈ WG := wg (wt6 (List.mem_of_getElem? (i := 16) rfl)) rfl
theorem wq_6_17 : Cond.methodLink RX12 308 yX12_say ∈ WG := wg (wt6 (List.mem_of_getElem? (i := 17) rfl)) rfl
theorem wq_6_19 : Cond.instanceMethod yX12_say ∈ WG := wg (wt6 (List.mem_of_getElem? (i := 19) rfl)) rfl
theorem wq_6_20 : Cond.code yX12_say cX12_say 3 none ∈ WG := wg (wt6 (List.mem_of_getElem? (i := 20) rfl)) rfl
theorem wq_6_21 : Cond.constantLong RX12 302 (31 : Int64) ∈ WG := wg (wt6 (List.mem_of_getElem? (i := 21) rfl)) rfl
theorem wq_6_22 : Cond.castable RX2 "WhiteWanted$Ball" ∈ NW := nw (wt6 (List.mem_of_getElem? (i := 22) rfl)) rfl
theorem wq_6_23 : Cond.castable RX5 "WhiteWanted$Ball" ∈ NW := nw (wt6 (List.mem_of_getElem? (i := 23) rfl)) rfl
theorem wq_6_24 : Cond.castable RX6 "WhiteWanted$Ball" ∈ NW := nw (wt6 (List.mem_of_getElem? (i := 24) rfl)) rfl
theorem wq_6_25 : Cond.castable RX8 "WhiteWanted$Ball" ∈ NW := nw (wt6 (List.mem_of_getElem? (i := 25) rfl)) rfl
theorem wq_6_26 : Cond.castable RX8 "WhiteWanted$Heavy" ∈ NW := nw (wt6 (List.mem_of_getElem? (i := 26) rfl)) rfl
theorem wq_6_27 : Cond.fieldLink RJ0 15 "java/lang/String" "coder" "B" ∈ WG := wg (wt6 (List.mem_of_getElem? (i := 27) rfl)) rfl
theorem wq_6_28 : Cond.fieldLink RJ0 9 "java/lang/String" "value" "[B" ∈ WG := wg (wt6 (List.mem_of_getElem? (i := 28) rfl)) rfl
theorem wp_0 : Cond.selects RX7 yX7_fits yX7_fits ∈ WG := wgp (List.mem_of_getElem? (i := 0) rfl) rfl
theorem wp_1 : Cond.selects RX7 yX7_digitAt yX7_digitAt ∈ WG := wgp (List.mem_of_getElem? (i := 1) rfl) rfl
theorem wp_2 : Cond.selects RX7 yX7_at yX7_at ∈ WG := wgp (List.mem_of_getElem? (i := 2) rfl) rfl
theorem wp_3 : Cond.selects RX7 yX7_isFreeCell yX7_isFreeCell ∈ WG := wgp (List.mem_of_getElem? (i := 3) rfl) rfl
theorem wp_4 : Cond.selects RX7 yX7_cellAt yX7_cellAt ∈ WG := wgp (List.mem_of_getElem? (i := 4) rfl) rfl
theorem wp_5 : Cond.selects RX11 yX11_isBall yX11_isBall ∈ WG := wgp (List.mem_of_getElem? (i := 5) rfl) rfl
theorem wp_6 : Cond.selects RX11 yX11_hasTable yX11_hasTable ∈ WG := wgp (List.mem_of_getElem? (i := 6) rfl) rfl
theorem wp_7 : Cond.selects RX4 yX4_endAs yX4_endAs ∈ WG := wgp (List.mem_of_getElem? (i := 7) rfl) rfl
theorem wp_8 : Cond.selects RX9 yX9_roll yX9_roll ∈ WG := wgp (List.mem_of_getElem? (i := 8) rfl) rfl
theorem wp_9 : Cond.selects RX9 yX9_kind yX9_kind ∈ WG := wgp (List.mem_of_getElem? (i := 9) rfl) rfl
theorem wp_10 : Cond.selects RX9 yX9_noteWhiteHit yX9_noteWhiteHit ∈ WG := wgp (List.mem_of_getElem? (i := 10) rfl) rfl
theorem wp_11 : Cond.selects RX9 yX9_notePotted yX9_notePotted ∈ WG := wgp (List.mem_of_getElem? (i := 11) rfl) rfl
theorem wp_12 : Cond.selects RX9 yX9_isWhitePotted yX9_isWhitePotted ∈ WG := wgp (List.mem_of_getElem? (i := 12) rfl) rfl
theorem wp_13 : Cond.selects RX9 yX9_worthPotted yX9_worthPotted ∈ WG := wgp (List.mem_of_getElem? (i := 13) rfl) rfl
theorem wp_14 : Cond.selects RX4 yX4_leftAtWorst yX4_leftAtWorst ∈ WG := wgp (List.mem_of_getElem? (i := 14) rfl) rfl
theorem wp_15 : Cond.selects RX11 yX11_wantedCells yX11_wantedCells ∈ WG := wgp (List.mem_of_getElem? (i := 15) rfl) rfl
theorem wp_16 : Cond.selects RX0 yX0_canPotFrom yX0_canPotFrom ∈ WG := wgp (List.mem_of_getElem? (i := 16) rfl) rfl
theorem wp_17 : Cond.selects RX11 yX11_isOfKind yX11_isOfKind ∈ WG := wgp (List.mem_of_getElem? (i := 17) rfl) rfl
theorem wp_18 : Cond.selects RX11 yX11_isObjectBall yX11_isObjectBall ∈ WG := wgp (List.mem_of_getElem? (i := 18) rfl) rfl
theorem wp_19 : Cond.selects RX0 yX0_tryStroke yX0_tryStroke ∈ WG := wgp (List.mem_of_getElem? (i := 19) rfl) rfl
theorem wp_20 : Cond.selects RX0 yX0_choose yX0_choose ∈ WG := wgp (List.mem_of_getElem? (i := 20) rfl) rfl
theorem wp_21 : Cond.selects RX0 yX0_bestReply yX0_bestReply ∈ WG := wgp (List.mem_of_getElem? (i := 21) rfl) rfl
theorem wp_22 : Cond.selects RX11 yX11_ballsInSight yX11_ballsInSight ∈ WG := wgp (List.mem_of_getElem? (i := 22) rfl) rfl
theorem wp_23 : Cond.selects RX11 yX11_digestOfBalls yX11_digestOfBalls ∈ WG := wgp (List.mem_of_getElem? (i := 23) rfl) rfl
theorem wp_24 : Cond.selects RX11 yX11_digestOfStrokes yX11_digestOfStrokes ∈ WG := wgp (List.mem_of_getElem? (i := 24) rfl) rfl
theorem wp_25 : Cond.selects RX12 yX12_faultOf yX12_faultOf ∈ WG := wgp (List.mem_of_getElem? (i := 25) rfl) rfl
theorem wp_26 : Cond.selects RX12 yX12_isGood yX12_isGood ∈ WG := wgp (List.mem_of_getElem? (i := 26) rfl) rfl
theorem wp_27 : Cond.selects RX12 yX12_isColumn yX12_isColumn ∈ WG := wgp (List.mem_of_getElem? (i := 27) rfl) rfl
theorem wp_28 : Cond.selects RX12 yX12_cellAt yX12_cellAt ∈ WG := wgp (List.mem_of_getElem? (i := 28) rfl) rfl
theorem wp_29 : Cond.selects RX12 yX12_isToldAhead yX12_isToldAhead ∈ WG := wgp (List.mem_of_getElem? (i := 29) rfl) rfl
theorem wp_30 : Cond.selects RX12 yX12_isBall yX12_isBall ∈ WG := wgp (List.mem_of_getElem? (i := 30) rfl) rfl
theorem wp_31 : Cond.selects RX12 yX12_lacks yX12_lacks ∈ WG := wgp (List.mem_of_getElem? (i := 31) rfl) rfl
theorem wp_32 : Cond.selects RX12 yX12_tellBall yX12_tellBall ∈ WG := wgp (List.mem_of_getElem? (i := 32) rfl) rfl
theorem wp_33 : Cond.selects RX12 yX12_kindsOf yX12_kindsOf ∈ WG := wgp (List.mem_of_getElem? (i := 33) rfl) rfl
theorem wp_34 : Cond.selects RX12 yX12_behindAs yX12_behindAs ∈ WG := wgp (List.mem_of_getElem? (i := 34) rfl) rfl
theorem wp_35 : Cond.selects RX12 yX12_strike yX12_strike ∈ WG := wgp (List.mem_of_getElem? (i := 35) rfl) rfl
theorem wp_36 : Cond.selects RX12 yX12_roll yX12_roll ∈ WG := wgp (List.mem_of_getElem? (i := 36) rfl) rfl
theorem wp_37 : Cond.selects RX12 yX12_liesIn yX12_liesIn ∈ WG := wgp (List.mem_of_getElem? (i := 37) rfl) rfl
theorem wp_38 : Cond.selects RX12 yX12_spotWhite yX12_spotWhite ∈ WG := wgp (List.mem_of_getElem? (i := 38) rfl) rfl
theorem wp_39 : Cond.selects RX12 yX12_tryOf yX12_tryOf ∈ WG := wgp (List.mem_of_getElem? (i := 39) rfl) rfl
theorem wp_40 : Cond.selects RX12 yX12_wantedMany yX12_wantedMany ∈ WG := wgp (List.mem_of_getElem? (i := 40) rfl) rfl
theorem wp_41 : Cond.selects RX12 yX12_wantedOf yX12_wantedOf ∈ WG := wgp (List.mem_of_getElem? (i := 41) rfl) rfl
theorem wp_42 : Cond.selects RX12 yX12_isWantedFrom yX12_isWantedFrom ∈ WG := wgp (List.mem_of_getElem? (i := 42) rfl) rfl
theorem wp_43 : Cond.selects RX12 yX12_isCell yX12_isCell ∈ WG := wgp (List.mem_of_getElem? (i := 43) rfl) rfl
theorem wp_44 : Cond.selects RX12 yX12_seesBy yX12_seesBy ∈ WG := wgp (List.mem_of_getElem? (i := 44) rfl) rfl
theorem wp_45 : Cond.selects RX12 yX12_isColoured yX12_isColoured ∈ WG := wgp (List.mem_of_getElem? (i := 45) rfl) rfl
theorem wp_46 : Cond.selects RX12 yX12_wouldBe yX12_wouldBe ∈ WG := wgp (List.mem_of_getElem? (i := 46) rfl) rfl
theorem wp_47 : Cond.selects RX12 yX12_bestOf yX12_bestOf ∈ WG := wgp (List.mem_of_getElem? (i := 47) rfl) rfl
theorem wp_48 : Cond.selects RX12 yX12_tellCode yX12_tellCode ∈ WG := wgp (List.mem_of_getElem? (i := 48) rfl) rfl
theorem wp_49 : Cond.selects RX12 yX12_planOf yX12_planOf ∈ WG := wgp (List.mem_of_getElem? (i := 49) rfl) rfl
theorem wp_50 : Cond.selects RX12 yX12_replyOf yX12_replyOf ∈ WG := wgp (List.mem_of_getElem? (i := 50) rfl) rfl
theorem wp_51 : Cond.selects RX12 yX12_safeOf yX12_safeOf ∈ WG := wgp (List.mem_of_getElem? (i := 51) rfl) rfl
theorem wp_52 : Cond.selects RX12 yX12_draw yX12_draw ∈ WG := wgp (List.mem_of_getElem? (i := 52) rfl) rfl
theorem wp_53 : Cond.selects RX12 yX12_onTable yX12_onTable ∈ WG := wgp (List.mem_of_getElem? (i := 53) rfl) rfl
theorem wp_54 : Cond.selects RX12 yX12_countOf yX12_countOf ∈ WG := wgp (List.mem_of_getElem? (i := 54) rfl) rfl
theorem wp_55 : Cond.selects RX12 yX12_worthAll yX12_worthAll ∈ WG := wgp (List.mem_of_getElem? (i := 55) rfl) rfl
theorem wp_56 : Cond.selects RX12 yX12_seenByWhite yX12_seenByWhite ∈ WG := wgp (List.mem_of_getElem? (i := 56) rfl) rfl
theorem wp_57 : Cond.selects RX12 yX12_sayTable yX12_sayTable ∈ WG := wgp (List.mem_of_getElem? (i := 57) rfl) rfl
theorem wp_58 : Cond.selects RX12 yX12_say yX12_say ∈ WG := wgp (List.mem_of_getElem? (i := 58) rfl) rfl
theorem inX0 : ∀ w ∈ u_ws RX0 TX0 4, w ∈ WG := List.forall_mem_cons.mpr ⟨wq_1_214, List.forall_mem_cons.mpr ⟨wq_1_216, List.forall_mem_cons.mpr ⟨wq_1_218, List.forall_mem_cons.mpr ⟨wq_1_220, fun _ h => absurd h List.not_mem_nil⟩⟩⟩⟩
theorem inX1 : ∀ w ∈ u_ws RX1 TX1 0, w ∈ WG := fun _ h => absurd h List.not_mem_nil
theorem inX2 : ∀ w ∈ u_ws RX2 TX2 0, w ∈ WG := fun _ h => absurd h List.not_mem_nil
theorem inX3 : ∀ w ∈ u_ws RX3 TX3 9, w ∈ WG := List.forall_mem_cons.mpr ⟨wq_1_140, List.forall_mem_cons.mpr ⟨wq_1_142, List.forall_mem_cons.mpr ⟨wq_1_144, List.forall_mem_cons.mpr ⟨wq_1_146, List.forall_mem_cons.mpr ⟨wq_1_148, List.forall_mem_cons.mpr ⟨wq_1_150, List.forall_mem_cons.mpr ⟨wq_1_152, List.forall_mem_cons.mpr ⟨wq_1_154, List.forall_mem_cons.mpr ⟨wq_1_156, fun _ h => absurd h List.not_mem_nil⟩⟩⟩⟩⟩⟩⟩⟩⟩
theorem inX4 : ∀ w ∈ u_ws RX4 TX4 2, w ∈ WG := List.forall_mem_cons.mpr ⟨wq_1_231, List.forall_mem_cons.mpr ⟨wq_1_233, fun _ h => absurd h List.not_mem_nil⟩⟩
theorem inX5 : ∀ w ∈ u_ws RX5 TX5 0, w ∈ WG := fun _ h => absurd h List.not_mem_nil
theorem inX6 : ∀ w ∈ u_ws RX6 TX6 0, w ∈ WG := fun _ h => absurd h List.not_mem_nil
theorem inX7 : ∀ w ∈ u_ws RX7 TX7 2, w ∈ WG := List.forall_mem_cons.mpr ⟨wq_1_76, List.forall_mem_cons.mpr ⟨wq_1_78, fun _ h => absurd h List.not_mem_nil⟩⟩
theorem inX8 : ∀ w ∈ u_ws RX8 TX8 0, w ∈ WG := fun _ h => absurd h List.not_mem_nil
theorem inX9 : ∀ w ∈ u_ws RX9 TX9 9, w ∈ WG := List.forall_mem_cons.mpr ⟨wq_1_185, List.forall_mem_cons.mpr ⟨wq_1_187, List.forall_mem_cons.mpr ⟨wq_1_189, List.forall_mem_cons.mpr ⟨wq_1_191, List.forall_mem_cons.mpr ⟨wq_1_193, List.forall_mem_cons.mpr ⟨wq_1_195, List.forall_mem_cons.mpr ⟨wq_1_197, List.forall_mem_cons.mpr ⟨wq_1_199, List.forall_mem_cons.mpr ⟨wq_1_201, fun _ h => absurd h List.not_mem_nil⟩⟩⟩⟩⟩⟩⟩⟩⟩
theorem inX10 : ∀ w ∈ u_ws RX10 TX10 6, w ∈ WG := List.forall_mem_cons.mpr ⟨wq_1_107, List.forall_mem_cons.mpr ⟨wq_1_109, List.forall_mem_cons.mpr ⟨wq_1_111, List.forall_mem_cons.mpr ⟨wq_1_113, List.forall_mem_cons.mpr ⟨wq_1_115, List.forall_mem_cons.mpr ⟨wq_1_117, fun _ h => absurd h List.not_mem_nil⟩⟩⟩⟩⟩⟩
theorem inX11 : ∀ w ∈ u_ws RX11 TX11 11, w ∈ WG := List.forall_mem_cons.mpr ⟨wq_2_7, List.forall_mem_cons.mpr ⟨wq_2_9, List.forall_mem_cons.mpr ⟨wq_2_11, List.forall_mem_cons.mpr ⟨wq_2_13, List.forall_mem_cons.mpr ⟨wq_2_15, List.forall_mem_cons.mpr ⟨wq_2_17, List.forall_mem_cons.mpr ⟨wq_2_19, List.forall_mem_cons.mpr ⟨wq_2_21, List.forall_mem_cons.mpr ⟨wq_2_23, List.forall_mem_cons.mpr ⟨wq_2_25, List.forall_mem_cons.mpr ⟨wq_2_27, fun _ h => absurd h List.not_mem_nil⟩⟩⟩⟩⟩⟩⟩⟩⟩⟩⟩
theorem inX12 : ∀ w ∈ u_ws RX12 TX12 38, w ∈ WG := List.forall_mem_cons.mpr ⟨wq_4_145, List.forall_mem_cons.mpr ⟨wq_4_147, List.forall_mem_cons.mpr ⟨wq_4_149, List.forall_mem_cons.mpr ⟨wq_4_151, List.forall_mem_cons.mpr ⟨wq_4_153, List.forall_mem_cons.mpr ⟨wq_4_155, List.forall_mem_cons.mpr ⟨wq_4_157, List.forall_mem_cons.mpr ⟨wq_4_159, List.forall_mem_cons.mpr ⟨wq_4_161, List.forall_mem_cons.mpr ⟨wq_4_163, List.forall_mem_cons.mpr ⟨wq_4_165, List.forall_mem_cons.mpr ⟨wq_4_167, List.forall_mem_cons.mpr ⟨wq_4_169, List.forall_mem_cons.mpr ⟨wq_4_171, List.forall_mem_cons.mpr ⟨wq_4_173, List.forall_mem_cons.mpr ⟨wq_4_175, List.forall_mem_cons.mpr ⟨wq_4_177, List.forall_mem_cons.mpr ⟨wq_4_179, List.forall_mem_cons.mpr ⟨wq_4_181, List.forall_mem_cons.mpr ⟨wq_4_183, List.forall_mem_cons.mpr ⟨wq_4_185, List.forall_mem_cons.mpr ⟨wq_4_187, List.forall_mem_cons.mpr ⟨wq_4_189, List.forall_mem_cons.mpr ⟨wq_4_191, List.forall_mem_cons.mpr ⟨wq_4_193, List.forall_mem_cons.mpr ⟨wq_4_195, List.forall_mem_cons.mpr ⟨wq_4_197, List.forall_mem_cons.mpr ⟨wq_4_199, List.forall_mem_cons.mpr ⟨wq_4_201, List.forall_mem_cons.mpr ⟨wq_4_203, List.forall_mem_cons.mpr ⟨wq_4_205, List.forall_mem_cons.mpr ⟨wq_4_207, List.forall_mem_cons.mpr ⟨wq_4_209, List.forall_mem_cons.mpr ⟨wq_4_211, List.forall_mem_cons.mpr ⟨wq_4_213, List.forall_mem_cons.mpr ⟨wq_4_215, List.forall_mem_cons.mpr ⟨wq_4_217, List.forall_mem_cons.mpr ⟨wq_4_219, fun _ h => absurd h List.not_mem_nil⟩⟩⟩⟩⟩⟩⟩⟩⟩⟩⟩⟩⟩⟩⟩⟩⟩⟩⟩⟩⟩⟩⟩⟩⟩⟩⟩⟩⟩⟩⟩⟩⟩⟩⟩⟩⟩⟩
