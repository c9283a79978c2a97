theorem dX12_table_0 : decode cX12_table 0 = .ok (.aload_n 0, 1) := by decide +kernel
theorem dX12_table_1 : decode cX12_table 1 = .ok (.getfield 53, 3) := by decide +kernel
theorem dX12_table_4 : decode cX12_table 4 = .ok (.bipush 7, 2) := by decide +kernel
theorem dX12_table_6 : decode cX12_table 6 = .ok (.if_icmp .lt 24, 3) := by decide +kernel
theorem dX12_table_9 : decode cX12_table 9 = .ok (.aload_n 0, 1) := by decide +kernel
theorem dX12_table_10 : decode cX12_table 10 = .ok (.getfield 53, 3) := by decide +kernel
theorem dX12_table_13 : decode cX12_table 13 = .ok (.iconst 5, 1) := by decide +kernel
theorem dX12_table_14 : decode cX12_table 14 = .ok (.irem, 1) := by decide +kernel
theorem dX12_table_15 : decode cX12_table 15 = .ok (.iconst 2, 1) := by decide +kernel
theorem dX12_table_16 : decode cX12_table 16 = .ok (.if_icmp .ne 14, 3) := by decide +kernel
theorem dX12_table_19 : decode cX12_table 19 = .ok (.aload_n 0, 1) := by decide +kernel
theorem dX12_table_20 : decode cX12_table 20 = .ok (.invokevirtual 86, 3) := by decide +kernel
theorem dX12_table_23 : decode cX12_table 23 = .ok (.aload_n 0, 1) := by decide +kernel
theorem dX12_table_24 : decode cX12_table 24 = .ok (.getfield 53, 3) := by decide +kernel
theorem dX12_table_27 : decode cX12_table 27 = .ok (.if_icmp .ge 6, 3) := by decide +kernel
theorem dX12_table_30 : decode cX12_table 30 = .ok (.bipush (-103), 2) := by decide +kernel
theorem dX12_table_32 : decode cX12_table 32 = .ok (.ireturn, 1) := by decide +kernel
theorem dX12_table_33 : decode cX12_table 33 = .ok (.aload_n 0, 1) := by decide +kernel
theorem dX12_table_34 : decode cX12_table 34 = .ok (.aload_n 0, 1) := by decide +kernel
theorem dX12_table_35 : decode cX12_table 35 = .ok (.getfield 53, 3) := by decide +kernel
theorem dX12_table_38 : decode cX12_table 38 = .ok (.iconst 2, 1) := by decide +kernel
theorem dX12_table_39 : decode cX12_table 39 = .ok (.isub, 1) := by decide +kernel
theorem dX12_table_40 : decode cX12_table 40 = .ok (.iconst 5, 1) := by decide +kernel
theorem dX12_table_41 : decode cX12_table 41 = .ok (.idiv, 1) := by decide +kernel
theorem dX12_table_42 : decode cX12_table 42 = .ok (.putfield 90, 3) := by decide +kernel
theorem dX12_table_45 : decode cX12_table 45 = .ok (.aload_n 0, 1) := by decide +kernel
theorem dX12_table_46 : decode cX12_table 46 = .ok (.aload_n 0, 1) := by decide +kernel
theorem dX12_table_47 : decode cX12_table 47 = .ok (.iconst 0, 1) := by decide +kernel
theorem dX12_table_48 : decode cX12_table 48 = .ok (.invokevirtual 56, 3) := by decide +kernel
theorem dX12_table_51 : decode cX12_table 51 = .ok (.putfield 93, 3) := by decide +kernel
theorem dX12_table_54 : decode cX12_table 54 = .ok (.aload_n 0, 1) := by decide +kernel
theorem dX12_table_55 : decode cX12_table 55 = .ok (.getfield 13, 3) := by decide +kernel
theorem dX12_table_58 : decode cX12_table 58 = .ok (.iconst 0, 1) := by decide +kernel
theorem dX12_table_59 : decode cX12_table 59 = .ok (.iconst 0, 1) := by decide +kernel
theorem dX12_table_60 : decode cX12_table 60 = .ok (.iastore, 1) := by decide +kernel
theorem dX12_table_61 : decode cX12_table 61 = .ok (.aload_n 0, 1) := by decide +kernel
theorem dX12_table_62 : decode cX12_table 62 = .ok (.getfield 16, 3) := by decide +kernel
theorem dX12_table_65 : decode cX12_table 65 = .ok (.iconst 0, 1) := by decide +kernel
theorem dX12_table_66 : decode cX12_table 66 = .ok (.iconst 0, 1) := by decide +kernel
theorem dX12_table_67 : decode cX12_table 67 = .ok (.iastore, 1) := by decide +kernel
theorem dX12_table_68 : decode cX12_table 68 = .ok (.aload_n 0, 1) := by decide +kernel
theorem dX12_table_69 : decode cX12_table 69 = .ok (.getfield 19, 3) := by decide +kernel
theorem dX12_table_72 : decode cX12_table 72 = .ok (.iconst 0, 1) := by decide +kernel
theorem dX12_table_73 : decode cX12_table 73 = .ok (.aload_n 0, 1) := by decide +kernel
theorem dX12_table_74 : decode cX12_table 74 = .ok (.getfield 93, 3) := by decide +kernel
theorem dX12_table_77 : decode cX12_table 77 = .ok (.iastore, 1) := by decide +kernel
theorem dX12_table_78 : decode cX12_table 78 = .ok (.iconst 1, 1) := by decide +kernel
theorem dX12_table_79 : decode cX12_table 79 = .ok (.istore_n 1, 1) := by decide +kernel
theorem dX12_table_80 : decode cX12_table 80 = .ok (.iload_n 1, 1) := by decide +kernel
theorem dX12_table_81 : decode cX12_table 81 = .ok (.aload_n 0, 1) := by decide +kernel
theorem dX12_table_82 : decode cX12_table 82 = .ok (.getfield 90, 3) := by decide +kernel
theorem dX12_table_85 : decode cX12_table 85 = .ok (.if_icmp .gt 60, 3) := by decide +kernel
theorem dX12_table_88 : decode cX12_table 88 = .ok (.iconst 5, 1) := by decide +kernel
theorem dX12_table_89 : decode cX12_table 89 = .ok (.iload_n 1, 1) := by decide +kernel
theorem dX12_table_90 : decode cX12_table 90 = .ok (.imul, 1) := by decide +kernel
theorem dX12_table_91 : decode cX12_table 91 = .ok (.iconst 2, 1) := by decide +kernel
theorem dX12_table_92 : decode cX12_table 92 = .ok (.isub, 1) := by decide +kernel
theorem dX12_table_93 : decode cX12_table 93 = .ok (.istore_n 2, 1) := by decide +kernel
theorem dX12_table_94 : decode cX12_table 94 = .ok (.aload_n 0, 1) := by decide +kernel
theorem dX12_table_95 : decode cX12_table 95 = .ok (.getfield 13, 3) := by decide +kernel
theorem dX12_table_98 : decode cX12_table 98 = .ok (.iload_n 1, 1) := by decide +kernel
theorem dX12_table_99 : decode cX12_table 99 = .ok (.aload_n 0, 1) := by decide +kernel
theorem dX12_table_100 : decode cX12_table 100 = .ok (.getfield 7, 3) := by decide +kernel
theorem dX12_table_103 : decode cX12_table 103 = .ok (.iload_n 2, 1) := by decide +kernel
theorem dX12_table_104 : decode cX12_table 104 = .ok (.iaload, 1) := by decide +kernel
theorem dX12_table_105 : decode cX12_table 105 = .ok (.invokestatic 76, 3) := by decide +kernel
theorem dX12_table_108 : decode cX12_table 108 = .ok (.iastore, 1) := by decide +kernel
theorem dX12_table_109 : decode cX12_table 109 = .ok (.aload_n 0, 1) := by decide +kernel
theorem dX12_table_110 : decode cX12_table 110 = .ok (.getfield 16, 3) := by decide +kernel
theorem dX12_table_113 : decode cX12_table 113 = .ok (.iload_n 1, 1) := by decide +kernel
theorem dX12_table_114 : decode cX12_table 114 = .ok (.aload_n 0, 1) := by decide +kernel
theorem dX12_table_115 : decode cX12_table 115 = .ok (.getfield 7, 3) := by decide +kernel
theorem dX12_table_118 : decode cX12_table 118 = .ok (.iload_n 2, 1) := by decide +kernel
theorem dX12_table_119 : decode cX12_table 119 = .ok (.iconst 1, 1) := by decide +kernel
theorem dX12_table_120 : decode cX12_table 120 = .ok (.iadd, 1) := by decide +kernel
theorem dX12_table_121 : decode cX12_table 121 = .ok (.iaload, 1) := by decide +kernel
theorem dX12_table_122 : decode cX12_table 122 = .ok (.bipush 48, 2) := by decide +kernel
theorem dX12_table_124 : decode cX12_table 124 = .ok (.isub, 1) := by decide +kernel
theorem dX12_table_125 : decode cX12_table 125 = .ok (.iastore, 1) := by decide +kernel
theorem dX12_table_126 : decode cX12_table 126 = .ok (.aload_n 0, 1) := by decide +kernel
theorem dX12_table_127 : decode cX12_table 127 = .ok (.getfield 19, 3) := by decide +kernel
theorem dX12_table_130 : decode cX12_table 130 = .ok (.iload_n 1, 1) := by decide +kernel
theorem dX12_table_131 : decode cX12_table 131 = .ok (.aload_n 0, 1) := by decide +kernel
theorem dX12_table_132 : decode cX12_table 132 = .ok (.iload_n 2, 1) := by decide +kernel
theorem dX12_table_133 : decode cX12_table 133 = .ok (.iconst 2, 1) := by decide +kernel
theorem dX12_table_134 : decode cX12_table 134 = .ok (.iadd, 1) := by decide +kernel
theorem dX12_table_135 : decode cX12_table 135 = .ok (.invokevirtual 56, 3) := by decide +kernel
theorem dX12_table_138 : decode cX12_table 138 = .ok (.iastore, 1) := by decide +kernel
theorem dX12_table_139 : decode cX12_table 139 = .ok (.iinc 1 1, 3) := by decide +kernel
theorem dX12_table_142 : decode cX12_table 142 = .ok (.goto (-62), 3) := by decide +kernel
theorem dX12_table_145 : decode cX12_table 145 = .ok (.aload_n 0, 1) := by decide +kernel
theorem dX12_table_146 : decode cX12_table 146 = .ok (.iconst 0, 1) := by decide +kernel
theorem dX12_table_147 : decode cX12_table 147 = .ok (.putfield 96, 3) := by decide +kernel
theorem dX12_table_150 : decode cX12_table 150 = .ok (.aload_n 0, 1) := by decide +kernel
theorem dX12_table_151 : decode cX12_table 151 = .ok (.iconst 0, 1) := by decide +kernel
theorem dX12_table_152 : decode cX12_table 152 = .ok (.putfield 99, 3) := by decide +kernel
theorem dX12_table_155 : decode cX12_table 155 = .ok (.aload_n 0, 1) := by decide +kernel
theorem dX12_table_156 : decode cX12_table 156 = .ok (.iconst 0, 1) := by decide +kernel
theorem dX12_table_157 : decode cX12_table 157 = .ok (.putfield 102, 3) := by decide +kernel
theorem dX12_table_160 : decode cX12_table 160 = .ok (.aload_n 0, 1) := by decide +kernel
theorem dX12_table_161 : decode cX12_table 161 = .ok (.iconst 0, 1) := by decide +kernel
theorem dX12_table_162 : decode cX12_table 162 = .ok (.putfield 105, 3) := by decide +kernel
theorem dX12_table_165 : decode cX12_table 165 = .ok (.aload_n 0, 1) := by decide +kernel
theorem dX12_table_166 : decode cX12_table 166 = .ok (.dup, 1) := by decide +kernel
theorem dX12_table_167 : decode cX12_table 167 = .ok (.getfield 108, 3) := by decide +kernel
theorem dX12_table_170 : decode cX12_table 170 = .ok (.iconst 1, 1) := by decide +kernel
theorem dX12_table_171 : decode cX12_table 171 = .ok (.iadd, 1) := by decide +kernel
theorem dX12_table_172 : decode cX12_table 172 = .ok (.putfield 108, 3) := by decide +kernel
theorem dX12_table_175 : decode cX12_table 175 = .ok (.aload_n 0, 1) := by decide +kernel
theorem dX12_table_176 : decode cX12_table 176 = .ok (.iconst 0, 1) := by decide +kernel
theorem dX12_table_177 : decode cX12_table 177 = .ok (.putfield 53, 3) := by decide +kernel
theorem dX12_table_180 : decode cX12_table 180 = .ok (.aload_n 0, 1) := by decide +kernel
theorem dX12_table_181 : decode cX12_table 181 = .ok (.getfield 90, 3) := by decide +kernel
theorem dX12_table_184 : decode cX12_table 184 = .ok (.ireturn, 1) := by decide +kernel
theorem dX12_lacks_0 : decode cX12_lacks 0 = .ok (.aload_n 0, 1) := by decide +kernel
theorem dX12_lacks_1 : decode cX12_lacks 1 = .ok (.getfield 90, 3) := by decide +kernel
theorem dX12_lacks_4 : decode cX12_lacks 4 = .ok (.ifCond .ne 7, 3) := by decide +kernel
theorem dX12_lacks_7 : decode cX12_lacks 7 = .ok (.iconst 1, 1) := by decide +kernel
theorem dX12_lacks_8 : decode cX12_lacks 8 = .ok (.goto 4, 3) := by decide +kernel
theorem dX12_lacks_11 : decode cX12_lacks 11 = .ok (.iconst 0, 1) := by decide +kernel
theorem dX12_lacks_12 : decode cX12_lacks 12 = .ok (.ireturn, 1) := by decide +kernel
theorem dX12_isBall_0 : decode cX12_isBall 0 = .ok (.aload_n 0, 1) := by decide +kernel
theorem dX12_isBall_1 : decode cX12_isBall 1 = .ok (.invokevirtual 111, 3) := by decide +kernel
theorem dX12_isBall_4 : decode cX12_isBall 4 = .ok (.ifCond .ne 21, 3) := by decide +kernel
theorem dX12_isBall_7 : decode cX12_isBall 7 = .ok (.iload_n 1, 1) := by decide +kernel
theorem dX12_isBall_8 : decode cX12_isBall 8 = .ok (.i2l, 1) := by decide +kernel
theorem dX12_isBall_9 : decode cX12_isBall 9 = .ok (.lconst 0, 1) := by decide +kernel
theorem dX12_isBall_10 : decode cX12_isBall 10 = .ok (.aload_n 0, 1) := by decide +kernel
theorem dX12_isBall_11 : decode cX12_isBall 11 = .ok (.getfield 90, 3) := by decide +kernel
theorem dX12_isBall_14 : decode cX12_isBall 14 = .ok (.i2l, 1) := by decide +kernel
theorem dX12_isBall_15 : decode cX12_isBall 15 = .ok (.invokestatic 49, 3) := by decide +kernel
theorem dX12_isBall_18 : decode cX12_isBall 18 = .ok (.ifCond .eq 7, 3) := by decide +kernel
theorem dX12_isBall_21 : decode cX12_isBall 21 = .ok (.iconst 1, 1) := by decide +kernel
theorem dX12_isBall_22 : decode cX12_isBall 22 = .ok (.goto 4, 3) := by decide +kernel
theorem dX12_isBall_25 : decode cX12_isBall 25 = .ok (.iconst 0, 1) := by decide +kernel
theorem dX12_isBall_26 : decode cX12_isBall 26 = .ok (.ireturn, 1) := by decide +kernel
theorem dX12_isColoured_0 : decode cX12_isColoured 0 = .ok (.iload_n 1, 1) := by decide +kernel
theorem dX12_isColoured_1 : decode cX12_isColoured 1 = .ok (.i2l, 1) := by decide +kernel
theorem dX12_isColoured_2 : decode cX12_isColoured 2 = .ok (.lconst 1, 1) := by decide +kernel
theorem dX12_isColoured_3 : decode cX12_isColoured 3 = .ok (.aload_n 0, 1) := by decide +kernel
theorem dX12_isColoured_4 : decode cX12_isColoured 4 = .ok (.getfield 90, 3) := by decide +kernel
theorem dX12_isColoured_7 : decode cX12_isColoured 7 = .ok (.i2l, 1) := by decide +kernel
theorem dX12_isColoured_8 : decode cX12_isColoured 8 = .ok (.invokestatic 49, 3) := by decide +kernel
theorem dX12_isColoured_11 : decode cX12_isColoured 11 = .ok (.ireturn, 1) := by decide +kernel
theorem dX12_isCell_0 : decode cX12_isCell 0 = .ok (.aload_n 0, 1) := by decide +kernel
theorem dX12_isCell_1 : decode cX12_isCell 1 = .ok (.invokevirtual 111, 3) := by decide +kernel
theorem dX12_isCell_4 : decode cX12_isCell 4 = .ok (.ifCond .ne 19, 3) := by decide +kernel
theorem dX12_isCell_7 : decode cX12_isCell 7 = .ok (.iload_n 1, 1) := by decide +kernel
theorem dX12_isCell_8 : decode cX12_isCell 8 = .ok (.i2l, 1) := by decide +kernel
theorem dX12_isCell_9 : decode cX12_isCell 9 = .ok (.lconst 0, 1) := by decide +kernel
theorem dX12_isCell_10 : decode cX12_isCell 10 = .ok (.ldc2_w 115, 3) := by decide +kernel
theorem dX12_isCell_13 : decode cX12_isCell 13 = .ok (.invokestatic 49, 3) := by decide +kernel
theorem dX12_isCell_16 : decode cX12_isCell 16 = .ok (.ifCond .eq 7, 3) := by decide +kernel
theorem dX12_isCell_19 : decode cX12_isCell 19 = .ok (.iconst 1, 1) := by decide +kernel
theorem dX12_isCell_20 : decode cX12_isCell 20 = .ok (.goto 4, 3) := by decide +kernel
theorem dX12_isCell_23 : decode cX12_isCell 23 = .ok (.iconst 0, 1) := by decide +kernel
theorem dX12_isCell_24 : decode cX12_isCell 24 = .ok (.ireturn, 1) := by decide +kernel
theorem dX12_liesIn_0 : decode cX12_liesIn 0 = .ok (.iconst (-1), 1) := by decide +kernel
theorem dX12_liesIn_1 : decode cX12_liesIn 1 = .ok (.istore_n 3, 1) := by decide +kernel
theorem dX12_liesIn_2 : decode cX12_liesIn 2 = .ok (.iconst 0, 1) := by decide +kernel
theorem dX12_liesIn_3 : decode cX12_liesIn 3 = .ok (.istore 4, 2) := by decide +kernel
theorem dX12_liesIn_5 : decode cX12_liesIn 5 = .ok (.iload 4, 2) := by decide +kernel
theorem dX12_liesIn_7 : decode cX12_liesIn 7 = .ok (.aload_n 0, 1) := by decide +kernel
theorem dX12_liesIn_8 : decode cX12_liesIn 8 = .ok (.getfield 90, 3) := by decide +kernel
theorem dX12_liesIn_11 : decode cX12_liesIn 11 = .ok (.if_icmp .gt 31, 3) := by decide +kernel
theorem dX12_liesIn_14 : decode cX12_liesIn 14 = .ok (.aload_n 0, 1) := by decide +kernel
theorem dX12_liesIn_15 : decode cX12_liesIn 15 = .ok (.invokevirtual 111, 3) := by decide +kernel
theorem dX12_liesIn_18 : decode cX12_liesIn 18 = .ok (.ifCond .ne 24, 3) := by decide +kernel
theorem dX12_liesIn_21 : decode cX12_liesIn 21 = .ok (.aload_n 1, 1) := by decide +kernel
theorem dX12_liesIn_22 : decode cX12_liesIn 22 = .ok (.iload 4, 2) := by decide +kernel
theorem dX12_liesIn_24 : decode cX12_liesIn 24 = .ok (.iaload, 1) := by decide +kernel
theorem dX12_liesIn_25 : decode cX12_liesIn 25 = .ok (.iload_n 2, 1) := by decide +kernel
theorem dX12_liesIn_26 : decode cX12_liesIn 26 = .ok (.if_icmp .ne 8, 3) := by decide +kernel
theorem dX12_liesIn_29 : decode cX12_liesIn 29 = .ok (.iload 4, 2) := by decide +kernel
theorem dX12_liesIn_31 : decode cX12_liesIn 31 = .ok (.goto 4, 3) := by decide +kernel
theorem dX12_liesIn_34 : decode cX12_liesIn 34 = .ok (.iload_n 3, 1) := by decide +kernel
theorem dX12_liesIn_35 : decode cX12_liesIn 35 = .ok (.istore_n 3, 1) := by decide +kernel
theorem dX12_liesIn_36 : decode cX12_liesIn 36 = .ok (.iinc 4 1, 3) := by decide +kernel
theorem dX12_liesIn_39 : decode cX12_liesIn 39 = .ok (.goto (-34), 3) := by decide +kernel
theorem dX12_liesIn_42 : decode cX12_liesIn 42 = .ok (.iload_n 3, 1) := by decide +kernel
theorem dX12_liesIn_43 : decode cX12_liesIn 43 = .ok (.ireturn, 1) := by decide +kernel
theorem dX12_downBy_0 : decode cX12_downBy 0 = .ok (.iload_n 0, 1) := by decide +kernel
theorem dX12_downBy_1 : decode cX12_downBy 1 = .ok (.ifCond .eq 14, 3) := by decide +kernel
theorem dX12_downBy_4 : decode cX12_downBy 4 = .ok (.iload_n 0, 1) := by decide +kernel
theorem dX12_downBy_5 : decode cX12_downBy 5 = .ok (.iconst 1, 1) := by decide +kernel
theorem dX12_downBy_6 : decode cX12_downBy 6 = .ok (.if_icmp .eq 9, 3) := by decide +kernel
theorem dX12_downBy_9 : decode cX12_downBy 9 = .ok (.iload_n 0, 1) := by decide +kernel
theorem dX12_downBy_10 : decode cX12_downBy 10 = .ok (.bipush 7, 2) := by decide +kernel
theorem dX12_downBy_12 : decode cX12_downBy 12 = .ok (.if_icmp .ne 7, 3) := by decide +kernel
theorem dX12_downBy_15 : decode cX12_downBy 15 = .ok (.iconst (-1), 1) := by decide +kernel
theorem dX12_downBy_16 : decode cX12_downBy 16 = .ok (.goto 19, 3) := by decide +kernel
theorem dX12_downBy_19 : decode cX12_downBy 19 = .ok (.iload_n 0, 1) := by decide +kernel
theorem dX12_downBy_20 : decode cX12_downBy 20 = .ok (.iconst 2, 1) := by decide +kernel
theorem dX12_downBy_21 : decode cX12_downBy 21 = .ok (.if_icmp .eq 9, 3) := by decide +kernel
theorem dX12_downBy_24 : decode cX12_downBy 24 = .ok (.iload_n 0, 1) := by decide +kernel
theorem dX12_downBy_25 : decode cX12_downBy 25 = .ok (.bipush 6, 2) := by decide +kernel
theorem dX12_downBy_27 : decode cX12_downBy 27 = .ok (.if_icmp .ne 7, 3) := by decide +kernel
theorem dX12_downBy_30 : decode cX12_downBy 30 = .ok (.iconst 0, 1) := by decide +kernel
theorem dX12_downBy_31 : decode cX12_downBy 31 = .ok (.goto 4, 3) := by decide +kernel
theorem dX12_downBy_34 : decode cX12_downBy 34 = .ok (.iconst 1, 1) := by decide +kernel
theorem dX12_downBy_35 : decode cX12_downBy 35 = .ok (.ireturn, 1) := by decide +kernel
theorem dX12_rightBy_0 : decode cX12_rightBy 0 = .ok (.iload_n 0, 1) := by decide +kernel
theorem dX12_rightBy_1 : decode cX12_rightBy 1 = .ok (.ifCond .eq 8, 3) := by decide +kernel
theorem dX12_rightBy_4 : decode cX12_rightBy 4 = .ok (.iload_n 0, 1) := by decide +kernel
theorem dX12_rightBy_5 : decode cX12_rightBy 5 = .ok (.iconst 4, 1) := by decide +kernel
theorem dX12_rightBy_6 : decode cX12_rightBy 6 = .ok (.if_icmp .ne 7, 3) := by decide +kernel
theorem dX12_rightBy_9 : decode cX12_rightBy 9 = .ok (.iconst 0, 1) := by decide +kernel
theorem dX12_rightBy_10 : decode cX12_rightBy 10 = .ok (.goto 13, 3) := by decide +kernel
theorem dX12_rightBy_13 : decode cX12_rightBy 13 = .ok (.iload_n 0, 1) := by decide +kernel
theorem dX12_rightBy_14 : decode cX12_rightBy 14 = .ok (.iconst 4, 1) := by decide +kernel
theorem dX12_rightBy_15 : decode cX12_rightBy 15 = .ok (.if_icmp .ge 7, 3) := by decide +kernel
theorem dX12_rightBy_18 : decode cX12_rightBy 18 = .ok (.iconst 1, 1) := by decide +kernel
theorem dX12_rightBy_19 : decode cX12_rightBy 19 = .ok (.goto 4, 3) := by decide +kernel
theorem dX12_rightBy_22 : decode cX12_rightBy 22 = .ok (.iconst (-1), 1) := by decide +kernel
theorem dX12_rightBy_23 : decode cX12_rightBy 23 = .ok (.ireturn, 1) := by decide +kernel
theorem dX12_rollsBy_0 : decode cX12_rollsBy 0 = .ok (.iload_n 0, 1) := by decide +kernel
theorem dX12_rollsBy_1 : decode cX12_rollsBy 1 = .ok (.iconst 1, 1) := by decide +kernel
theorem dX12_rollsBy_2 : decode cX12_rollsBy 2 = .ok (.if_icmp .ne 9, 3) := by decide +kernel
theorem dX12_rollsBy_5 : decode cX12_rollsBy 5 = .ok (.iload_n 1, 1) := by decide +kernel
theorem dX12_rollsBy_6 : decode cX12_rollsBy 6 = .ok (.iconst 2, 1) := by decide +kernel
theorem dX12_rollsBy_7 : decode cX12_rollsBy 7 = .ok (.idiv, 1) := by decide +kernel
theorem dX12_rollsBy_8 : decode cX12_rollsBy 8 = .ok (.goto 26, 3) := by decide +kernel
theorem dX12_rollsBy_11 : decode cX12_rollsBy 11 = .ok (.iload_n 0, 1) := by decide +kernel
theorem dX12_rollsBy_12 : decode cX12_rollsBy 12 = .ok (.iconst 4, 1) := by decide +kernel
theorem dX12_rollsBy_13 : decode cX12_rollsBy 13 = .ok (.if_icmp .ne 9, 3) := by decide +kernel
theorem dX12_rollsBy_16 : decode cX12_rollsBy 16 = .ok (.iload_n 1, 1) := by decide +kernel
theorem dX12_rollsBy_17 : decode cX12_rollsBy 17 = .ok (.iconst 4, 1) := by decide +kernel
theorem dX12_rollsBy_18 : decode cX12_rollsBy 18 = .ok (.idiv, 1) := by decide +kernel
theorem dX12_rollsBy_19 : decode cX12_rollsBy 19 = .ok (.goto 15, 3) := by decide +kernel
theorem dX12_rollsBy_22 : decode cX12_rollsBy 22 = .ok (.iload_n 0, 1) := by decide +kernel
theorem dX12_rollsBy_23 : decode cX12_rollsBy 23 = .ok (.iconst 2, 1) := by decide +kernel
theorem dX12_rollsBy_24 : decode cX12_rollsBy 24 = .ok (.if_icmp .ne 9, 3) := by decide +kernel
theorem dX12_rollsBy_27 : decode cX12_rollsBy 27 = .ok (.iload_n 1, 1) := by decide +kernel
theorem dX12_rollsBy_28 : decode cX12_rollsBy 28 = .ok (.iconst 1, 1) := by decide +kernel
theorem dX12_rollsBy_29 : decode cX12_rollsBy 29 = .ok (.iadd, 1) := by decide +kernel
theorem dX12_rollsBy_30 : decode cX12_rollsBy 30 = .ok (.goto 4, 3) := by decide +kernel
theorem dX12_rollsBy_33 : decode cX12_rollsBy 33 = .ok (.iload_n 1, 1) := by decide +kernel
theorem dX12_rollsBy_34 : decode cX12_rollsBy 34 = .ok (.ireturn, 1) := by decide +kernel
theorem dX12_roll_0 : decode cX12_roll 0 = .ok (.iload_n 2, 1) := by decide +kernel
theorem dX12_roll_1 : decode cX12_roll 1 = .ok (.istore 6, 2) := by decide +kernel
theorem dX12_roll_3 : decode cX12_roll 3 = .ok (.iload_n 3, 1) := by decide +kernel
theorem dX12_roll_4 : decode cX12_roll 4 = .ok (.istore 7, 2) := by decide +kernel
theorem dX12_roll_6 : decode cX12_roll 6 = .ok (.iload 4, 2) := by decide +kernel
theorem dX12_roll_8 : decode cX12_roll 8 = .ok (.istore 8, 2) := by decide +kernel
theorem dX12_roll_10 : decode cX12_roll 10 = .ok (.iload 5, 2) := by decide +kernel
theorem dX12_roll_12 : decode cX12_roll 12 = .ok (.istore 9, 2) := by decide +kernel
theorem dX12_roll_14 : decode cX12_roll 14 = .ok (.iload 9, 2) := by decide +kernel
theorem dX12_roll_16 : decode cX12_roll 16 = .ok (.ifCond .le 304, 3) := by decide +kernel
theorem dX12_roll_19 : decode cX12_roll 19 = .ok (.aload_n 1, 1) := by decide +kernel
theorem dX12_roll_20 : decode cX12_roll 20 = .ok (.iload 6, 2) := by decide +kernel
theorem dX12_roll_22 : decode cX12_roll 22 = .ok (.iaload, 1) := by decide +kernel
theorem dX12_roll_23 : decode cX12_roll 23 = .ok (.bipush 9, 2) := by decide +kernel
theorem dX12_roll_25 : decode cX12_roll 25 = .ok (.idiv, 1) := by decide +kernel
theorem dX12_roll_26 : decode cX12_roll 26 = .ok (.iload 7, 2) := by decide +kernel
theorem dX12_roll_28 : decode cX12_roll 28 = .ok (.iadd, 1) := by decide +kernel
theorem dX12_roll_29 : decode cX12_roll 29 = .ok (.istore 10, 2) := by decide +kernel
theorem dX12_roll_31 : decode cX12_roll 31 = .ok (.aload_n 1, 1) := by decide +kernel
theorem dX12_roll_32 : decode cX12_roll 32 = .ok (.iload 6, 2) := by decide +kernel
theorem dX12_roll_34 : decode cX12_roll 34 = .ok (.iaload, 1) := by decide +kernel
theorem dX12_roll_35 : decode cX12_roll 35 = .ok (.bipush 9, 2) := by decide +kernel
theorem dX12_roll_37 : decode cX12_roll 37 = .ok (.irem, 1) := by decide +kernel
theorem dX12_roll_38 : decode cX12_roll 38 = .ok (.iload 8, 2) := by decide +kernel
theorem dX12_roll_40 : decode cX12_roll 40 = .ok (.iadd, 1) := by decide +kernel
theorem dX12_roll_41 : decode cX12_roll 41 = .ok (.istore 11, 2) := by decide +kernel
theorem dX12_roll_43 : decode cX12_roll 43 = .ok (.iload 10, 2) := by decide +kernel
theorem dX12_roll_45 : decode cX12_roll 45 = .ok (.i2l, 1) := by decide +kernel
theorem dX12_roll_46 : decode cX12_roll 46 = .ok (.lconst 0, 1) := by decide +kernel
theorem dX12_roll_47 : decode cX12_roll 47 = .ok (.ldc2_w 117, 3) := by decide +kernel
theorem dX12_roll_50 : decode cX12_roll 50 = .ok (.invokestatic 49, 3) := by decide +kernel
theorem dX12_roll_53 : decode cX12_roll 53 = .ok (.ifCond .ne 7, 3) := by decide +kernel
theorem dX12_roll_56 : decode cX12_roll 56 = .ok (.iconst 1, 1) := by decide +kernel
theorem dX12_roll_57 : decode cX12_roll 57 = .ok (.goto 4, 3) := by decide +kernel
theorem dX12_roll_60 : decode cX12_roll 60 = .ok (.iconst 0, 1) := by decide +kernel
theorem dX12_roll_61 : decode cX12_roll 61 = .ok (.istore 12, 2) := by decide +kernel
theorem dX12_roll_63 : decode cX12_roll 63 = .ok (.iload 11, 2) := by decide +kernel
theorem dX12_roll_65 : decode cX12_roll 65 = .ok (.i2l, 1) := by decide +kernel
theorem dX12_roll_66 : decode cX12_roll 66 = .ok (.lconst 0, 1) := by decide +kernel
theorem dX12_roll_67 : decode cX12_roll 67 = .ok (.ldc2_w 119, 3) := by decide +kernel
theorem dX12_roll_70 : decode cX12_roll 70 = .ok (.invokestatic 49, 3) := by decide +kernel
theorem dX12_roll_73 : decode cX12_roll 73 = .ok (.ifCond .ne 7, 3) := by decide +kernel
theorem dX12_roll_76 : decode cX12_roll 76 = .ok (.iconst 1, 1) := by decide +kernel
theorem dX12_roll_77 : decode cX12_roll 77 = .ok (.goto 4, 3) := by decide +kernel
theorem dX12_roll_80 : decode cX12_roll 80 = .ok (.iconst 0, 1) := by decide +kernel
theorem dX12_roll_81 : decode cX12_roll 81 = .ok (.istore 13, 2) := by decide +kernel
theorem dX12_roll_83 : decode cX12_roll 83 = .ok (.iload 12, 2) := by decide +kernel
theorem dX12_roll_85 : decode cX12_roll 85 = .ok (.ifCond .ne 8, 3) := by decide +kernel
theorem dX12_roll_88 : decode cX12_roll 88 = .ok (.iload 13, 2) := by decide +kernel
theorem dX12_roll_90 : decode cX12_roll 90 = .ok (.ifCond .eq 7, 3) := by decide +kernel
theorem dX12_roll_93 : decode cX12_roll 93 = .ok (.iconst (-1), 1) := by decide +kernel
theorem dX12_roll_94 : decode cX12_roll 94 = .ok (.goto 11, 3) := by decide +kernel
theorem dX12_roll_97 : decode cX12_roll 97 = .ok (.bipush 9, 2) := by decide +kernel
theorem dX12_roll_99 : decode cX12_roll 99 = .ok (.iload 10, 2) := by decide +kernel
theorem dX12_roll_101 : decode cX12_roll 101 = .ok (.imul, 1) := by decide +kernel
theorem dX12_roll_102 : decode cX12_roll 102 = .ok (.iload 11, 2) := by decide +kernel
theorem dX12_roll_104 : decode cX12_roll 104 = .ok (.iadd, 1) := by decide +kernel
theorem dX12_roll_105 : decode cX12_roll 105 = .ok (.istore 14, 2) := by decide +kernel
theorem dX12_roll_107 : decode cX12_roll 107 = .ok (.iload 14, 2) := by decide +kernel
theorem dX12_roll_109 : decode cX12_roll 109 = .ok (.iconst (-1), 1) := by decide +kernel
theorem dX12_roll_110 : decode cX12_roll 110 = .ok (.if_icmp .ne 7, 3) := by decide +kernel
theorem dX12_roll_113 : decode cX12_roll 113 = .ok (.iconst (-1), 1) := by decide +kernel
theorem dX12_roll_114 : decode cX12_roll 114 = .ok (.goto 10, 3) := by decide +kernel
theorem dX12_roll_117 : decode cX12_roll 117 = .ok (.aload_n 0, 1) := by decide +kernel
theorem dX12_roll_118 : decode cX12_roll 118 = .ok (.aload_n 1, 1) := by decide +kernel
theorem dX12_roll_119 : decode cX12_roll 119 = .ok (.iload 14, 2) := by decide +kernel
theorem dX12_roll_121 : decode cX12_roll 121 = .ok (.invokevirtual 121, 3) := by decide +kernel
theorem dX12_roll_124 : decode cX12_roll 124 = .ok (.istore 15, 2) := by decide +kernel
theorem dX12_roll_126 : decode cX12_roll 126 = .ok (.iload 14, 2) := by decide +kernel
theorem dX12_roll_128 : decode cX12_roll 128 = .ok (.iconst (-1), 1) := by decide +kernel
theorem dX12_roll_129 : decode cX12_roll 129 = .ok (.if_icmp .ne 20, 3) := by decide +kernel
theorem dX12_roll_132 : decode cX12_roll 132 = .ok (.aload_n 0, 1) := by decide +kernel
theorem dX12_roll_133 : decode cX12_roll 133 = .ok (.getfield 13, 3) := by decide +kernel
theorem dX12_roll_136 : decode cX12_roll 136 = .ok (.iload 6, 2) := by decide +kernel
theorem dX12_roll_138 : decode cX12_roll 138 = .ok (.iaload, 1) := by decide +kernel
theorem dX12_roll_139 : decode cX12_roll 139 = .ok (.iconst 3, 1) := by decide +kernel
theorem dX12_roll_140 : decode cX12_roll 140 = .ok (.if_icmp .ne 9, 3) := by decide +kernel
theorem dX12_roll_143 : decode cX12_roll 143 = .ok (.iconst 0, 1) := by decide +kernel
theorem dX12_roll_144 : decode cX12_roll 144 = .ok (.istore 9, 2) := by decide +kernel
theorem dX12_roll_146 : decode cX12_roll 146 = .ok (.goto 171, 3) := by decide +kernel
theorem dX12_roll_149 : decode cX12_roll 149 = .ok (.iload 14, 2) := by decide +kernel
theorem dX12_roll_151 : decode cX12_roll 151 = .ok (.iconst (-1), 1) := by decide +kernel
theorem dX12_roll_152 : decode cX12_roll 152 = .ok (.if_icmp .ne 49, 3) := by decide +kernel
theorem dX12_roll_155 : decode cX12_roll 155 = .ok (.iload 12, 2) := by decide +kernel
theorem dX12_roll_157 : decode cX12_roll 157 = .ok (.ifCond .eq 9, 3) := by decide +kernel
theorem dX12_roll_160 : decode cX12_roll 160 = .ok (.iload 7, 2) := by decide +kernel
theorem dX12_roll_162 : decode cX12_roll 162 = .ok (.ineg, 1) := by decide +kernel
theorem dX12_roll_163 : decode cX12_roll 163 = .ok (.goto 5, 3) := by decide +kernel
theorem dX12_roll_166 : decode cX12_roll 166 = .ok (.iload 7, 2) := by decide +kernel
theorem dX12_roll_168 : decode cX12_roll 168 = .ok (.istore 7, 2) := by decide +kernel
theorem dX12_roll_170 : decode cX12_roll 170 = .ok (.iload 13, 2) := by decide +kernel
theorem dX12_roll_172 : decode cX12_roll 172 = .ok (.ifCond .eq 9, 3) := by decide +kernel
theorem dX12_roll_175 : decode cX12_roll 175 = .ok (.iload 8, 2) := by decide +kernel
theorem dX12_roll_177 : decode cX12_roll 177 = .ok (.ineg, 1) := by decide +kernel
theorem dX12_roll_178 : decode cX12_roll 178 = .ok (.goto 5, 3) := by decide +kernel
theorem dX12_roll_181 : decode cX12_roll 181 = .ok (.iload 8, 2) := by decide +kernel
theorem dX12_roll_183 : decode cX12_roll 183 = .ok (.istore 8, 2) := by decide +kernel
theorem dX12_roll_185 : decode cX12_roll 185 = .ok (.iinc 9 (-1), 3) := by decide +kernel
theorem dX12_roll_188 : decode cX12_roll 188 = .ok (.aload_n 0, 1) := by decide +kernel
theorem dX12_roll_189 : decode cX12_roll 189 = .ok (.dup, 1) := by decide +kernel
theorem dX12_roll_190 : decode cX12_roll 190 = .ok (.getfield 125, 3) := by decide +kernel
theorem dX12_roll_193 : decode cX12_roll 193 = .ok (.iconst 1, 1) := by decide +kernel
theorem dX12_roll_194 : decode cX12_roll 194 = .ok (.iadd, 1) := by decide +kernel
theorem dX12_roll_195 : decode cX12_roll 195 = .ok (.putfield 125, 3) := by decide +kernel
theorem dX12_roll_198 : decode cX12_roll 198 = .ok (.goto 119, 3) := by decide +kernel
theorem dX12_roll_201 : decode cX12_roll 201 = .ok (.iload 15, 2) := by decide +kernel
theorem dX12_roll_203 : decode cX12_roll 203 = .ok (.iconst (-1), 1) := by decide +kernel
theorem dX12_roll_204 : decode cX12_roll 204 = .ok (.if_icmp .eq 65, 3) := by decide +kernel
theorem dX12_roll_207 : decode cX12_roll 207 = .ok (.iload 6, 2) := by decide +kernel
theorem dX12_roll_209 : decode cX12_roll 209 = .ok (.ifCond .ne 37, 3) := by decide +kernel
theorem dX12_roll_212 : decode cX12_roll 212 = .ok (.aload_n 0, 1) := by decide +kernel
theorem dX12_roll_213 : decode cX12_roll 213 = .ok (.getfield 128, 3) := by decide +kernel
theorem dX12_roll_216 : decode cX12_roll 216 = .ok (.iconst (-1), 1) := by decide +kernel
theorem dX12_roll_217 : decode cX12_roll 217 = .ok (.if_icmp .ne 29, 3) := by decide +kernel
theorem dX12_roll_220 : decode cX12_roll 220 = .ok (.aload_n 0, 1) := by decide +kernel
theorem dX12_roll_221 : decode cX12_roll 221 = .ok (.iload 15, 2) := by decide +kernel
theorem dX12_roll_223 : decode cX12_roll 223 = .ok (.putfield 128, 3) := by decide +kernel
theorem dX12_roll_226 : decode cX12_roll 226 = .ok (.aload_n 0, 1) := by decide +kernel
theorem dX12_roll_227 : decode cX12_roll 227 = .ok (.iload 9, 2) := by decide +kernel
theorem dX12_roll_229 : decode cX12_roll 229 = .ok (.iconst 1, 1) := by decide +kernel
theorem dX12_roll_230 : decode cX12_roll 230 = .ok (.isub, 1) := by decide +kernel
theorem dX12_roll_231 : decode cX12_roll 231 = .ok (.putfield 131, 3) := by decide +kernel
theorem dX12_roll_234 : decode cX12_roll 234 = .ok (.aload_n 0, 1) := by decide +kernel
theorem dX12_roll_235 : decode cX12_roll 235 = .ok (.iload 7, 2) := by decide +kernel
theorem dX12_roll_237 : decode cX12_roll 237 = .ok (.putfield 134, 3) := by decide +kernel
theorem dX12_roll_240 : decode cX12_roll 240 = .ok (.aload_n 0, 1) := by decide +kernel
theorem dX12_roll_241 : decode cX12_roll 241 = .ok (.iload 8, 2) := by decide +kernel
theorem dX12_roll_243 : decode cX12_roll 243 = .ok (.putfield 137, 3) := by decide +kernel
theorem dX12_roll_246 : decode cX12_roll 246 = .ok (.aload_n 0, 1) := by decide +kernel
theorem dX12_roll_247 : decode cX12_roll 247 = .ok (.getfield 13, 3) := by decide +kernel
theorem dX12_roll_250 : decode cX12_roll 250 = .ok (.iload 15, 2) := by decide +kernel
theorem dX12_roll_252 : decode cX12_roll 252 = .ok (.iaload, 1) := by decide +kernel
theorem dX12_roll_253 : decode cX12_roll 253 = .ok (.iload 9, 2) := by decide +kernel
theorem dX12_roll_255 : decode cX12_roll 255 = .ok (.iconst 1, 1) := by decide +kernel
theorem dX12_roll_256 : decode cX12_roll 256 = .ok (.isub, 1) := by decide +kernel
theorem dX12_roll_257 : decode cX12_roll 257 = .ok (.invokestatic 140, 3) := by decide +kernel
theorem dX12_roll_260 : decode cX12_roll 260 = .ok (.istore 9, 2) := by decide +kernel
theorem dX12_roll_262 : decode cX12_roll 262 = .ok (.iload 15, 2) := by decide +kernel
theorem dX12_roll_264 : decode cX12_roll 264 = .ok (.istore 6, 2) := by decide +kernel
theorem dX12_roll_266 : decode cX12_roll 266 = .ok (.goto 51, 3) := by decide +kernel
theorem dX12_roll_269 : decode cX12_roll 269 = .ok (.aload_n 1, 1) := by decide +kernel
theorem dX12_roll_270 : decode cX12_roll 270 = .ok (.iload 6, 2) := by decide +kernel
theorem dX12_roll_272 : decode cX12_roll 272 = .ok (.iload 14, 2) := by decide +kernel
theorem dX12_roll_274 : decode cX12_roll 274 = .ok (.iastore, 1) := by decide +kernel
theorem dX12_roll_275 : decode cX12_roll 275 = .ok (.aload_n 0, 1) := by decide +kernel
theorem dX12_roll_276 : decode cX12_roll 276 = .ok (.dup, 1) := by decide +kernel
theorem dX12_roll_277 : decode cX12_roll 277 = .ok (.getfield 144, 3) := by decide +kernel
theorem dX12_roll_280 : decode cX12_roll 280 = .ok (.iconst 1, 1) := by decide +kernel
theorem dX12_roll_281 : decode cX12_roll 281 = .ok (.iadd, 1) := by decide +kernel
theorem dX12_roll_282 : decode cX12_roll 282 = .ok (.putfield 144, 3) := by decide +kernel
theorem dX12_roll_285 : decode cX12_roll 285 = .ok (.iinc 9 (-1), 3) := by decide +kernel
theorem dX12_roll_288 : decode cX12_roll 288 = .ok (.iload 14, 2) := by decide +kernel
theorem dX12_roll_290 : decode cX12_roll 290 = .ok (.invokestatic 64, 3) := by decide +kernel
theorem dX12_roll_293 : decode cX12_roll 293 = .ok (.ifCond .eq 24, 3) := by decide +kernel
theorem dX12_roll_296 : decode cX12_roll 296 = .ok (.aload_n 1, 1) := by decide +kernel
theorem dX12_roll_297 : decode cX12_roll 297 = .ok (.iload 6, 2) := by decide +kernel
theorem dX12_roll_299 : decode cX12_roll 299 = .ok (.iconst (-1), 1) := by decide +kernel
theorem dX12_roll_300 : decode cX12_roll 300 = .ok (.iastore, 1) := by decide +kernel
theorem dX12_roll_301 : decode cX12_roll 301 = .ok (.aload_n 0, 1) := by decide +kernel
theorem dX12_roll_302 : decode cX12_roll 302 = .ok (.dup, 1) := by decide +kernel
theorem dX12_roll_303 : decode cX12_roll 303 = .ok (.getfield 147, 3) := by decide +kernel
theorem dX12_roll_306 : decode cX12_roll 306 = .ok (.iconst 1, 1) := by decide +kernel
theorem dX12_roll_307 : decode cX12_roll 307 = .ok (.iload 6, 2) := by decide +kernel
theorem dX12_roll_309 : decode cX12_roll 309 = .ok (.ishl, 1) := by decide +kernel
theorem dX12_roll_310 : decode cX12_roll 310 = .ok (.ior, 1) := by decide +kernel
theorem dX12_roll_311 : decode cX12_roll 311 = .ok (.putfield 147, 3) := by decide +kernel
theorem dX12_roll_314 : decode cX12_roll 314 = .ok (.iconst 0, 1) := by decide +kernel
theorem dX12_roll_315 : decode cX12_roll 315 = .ok (.istore 9, 2) := by decide +kernel
theorem dX12_roll_317 : decode cX12_roll 317 = .ok (.goto (-303), 3) := by decide +kernel
theorem dX12_roll_320 : decode cX12_roll 320 = .ok (.return_, 1) := by decide +kernel
theorem dX12_spotWhite_0 : decode cX12_spotWhite 0 = .ok (.aload_n 0, 1) := by decide +kernel
theorem dX12_spotWhite_1 : decode cX12_spotWhite 1 = .ok (.aload_n 1, 1) := by decide +kernel
theorem dX12_spotWhite_2 : decode cX12_spotWhite 2 = .ok (.aload_n 0, 1) := by decide +kernel
theorem dX12_spotWhite_3 : decode cX12_spotWhite 3 = .ok (.getfield 93, 3) := by decide +kernel
theorem dX12_spotWhite_6 : decode cX12_spotWhite 6 = .ok (.invokevirtual 121, 3) := by decide +kernel
theorem dX12_spotWhite_9 : decode cX12_spotWhite 9 = .ok (.iconst (-1), 1) := by decide +kernel
theorem dX12_spotWhite_10 : decode cX12_spotWhite 10 = .ok (.if_icmp .ne 10, 3) := by decide +kernel
theorem dX12_spotWhite_13 : decode cX12_spotWhite 13 = .ok (.aload_n 1, 1) := by decide +kernel
theorem dX12_spotWhite_14 : decode cX12_spotWhite 14 = .ok (.iconst 0, 1) := by decide +kernel
theorem dX12_spotWhite_15 : decode cX12_spotWhite 15 = .ok (.aload_n 0, 1) := by decide +kernel
theorem dX12_spotWhite_16 : decode cX12_spotWhite 16 = .ok (.getfield 93, 3) := by decide +kernel
theorem dX12_spotWhite_19 : decode cX12_spotWhite 19 = .ok (.iastore, 1) := by decide +kernel
theorem dX12_spotWhite_20 : decode cX12_spotWhite 20 = .ok (.iconst 0, 1) := by decide +kernel
theorem dX12_spotWhite_21 : decode cX12_spotWhite 21 = .ok (.istore_n 2, 1) := by decide +kernel
theorem dX12_spotWhite_22 : decode cX12_spotWhite 22 = .ok (.iload_n 2, 1) := by decide +kernel
theorem dX12_spotWhite_23 : decode cX12_spotWhite 23 = .ok (.bipush 45, 2) := by decide +kernel
theorem dX12_spotWhite_25 : decode cX12_spotWhite 25 = .ok (.if_icmp .ge 41, 3) := by decide +kernel
theorem dX12_spotWhite_28 : decode cX12_spotWhite 28 = .ok (.aload_n 1, 1) := by decide +kernel
theorem dX12_spotWhite_29 : decode cX12_spotWhite 29 = .ok (.iconst 0, 1) := by decide +kernel
theorem dX12_spotWhite_30 : decode cX12_spotWhite 30 = .ok (.iaload, 1) := by decide +kernel
theorem dX12_spotWhite_31 : decode cX12_spotWhite 31 = .ok (.iconst (-1), 1) := by decide +kernel
theorem dX12_spotWhite_32 : decode cX12_spotWhite 32 = .ok (.if_icmp .ne 34, 3) := by decide +kernel
theorem dX12_spotWhite_35 : decode cX12_spotWhite 35 = .ok (.aload_n 1, 1) := by decide +kernel
theorem dX12_spotWhite_36 : decode cX12_spotWhite 36 = .ok (.iconst 0, 1) := by decide +kernel
theorem dX12_spotWhite_37 : decode cX12_spotWhite 37 = .ok (.iload_n 2, 1) := by decide +kernel
theorem dX12_spotWhite_38 : decode cX12_spotWhite 38 = .ok (.invokestatic 64, 3) := by decide +kernel
theorem dX12_spotWhite_41 : decode cX12_spotWhite 41 = .ok (.ifCond .ne 17, 3) := by decide +kernel
theorem dX12_spotWhite_44 : decode cX12_spotWhite 44 = .ok (.aload_n 0, 1) := by decide +kernel
theorem dX12_spotWhite_45 : decode cX12_spotWhite 45 = .ok (.aload_n 1, 1) := by decide +kernel
theorem dX12_spotWhite_46 : decode cX12_spotWhite 46 = .ok (.iload_n 2, 1) := by decide +kernel
theorem dX12_spotWhite_47 : decode cX12_spotWhite 47 = .ok (.invokevirtual 121, 3) := by decide +kernel
theorem dX12_spotWhite_50 : decode cX12_spotWhite 50 = .ok (.iconst (-1), 1) := by decide +kernel
theorem dX12_spotWhite_51 : decode cX12_spotWhite 51 = .ok (.if_icmp .ne 7, 3) := by decide +kernel
theorem dX12_spotWhite_54 : decode cX12_spotWhite 54 = .ok (.iload_n 2, 1) := by decide +kernel
theorem dX12_spotWhite_55 : decode cX12_spotWhite 55 = .ok (.goto 4, 3) := by decide +kernel
theorem dX12_spotWhite_58 : decode cX12_spotWhite 58 = .ok (.iconst (-1), 1) := by decide +kernel
theorem dX12_spotWhite_59 : decode cX12_spotWhite 59 = .ok (.iastore, 1) := by decide +kernel
theorem dX12_spotWhite_60 : decode cX12_spotWhite 60 = .ok (.iinc 2 1, 3) := by decide +kernel
theorem dX12_spotWhite_63 : decode cX12_spotWhite 63 = .ok (.goto (-41), 3) := by decide +kernel
theorem dX12_spotWhite_66 : decode cX12_spotWhite 66 = .ok (.return_, 1) := by decide +kernel
theorem dX12_strike_0 : decode cX12_strike 0 = .ok (.aload_n 0, 1) := by decide +kernel
theorem dX12_strike_1 : decode cX12_strike 1 = .ok (.iconst 0, 1) := by decide +kernel
theorem dX12_strike_2 : decode cX12_strike 2 = .ok (.putfield 147, 3) := by decide +kernel
theorem dX12_strike_5 : decode cX12_strike 5 = .ok (.aload_n 0, 1) := by decide +kernel
theorem dX12_strike_6 : decode cX12_strike 6 = .ok (.iconst 0, 1) := by decide +kernel
theorem dX12_strike_7 : decode cX12_strike 7 = .ok (.putfield 144, 3) := by decide +kernel
theorem dX12_strike_10 : decode cX12_strike 10 = .ok (.aload_n 0, 1) := by decide +kernel
theorem dX12_strike_11 : decode cX12_strike 11 = .ok (.iconst 0, 1) := by decide +kernel
theorem dX12_strike_12 : decode cX12_strike 12 = .ok (.putfield 125, 3) := by decide +kernel
theorem dX12_strike_15 : decode cX12_strike 15 = .ok (.aload_n 0, 1) := by decide +kernel
theorem dX12_strike_16 : decode cX12_strike 16 = .ok (.iconst (-1), 1) := by decide +kernel
theorem dX12_strike_17 : decode cX12_strike 17 = .ok (.putfield 128, 3) := by decide +kernel
theorem dX12_strike_20 : decode cX12_strike 20 = .ok (.aload_n 0, 1) := by decide +kernel
theorem dX12_strike_21 : decode cX12_strike 21 = .ok (.aload_n 1, 1) := by decide +kernel
theorem dX12_strike_22 : decode cX12_strike 22 = .ok (.iconst 0, 1) := by decide +kernel
theorem dX12_strike_23 : decode cX12_strike 23 = .ok (.iload_n 2, 1) := by decide +kernel
theorem dX12_strike_24 : decode cX12_strike 24 = .ok (.invokestatic 150, 3) := by decide +kernel
theorem dX12_strike_27 : decode cX12_strike 27 = .ok (.iload_n 2, 1) := by decide +kernel
theorem dX12_strike_28 : decode cX12_strike 28 = .ok (.invokestatic 153, 3) := by decide +kernel
theorem dX12_strike_31 : decode cX12_strike 31 = .ok (.iload_n 3, 1) := by decide +kernel
theorem dX12_strike_32 : decode cX12_strike 32 = .ok (.invokevirtual 156, 3) := by decide +kernel
theorem dX12_strike_35 : decode cX12_strike 35 = .ok (.aload_n 0, 1) := by decide +kernel
theorem dX12_strike_36 : decode cX12_strike 36 = .ok (.aload_n 0, 1) := by decide +kernel
theorem dX12_strike_37 : decode cX12_strike 37 = .ok (.getfield 128, 3) := by decide +kernel
theorem dX12_strike_40 : decode cX12_strike 40 = .ok (.iconst (-1), 1) := by decide +kernel
theorem dX12_strike_41 : decode cX12_strike 41 = .ok (.if_icmp .ne 7, 3) := by decide +kernel
theorem dX12_strike_44 : decode cX12_strike 44 = .ok (.iconst 1, 1) := by decide +kernel
theorem dX12_strike_45 : decode cX12_strike 45 = .ok (.goto 4, 3) := by decide +kernel
theorem dX12_strike_48 : decode cX12_strike 48 = .ok (.iconst 0, 1) := by decide +kernel
theorem dX12_strike_49 : decode cX12_strike 49 = .ok (.putfield 160, 3) := by decide +kernel
theorem dX12_strike_52 : decode cX12_strike 52 = .ok (.aload_n 0, 1) := by decide +kernel
theorem dX12_strike_53 : decode cX12_strike 53 = .ok (.getfield 160, 3) := by decide +kernel
theorem dX12_strike_56 : decode cX12_strike 56 = .ok (.ifCond .ne 54, 3) := by decide +kernel
theorem dX12_strike_59 : decode cX12_strike 59 = .ok (.iload 4, 2) := by decide +kernel
theorem dX12_strike_61 : decode cX12_strike 61 = .ok (.ifCond .le 49, 3) := by decide +kernel
theorem dX12_strike_64 : decode cX12_strike 64 = .ok (.aload_n 1, 1) := by decide +kernel
theorem dX12_strike_65 : decode cX12_strike 65 = .ok (.iconst 0, 1) := by decide +kernel
theorem dX12_strike_66 : decode cX12_strike 66 = .ok (.iaload, 1) := by decide +kernel
theorem dX12_strike_67 : decode cX12_strike 67 = .ok (.iconst (-1), 1) := by decide +kernel
theorem dX12_strike_68 : decode cX12_strike 68 = .ok (.if_icmp .eq 42, 3) := by decide +kernel
theorem dX12_strike_71 : decode cX12_strike 71 = .ok (.iload 4, 2) := by decide +kernel
theorem dX12_strike_73 : decode cX12_strike 73 = .ok (.iconst 1, 1) := by decide +kernel
theorem dX12_strike_74 : decode cX12_strike 74 = .ok (.if_icmp .ne 7, 3) := by decide +kernel
theorem dX12_strike_77 : decode cX12_strike 77 = .ok (.iconst 1, 1) := by decide +kernel
theorem dX12_strike_78 : decode cX12_strike 78 = .ok (.goto 4, 3) := by decide +kernel
theorem dX12_strike_81 : decode cX12_strike 81 = .ok (.iconst (-1), 1) := by decide +kernel
theorem dX12_strike_82 : decode cX12_strike 82 = .ok (.istore 5, 2) := by decide +kernel
theorem dX12_strike_84 : decode cX12_strike 84 = .ok (.aload_n 0, 1) := by decide +kernel
theorem dX12_strike_85 : decode cX12_strike 85 = .ok (.aload_n 1, 1) := by decide +kernel
theorem dX12_strike_86 : decode cX12_strike 86 = .ok (.iconst 0, 1) := by decide +kernel
theorem dX12_strike_87 : decode cX12_strike 87 = .ok (.iload 5, 2) := by decide +kernel
theorem dX12_strike_89 : decode cX12_strike 89 = .ok (.aload_n 0, 1) := by decide +kernel
theorem dX12_strike_90 : decode cX12_strike 90 = .ok (.getfield 134, 3) := by decide +kernel
theorem dX12_strike_93 : decode cX12_strike 93 = .ok (.imul, 1) := by decide +kernel
theorem dX12_strike_94 : decode cX12_strike 94 = .ok (.iload 5, 2) := by decide +kernel
theorem dX12_strike_96 : decode cX12_strike 96 = .ok (.aload_n 0, 1) := by decide +kernel
theorem dX12_strike_97 : decode cX12_strike 97 = .ok (.getfield 137, 3) := by decide +kernel
theorem dX12_strike_100 : decode cX12_strike 100 = .ok (.imul, 1) := by decide +kernel
theorem dX12_strike_101 : decode cX12_strike 101 = .ok (.aload_n 0, 1) := by decide +kernel
theorem dX12_strike_102 : decode cX12_strike 102 = .ok (.getfield 131, 3) := by decide +kernel
theorem dX12_strike_105 : decode cX12_strike 105 = .ok (.iconst 2, 1) := by decide +kernel
theorem dX12_strike_106 : decode cX12_strike 106 = .ok (.idiv, 1) := by decide +kernel
theorem dX12_strike_107 : decode cX12_strike 107 = .ok (.invokevirtual 156, 3) := by decide +kernel
theorem dX12_strike_110 : decode cX12_strike 110 = .ok (.aload_n 0, 1) := by decide +kernel
theorem dX12_strike_111 : decode cX12_strike 111 = .ok (.aload_n 0, 1) := by decide +kernel
theorem dX12_strike_112 : decode cX12_strike 112 = .ok (.getfield 160, 3) := by decide +kernel
theorem dX12_strike_115 : decode cX12_strike 115 = .ok (.ifCond .ne 13, 3) := by decide +kernel
theorem dX12_strike_118 : decode cX12_strike 118 = .ok (.aload_n 0, 1) := by decide +kernel
theorem dX12_strike_119 : decode cX12_strike 119 = .ok (.getfield 147, 3) := by decide +kernel
theorem dX12_strike_122 : decode cX12_strike 122 = .ok (.iconst 1, 1) := by decide +kernel
theorem dX12_strike_123 : decode cX12_strike 123 = .ok (.iand, 1) := by decide +kernel
theorem dX12_strike_124 : decode cX12_strike 124 = .ok (.iconst 1, 1) := by decide +kernel
theorem dX12_strike_125 : decode cX12_strike 125 = .ok (.if_icmp .ne 7, 3) := by decide +kernel
theorem dX12_strike_128 : decode cX12_strike 128 = .ok (.iconst 1, 1) := by decide +kernel
theorem dX12_strike_129 : decode cX12_strike 129 = .ok (.goto 4, 3) := by decide +kernel
theorem dX12_strike_132 : decode cX12_strike 132 = .ok (.iconst 0, 1) := by decide +kernel
theorem dX12_strike_133 : decode cX12_strike 133 = .ok (.putfield 160, 3) := by decide +kernel
theorem dX12_strike_136 : decode cX12_strike 136 = .ok (.aload_n 0, 1) := by decide +kernel
theorem dX12_strike_137 : decode cX12_strike 137 = .ok (.getfield 160, 3) := by decide +kernel
theorem dX12_strike_140 : decode cX12_strike 140 = .ok (.ifCond .eq 8, 3) := by decide +kernel
theorem dX12_strike_143 : decode cX12_strike 143 = .ok (.bipush (-4), 2) := by decide +kernel
theorem dX12_strike_145 : decode cX12_strike 145 = .ok (.goto 4, 3) := by decide +kernel
theorem dX12_strike_148 : decode cX12_strike 148 = .ok (.iconst 0, 1) := by decide +kernel
theorem dX12_strike_149 : decode cX12_strike 149 = .ok (.istore 5, 2) := by decide +kernel
theorem dX12_strike_151 : decode cX12_strike 151 = .ok (.iconst 1, 1) := by decide +kernel
theorem dX12_strike_152 : decode cX12_strike 152 = .ok (.istore 6, 2) := by decide +kernel
theorem dX12_strike_154 : decode cX12_strike 154 = .ok (.iload 6, 2) := by decide +kernel
theorem dX12_strike_156 : decode cX12_strike 156 = .ok (.aload_n 0, 1) := by decide +kernel
theorem dX12_strike_157 : decode cX12_strike 157 = .ok (.getfield 90, 3) := by decide +kernel
theorem dX12_strike_160 : decode cX12_strike 160 = .ok (.if_icmp .gt 31, 3) := by decide +kernel
theorem dX12_strike_163 : decode cX12_strike 163 = .ok (.iload 5, 2) := by decide +kernel
theorem dX12_strike_165 : decode cX12_strike 165 = .ok (.aload_n 0, 1) := by decide +kernel
theorem dX12_strike_166 : decode cX12_strike 166 = .ok (.getfield 147, 3) := by decide +kernel
theorem dX12_strike_169 : decode cX12_strike 169 = .ok (.iload 6, 2) := by decide +kernel
theorem dX12_strike_171 : decode cX12_strike 171 = .ok (.ishr, 1) := by decide +kernel
theorem dX12_strike_172 : decode cX12_strike 172 = .ok (.iconst 1, 1) := by decide +kernel
theorem dX12_strike_173 : decode cX12_strike 173 = .ok (.iand, 1) := by decide +kernel
theorem dX12_strike_174 : decode cX12_strike 174 = .ok (.aload_n 0, 1) := by decide +kernel
theorem dX12_strike_175 : decode cX12_strike 175 = .ok (.getfield 16, 3) := by decide +kernel
theorem dX12_strike_178 : decode cX12_strike 178 = .ok (.iload 6, 2) := by decide +kernel
theorem dX12_strike_180 : decode cX12_strike 180 = .ok (.iaload, 1) := by decide +kernel
theorem dX12_strike_181 : decode cX12_strike 181 = .ok (.imul, 1) := by decide +kernel
theorem dX12_strike_182 : decode cX12_strike 182 = .ok (.iadd, 1) := by decide +kernel
theorem dX12_strike_183 : decode cX12_strike 183 = .ok (.istore 5, 2) := by decide +kernel
theorem dX12_strike_185 : decode cX12_strike 185 = .ok (.iinc 6 1, 3) := by decide +kernel
theorem dX12_strike_188 : decode cX12_strike 188 = .ok (.goto (-34), 3) := by decide +kernel
theorem dX12_strike_191 : decode cX12_strike 191 = .ok (.aload_n 1, 1) := by decide +kernel
theorem dX12_strike_192 : decode cX12_strike 192 = .ok (.iconst 0, 1) := by decide +kernel
theorem dX12_strike_193 : decode cX12_strike 193 = .ok (.iaload, 1) := by decide +kernel
theorem dX12_strike_194 : decode cX12_strike 194 = .ok (.iconst (-1), 1) := by decide +kernel
theorem dX12_strike_195 : decode cX12_strike 195 = .ok (.if_icmp .ne 8, 3) := by decide +kernel
theorem dX12_strike_198 : decode cX12_strike 198 = .ok (.aload_n 0, 1) := by decide +kernel
theorem dX12_strike_199 : decode cX12_strike 199 = .ok (.aload_n 1, 1) := by decide +kernel
theorem dX12_strike_200 : decode cX12_strike 200 = .ok (.invokevirtual 164, 3) := by decide +kernel
theorem dX12_strike_203 : decode cX12_strike 203 = .ok (.iload 5, 2) := by decide +kernel
theorem dX12_strike_205 : decode cX12_strike 205 = .ok (.ireturn, 1) := by decide +kernel
theorem dX12_tellBall_0 : decode cX12_tellBall 0 = .ok (.iload_n 2, 1) := by decide +kernel
theorem dX12_tellBall_1 : decode cX12_tellBall 1 = .ok (.tableswitch 112 0 5 #[39, 46, 53, 60, 74, 88], 39) := by decide +kernel
theorem dX12_tellBall_40 : decode cX12_tellBall 40 = .ok (.aload_n 0, 1) := by decide +kernel
theorem dX12_tellBall_41 : decode cX12_tellBall 41 = .ok (.getfield 13, 3) := by decide +kernel
theorem dX12_tellBall_44 : decode cX12_tellBall 44 = .ok (.iload_n 1, 1) := by decide +kernel
theorem dX12_tellBall_45 : decode cX12_tellBall 45 = .ok (.iaload, 1) := by decide +kernel
theorem dX12_tellBall_46 : decode cX12_tellBall 46 = .ok (.ireturn, 1) := by decide +kernel
theorem dX12_tellBall_47 : decode cX12_tellBall 47 = .ok (.aload_n 0, 1) := by decide +kernel
theorem dX12_tellBall_48 : decode cX12_tellBall 48 = .ok (.getfield 16, 3) := by decide +kernel
theorem dX12_tellBall_51 : decode cX12_tellBall 51 = .ok (.iload_n 1, 1) := by decide +kernel
theorem dX12_tellBall_52 : decode cX12_tellBall 52 = .ok (.iaload, 1) := by decide +kernel
theorem dX12_tellBall_53 : decode cX12_tellBall 53 = .ok (.ireturn, 1) := by decide +kernel
theorem dX12_tellBall_54 : decode cX12_tellBall 54 = .ok (.aload_n 0, 1) := by decide +kernel
theorem dX12_tellBall_55 : decode cX12_tellBall 55 = .ok (.getfield 19, 3) := by decide +kernel
theorem dX12_tellBall_58 : decode cX12_tellBall 58 = .ok (.iload_n 1, 1) := by decide +kernel
theorem dX12_tellBall_59 : decode cX12_tellBall 59 = .ok (.iaload, 1) := by decide +kernel
theorem dX12_tellBall_60 : decode cX12_tellBall 60 = .ok (.ireturn, 1) := by decide +kernel
theorem dX12_tellBall_61 : decode cX12_tellBall 61 = .ok (.iload_n 1, 1) := by decide +kernel
theorem dX12_tellBall_62 : decode cX12_tellBall 62 = .ok (.ifCond .ne 7, 3) := by decide +kernel
theorem dX12_tellBall_65 : decode cX12_tellBall 65 = .ok (.iconst 1, 1) := by decide +kernel
theorem dX12_tellBall_66 : decode cX12_tellBall 66 = .ok (.goto 8, 3) := by decide +kernel
theorem dX12_tellBall_69 : decode cX12_tellBall 69 = .ok (.aload_n 0, 1) := by decide +kernel
theorem dX12_tellBall_70 : decode cX12_tellBall 70 = .ok (.iload_n 1, 1) := by decide +kernel
theorem dX12_tellBall_71 : decode cX12_tellBall 71 = .ok (.invokevirtual 168, 3) := by decide +kernel
theorem dX12_tellBall_74 : decode cX12_tellBall 74 = .ok (.ireturn, 1) := by decide +kernel
theorem dX12_tellBall_75 : decode cX12_tellBall 75 = .ok (.iload_n 1, 1) := by decide +kernel
theorem dX12_tellBall_76 : decode cX12_tellBall 76 = .ok (.ifCond .ne 7, 3) := by decide +kernel
theorem dX12_tellBall_79 : decode cX12_tellBall 79 = .ok (.iconst (-1), 1) := by decide +kernel
theorem dX12_tellBall_80 : decode cX12_tellBall 80 = .ok (.goto 8, 3) := by decide +kernel
theorem dX12_tellBall_83 : decode cX12_tellBall 83 = .ok (.aload_n 0, 1) := by decide +kernel
theorem dX12_tellBall_84 : decode cX12_tellBall 84 = .ok (.iload_n 1, 1) := by decide +kernel
theorem dX12_tellBall_85 : decode cX12_tellBall 85 = .ok (.invokevirtual 171, 3) := by decide +kernel
theorem dX12_tellBall_88 : decode cX12_tellBall 88 = .ok (.ireturn, 1) := by decide +kernel
theorem dX12_tellBall_89 : decode cX12_tellBall 89 = .ok (.iload_n 1, 1) := by decide +kernel
theorem dX12_tellBall_90 : decode cX12_tellBall 90 = .ok (.ifCond .eq 13, 3) := by decide +kernel
theorem dX12_tellBall_93 : decode cX12_tellBall 93 = .ok (.aload_n 0, 1) := by decide +kernel
theorem dX12_tellBall_94 : decode cX12_tellBall 94 = .ok (.getfield 19, 3) := by decide +kernel
theorem dX12_tellBall_97 : decode cX12_tellBall 97 = .ok (.iload_n 1, 1) := by decide +kernel
theorem dX12_tellBall_98 : decode cX12_tellBall 98 = .ok (.iaload, 1) := by decide +kernel
theorem dX12_tellBall_99 : decode cX12_tellBall 99 = .ok (.iconst (-1), 1) := by decide +kernel
theorem dX12_tellBall_100 : decode cX12_tellBall 100 = .ok (.if_icmp .ne 7, 3) := by decide +kernel
theorem dX12_tellBall_103 : decode cX12_tellBall 103 = .ok (.iconst 0, 1) := by decide +kernel
theorem dX12_tellBall_104 : decode cX12_tellBall 104 = .ok (.goto 8, 3) := by decide +kernel
theorem dX12_tellBall_107 : decode cX12_tellBall 107 = .ok (.aload_n 0, 1) := by decide +kernel
theorem dX12_tellBall_108 : decode cX12_tellBall 108 = .ok (.iload_n 1, 1) := by decide +kernel
theorem dX12_tellBall_109 : decode cX12_tellBall 109 = .ok (.invokevirtual 174, 3) := by decide +kernel
theorem dX12_tellBall_112 : decode cX12_tellBall 112 = .ok (.ireturn, 1) := by decide +kernel
theorem dX12_tellBall_113 : decode cX12_tellBall 113 = .ok (.bipush (-102), 2) := by decide +kernel
theorem dX12_tellBall_115 : decode cX12_tellBall 115 = .ok (.ireturn, 1) := by decide +kernel
theorem dX12_ball_0 : decode cX12_ball 0 = .ok (.aload_n 0, 1) := by decide +kernel
theorem dX12_ball_1 : decode cX12_ball 1 = .ok (.iload_n 1, 1) := by decide +kernel
theorem dX12_ball_2 : decode cX12_ball 2 = .ok (.invokevirtual 177, 3) := by decide +kernel
theorem dX12_ball_5 : decode cX12_ball 5 = .ok (.ifCond .eq 12, 3) := by decide +kernel
theorem dX12_ball_8 : decode cX12_ball 8 = .ok (.aload_n 0, 1) := by decide +kernel
theorem dX12_ball_9 : decode cX12_ball 9 = .ok (.iload_n 1, 1) := by decide +kernel
theorem dX12_ball_10 : decode cX12_ball 10 = .ok (.iload_n 2, 1) := by decide +kernel
theorem dX12_ball_11 : decode cX12_ball 11 = .ok (.invokevirtual 180, 3) := by decide +kernel
theorem dX12_ball_14 : decode cX12_ball 14 = .ok (.goto 5, 3) := by decide +kernel
theorem dX12_ball_17 : decode cX12_ball 17 = .ok (.bipush (-101), 2) := by decide +kernel
theorem dX12_ball_19 : decode cX12_ball 19 = .ok (.ireturn, 1) := by decide +kernel
theorem dX12_as_0 : decode cX12_as 0 = .ok (.aload_n 0, 1) := by decide +kernel
theorem dX12_as_1 : decode cX12_as 1 = .ok (.iload_n 1, 1) := by decide +kernel
theorem dX12_as_2 : decode cX12_as 2 = .ok (.invokevirtual 177, 3) := by decide +kernel
theorem dX12_as_5 : decode cX12_as 5 = .ok (.ifCond .ne 6, 3) := by decide +kernel
theorem dX12_as_8 : decode cX12_as 8 = .ok (.bipush (-101), 2) := by decide +kernel
theorem dX12_as_10 : decode cX12_as 10 = .ok (.ireturn, 1) := by decide +kernel
theorem dX12_as_11 : decode cX12_as 11 = .ok (.iload_n 2, 1) := by decide +kernel
theorem dX12_as_12 : decode cX12_as 12 = .ok (.i2l, 1) := by decide +kernel
theorem dX12_as_13 : decode cX12_as 13 = .ok (.lconst 0, 1) := by decide +kernel
theorem dX12_as_14 : decode cX12_as 14 = .ok (.ldc2_w 117, 3) := by decide +kernel
theorem dX12_as_17 : decode cX12_as 17 = .ok (.invokestatic 49, 3) := by decide +kernel
theorem dX12_as_20 : decode cX12_as 20 = .ok (.ifCond .ne 6, 3) := by decide +kernel
theorem dX12_as_23 : decode cX12_as 23 = .ok (.bipush (-102), 2) := by decide +kernel
theorem dX12_as_25 : decode cX12_as 25 = .ok (.ireturn, 1) := by decide +kernel
theorem dX12_as_26 : decode cX12_as 26 = .ok (.iload_n 2, 1) := by decide +kernel
theorem dX12_as_27 : decode cX12_as 27 = .ok (.ifCond .eq 28, 3) := by decide +kernel
theorem dX12_as_30 : decode cX12_as 30 = .ok (.iload_n 2, 1) := by decide +kernel
theorem dX12_as_31 : decode cX12_as 31 = .ok (.aload_n 0, 1) := by decide +kernel
theorem dX12_as_32 : decode cX12_as 32 = .ok (.getfield 13, 3) := by decide +kernel
theorem dX12_as_35 : decode cX12_as 35 = .ok (.iload_n 1, 1) := by decide +kernel
theorem dX12_as_36 : decode cX12_as 36 = .ok (.iaload, 1) := by decide +kernel
theorem dX12_as_37 : decode cX12_as 37 = .ok (.if_icmp .eq 18, 3) := by decide +kernel
theorem dX12_as_40 : decode cX12_as 40 = .ok (.iload_n 2, 1) := by decide +kernel
theorem dX12_as_41 : decode cX12_as 41 = .ok (.iconst 1, 1) := by decide +kernel
theorem dX12_as_42 : decode cX12_as 42 = .ok (.if_icmp .ne 17, 3) := by decide +kernel
theorem dX12_as_45 : decode cX12_as 45 = .ok (.aload_n 0, 1) := by decide +kernel
theorem dX12_as_46 : decode cX12_as 46 = .ok (.getfield 13, 3) := by decide +kernel
theorem dX12_as_49 : decode cX12_as 49 = .ok (.iload_n 1, 1) := by decide +kernel
theorem dX12_as_50 : decode cX12_as 50 = .ok (.iaload, 1) := by decide +kernel
theorem dX12_as_51 : decode cX12_as 51 = .ok (.iconst 4, 1) := by decide +kernel
theorem dX12_as_52 : decode cX12_as 52 = .ok (.if_icmp .ne 7, 3) := by decide +kernel
theorem dX12_as_55 : decode cX12_as 55 = .ok (.iconst 1, 1) := by decide +kernel
theorem dX12_as_56 : decode cX12_as 56 = .ok (.goto 4, 3) := by decide +kernel
theorem dX12_as_59 : decode cX12_as 59 = .ok (.iconst 0, 1) := by decide +kernel
theorem dX12_as_60 : decode cX12_as 60 = .ok (.istore_n 3, 1) := by decide +kernel
theorem dX12_as_61 : decode cX12_as 61 = .ok (.iload_n 3, 1) := by decide +kernel
theorem dX12_as_62 : decode cX12_as 62 = .ok (.ifCond .eq 7, 3) := by decide +kernel
theorem dX12_as_65 : decode cX12_as 65 = .ok (.iload_n 1, 1) := by decide +kernel
theorem dX12_as_66 : decode cX12_as 66 = .ok (.goto 4, 3) := by decide +kernel
theorem dX12_as_69 : decode cX12_as 69 = .ok (.iconst (-1), 1) := by decide +kernel
theorem dX12_as_70 : decode cX12_as 70 = .ok (.ireturn, 1) := by decide +kernel
theorem dX12_cell_0 : decode cX12_cell 0 = .ok (.aload_n 0, 1) := by decide +kernel
theorem dX12_cell_1 : decode cX12_cell 1 = .ok (.iload_n 1, 1) := by decide +kernel
theorem dX12_cell_2 : decode cX12_cell 2 = .ok (.invokevirtual 183, 3) := by decide +kernel
theorem dX12_cell_5 : decode cX12_cell 5 = .ok (.ifCond .ne 6, 3) := by decide +kernel
theorem dX12_cell_8 : decode cX12_cell 8 = .ok (.bipush (-101), 2) := by decide +kernel
theorem dX12_cell_10 : decode cX12_cell 10 = .ok (.ireturn, 1) := by decide +kernel
theorem dX12_cell_11 : decode cX12_cell 11 = .ok (.iload_n 1, 1) := by decide +kernel
theorem dX12_cell_12 : decode cX12_cell 12 = .ok (.invokestatic 64, 3) := by decide +kernel
theorem dX12_cell_15 : decode cX12_cell 15 = .ok (.ifCond .eq 8, 3) := by decide +kernel
theorem dX12_cell_18 : decode cX12_cell 18 = .ok (.bipush (-2), 2) := by decide +kernel
theorem dX12_cell_20 : decode cX12_cell 20 = .ok (.goto 12, 3) := by decide +kernel
theorem dX12_cell_23 : decode cX12_cell 23 = .ok (.aload_n 0, 1) := by decide +kernel
theorem dX12_cell_24 : decode cX12_cell 24 = .ok (.aload_n 0, 1) := by decide +kernel
theorem dX12_cell_25 : decode cX12_cell 25 = .ok (.getfield 19, 3) := by decide +kernel
theorem dX12_cell_28 : decode cX12_cell 28 = .ok (.iload_n 1, 1) := by decide +kernel
theorem dX12_cell_29 : decode cX12_cell 29 = .ok (.invokevirtual 121, 3) := by decide +kernel
theorem dX12_cell_32 : decode cX12_cell 32 = .ok (.ireturn, 1) := by decide +kernel
theorem dX12_seesBy_0 : decode cX12_seesBy 0 = .ok (.aload_n 0, 1) := by decide +kernel
theorem dX12_seesBy_1 : decode cX12_seesBy 1 = .ok (.getfield 19, 3) := by decide +kernel
theorem dX12_seesBy_4 : decode cX12_seesBy 4 = .ok (.iconst 0, 1) := by decide +kernel
theorem dX12_seesBy_5 : decode cX12_seesBy 5 = .ok (.iaload, 1) := by decide +kernel
theorem dX12_seesBy_6 : decode cX12_seesBy 6 = .ok (.bipush 9, 2) := by decide +kernel
theorem dX12_seesBy_8 : decode cX12_seesBy 8 = .ok (.idiv, 1) := by decide +kernel
theorem dX12_seesBy_9 : decode cX12_seesBy 9 = .ok (.iload_n 1, 1) := by decide +kernel
theorem dX12_seesBy_10 : decode cX12_seesBy 10 = .ok (.invokestatic 150, 3) := by decide +kernel
theorem dX12_seesBy_13 : decode cX12_seesBy 13 = .ok (.iadd, 1) := by decide +kernel
theorem dX12_seesBy_14 : decode cX12_seesBy 14 = .ok (.istore_n 2, 1) := by decide +kernel
theorem dX12_seesBy_15 : decode cX12_seesBy 15 = .ok (.aload_n 0, 1) := by decide +kernel
theorem dX12_seesBy_16 : decode cX12_seesBy 16 = .ok (.getfield 19, 3) := by decide +kernel
theorem dX12_seesBy_19 : decode cX12_seesBy 19 = .ok (.iconst 0, 1) := by decide +kernel
theorem dX12_seesBy_20 : decode cX12_seesBy 20 = .ok (.iaload, 1) := by decide +kernel
theorem dX12_seesBy_21 : decode cX12_seesBy 21 = .ok (.bipush 9, 2) := by decide +kernel
theorem dX12_seesBy_23 : decode cX12_seesBy 23 = .ok (.irem, 1) := by decide +kernel
theorem dX12_seesBy_24 : decode cX12_seesBy 24 = .ok (.iload_n 1, 1) := by decide +kernel
theorem dX12_seesBy_25 : decode cX12_seesBy 25 = .ok (.invokestatic 153, 3) := by decide +kernel
theorem dX12_seesBy_28 : decode cX12_seesBy 28 = .ok (.iadd, 1) := by decide +kernel
theorem dX12_seesBy_29 : decode cX12_seesBy 29 = .ok (.istore_n 3, 1) := by decide +kernel
theorem dX12_seesBy_30 : decode cX12_seesBy 30 = .ok (.iconst (-1), 1) := by decide +kernel
theorem dX12_seesBy_31 : decode cX12_seesBy 31 = .ok (.istore 4, 2) := by decide +kernel
theorem dX12_seesBy_33 : decode cX12_seesBy 33 = .ok (.iload 4, 2) := by decide +kernel
theorem dX12_seesBy_35 : decode cX12_seesBy 35 = .ok (.iconst (-1), 1) := by decide +kernel
theorem dX12_seesBy_36 : decode cX12_seesBy 36 = .ok (.if_icmp .ne 60, 3) := by decide +kernel
theorem dX12_seesBy_39 : decode cX12_seesBy 39 = .ok (.iload_n 2, 1) := by decide +kernel
theorem dX12_seesBy_40 : decode cX12_seesBy 40 = .ok (.i2l, 1) := by decide +kernel
theorem dX12_seesBy_41 : decode cX12_seesBy 41 = .ok (.lconst 0, 1) := by decide +kernel
theorem dX12_seesBy_42 : decode cX12_seesBy 42 = .ok (.ldc2_w 117, 3) := by decide +kernel
theorem dX12_seesBy_45 : decode cX12_seesBy 45 = .ok (.invokestatic 49, 3) := by decide +kernel
theorem dX12_seesBy_48 : decode cX12_seesBy 48 = .ok (.ifCond .eq 48, 3) := by decide +kernel
theorem dX12_seesBy_51 : decode cX12_seesBy 51 = .ok (.iload_n 3, 1) := by decide +kernel
theorem dX12_seesBy_52 : decode cX12_seesBy 52 = .ok (.i2l, 1) := by decide +kernel
theorem dX12_seesBy_53 : decode cX12_seesBy 53 = .ok (.lconst 0, 1) := by decide +kernel
theorem dX12_seesBy_54 : decode cX12_seesBy 54 = .ok (.ldc2_w 119, 3) := by decide +kernel
theorem dX12_seesBy_57 : decode cX12_seesBy 57 = .ok (.invokestatic 49, 3) := by decide +kernel
theorem dX12_seesBy_60 : decode cX12_seesBy 60 = .ok (.ifCond .eq 36, 3) := by decide +kernel
theorem dX12_seesBy_63 : decode cX12_seesBy 63 = .ok (.aload_n 0, 1) := by decide +kernel
theorem dX12_seesBy_64 : decode cX12_seesBy 64 = .ok (.aload_n 0, 1) := by decide +kernel
theorem dX12_seesBy_65 : decode cX12_seesBy 65 = .ok (.getfield 19, 3) := by decide +kernel
theorem dX12_seesBy_68 : decode cX12_seesBy 68 = .ok (.bipush 9, 2) := by decide +kernel
theorem dX12_seesBy_70 : decode cX12_seesBy 70 = .ok (.iload_n 2, 1) := by decide +kernel
theorem dX12_seesBy_71 : decode cX12_seesBy 71 = .ok (.imul, 1) := by decide +kernel
theorem dX12_seesBy_72 : decode cX12_seesBy 72 = .ok (.iload_n 3, 1) := by decide +kernel
theorem dX12_seesBy_73 : decode cX12_seesBy 73 = .ok (.iadd, 1) := by decide +kernel
theorem dX12_seesBy_74 : decode cX12_seesBy 74 = .ok (.invokevirtual 121, 3) := by decide +kernel
theorem dX12_seesBy_77 : decode cX12_seesBy 77 = .ok (.istore 4, 2) := by decide +kernel
theorem dX12_seesBy_79 : decode cX12_seesBy 79 = .ok (.iload_n 2, 1) := by decide +kernel
theorem dX12_seesBy_80 : decode cX12_seesBy 80 = .ok (.iload_n 1, 1) := by decide +kernel
theorem dX12_seesBy_81 : decode cX12_seesBy 81 = .ok (.invokestatic 150, 3) := by decide +kernel
theorem dX12_seesBy_84 : decode cX12_seesBy 84 = .ok (.iadd, 1) := by decide +kernel
theorem dX12_seesBy_85 : decode cX12_seesBy 85 = .ok (.istore_n 2, 1) := by decide +kernel
theorem dX12_seesBy_86 : decode cX12_seesBy 86 = .ok (.iload_n 3, 1) := by decide +kernel
theorem dX12_seesBy_87 : decode cX12_seesBy 87 = .ok (.iload_n 1, 1) := by decide +kernel
theorem dX12_seesBy_88 : decode cX12_seesBy 88 = .ok (.invokestatic 153, 3) := by decide +kernel
theorem dX12_seesBy_91 : decode cX12_seesBy 91 = .ok (.iadd, 1) := by decide +kernel
theorem dX12_seesBy_92 : decode cX12_seesBy 92 = .ok (.istore_n 3, 1) := by decide +kernel
theorem dX12_seesBy_93 : decode cX12_seesBy 93 = .ok (.goto (-60), 3) := by decide +kernel
theorem dX12_seesBy_96 : decode cX12_seesBy 96 = .ok (.iload 4, 2) := by decide +kernel
theorem dX12_seesBy_98 : decode cX12_seesBy 98 = .ok (.ireturn, 1) := by decide +kernel
theorem dX12_sees_0 : decode cX12_sees 0 = .ok (.iload_n 1, 1) := by decide +kernel
theorem dX12_sees_1 : decode cX12_sees 1 = .ok (.i2l, 1) := by decide +kernel
theorem dX12_sees_2 : decode cX12_sees 2 = .ok (.lconst 0, 1) := by decide +kernel
theorem dX12_sees_3 : decode cX12_sees 3 = .ok (.ldc2_w 186, 3) := by decide +kernel
theorem dX12_sees_6 : decode cX12_sees 6 = .ok (.invokestatic 49, 3) := by decide +kernel
theorem dX12_sees_9 : decode cX12_sees 9 = .ok (.ifCond .ne 6, 3) := by decide +kernel
theorem dX12_sees_12 : decode cX12_sees 12 = .ok (.bipush (-102), 2) := by decide +kernel
theorem dX12_sees_14 : decode cX12_sees 14 = .ok (.ireturn, 1) := by decide +kernel
theorem dX12_sees_15 : decode cX12_sees 15 = .ok (.aload_n 0, 1) := by decide +kernel
theorem dX12_sees_16 : decode cX12_sees 16 = .ok (.invokevirtual 111, 3) := by decide +kernel
theorem dX12_sees_19 : decode cX12_sees 19 = .ok (.ifCond .eq 8, 3) := by decide +kernel
theorem dX12_sees_22 : decode cX12_sees 22 = .ok (.bipush (-103), 2) := by decide +kernel
theorem dX12_sees_24 : decode cX12_sees 24 = .ok (.goto 8, 3) := by decide +kernel
theorem dX12_sees_27 : decode cX12_sees 27 = .ok (.aload_n 0, 1) := by decide +kernel
theorem dX12_sees_28 : decode cX12_sees 28 = .ok (.iload_n 1, 1) := by decide +kernel
theorem dX12_sees_29 : decode cX12_sees 29 = .ok (.invokevirtual 188, 3) := by decide +kernel
theorem dX12_sees_32 : decode cX12_sees 32 = .ok (.ireturn, 1) := by decide +kernel
theorem dX12_put_0 : decode cX12_put 0 = .ok (.aload_n 0, 1) := by decide +kernel
theorem dX12_put_1 : decode cX12_put 1 = .ok (.iload_n 1, 1) := by decide +kernel
theorem dX12_put_2 : decode cX12_put 2 = .ok (.invokevirtual 177, 3) := by decide +kernel
theorem dX12_put_5 : decode cX12_put 5 = .ok (.ifCond .eq 11, 3) := by decide +kernel
theorem dX12_put_8 : decode cX12_put 8 = .ok (.aload_n 0, 1) := by decide +kernel
theorem dX12_put_9 : decode cX12_put 9 = .ok (.iload_n 2, 1) := by decide +kernel
theorem dX12_put_10 : decode cX12_put 10 = .ok (.invokevirtual 183, 3) := by decide +kernel
theorem dX12_put_13 : decode cX12_put 13 = .ok (.ifCond .ne 6, 3) := by decide +kernel
theorem dX12_put_16 : decode cX12_put 16 = .ok (.bipush (-101), 2) := by decide +kernel
theorem dX12_put_18 : decode cX12_put 18 = .ok (.ireturn, 1) := by decide +kernel
theorem dX12_put_19 : decode cX12_put 19 = .ok (.aload_n 0, 1) := by decide +kernel
theorem dX12_put_20 : decode cX12_put 20 = .ok (.aload_n 0, 1) := by decide +kernel
theorem dX12_put_21 : decode cX12_put 21 = .ok (.getfield 19, 3) := by decide +kernel
theorem dX12_put_24 : decode cX12_put 24 = .ok (.iload_n 2, 1) := by decide +kernel
theorem dX12_put_25 : decode cX12_put 25 = .ok (.invokevirtual 121, 3) := by decide +kernel
theorem dX12_put_28 : decode cX12_put 28 = .ok (.istore_n 3, 1) := by decide +kernel
theorem dX12_put_29 : decode cX12_put 29 = .ok (.iload_n 2, 1) := by decide +kernel
theorem dX12_put_30 : decode cX12_put 30 = .ok (.invokestatic 64, 3) := by decide +kernel
theorem dX12_put_33 : decode cX12_put 33 = .ok (.ifCond .ne 13, 3) := by decide +kernel
theorem dX12_put_36 : decode cX12_put 36 = .ok (.iload_n 3, 1) := by decide +kernel
theorem dX12_put_37 : decode cX12_put 37 = .ok (.iconst (-1), 1) := by decide +kernel
theorem dX12_put_38 : decode cX12_put 38 = .ok (.if_icmp .eq 11, 3) := by decide +kernel
theorem dX12_put_41 : decode cX12_put 41 = .ok (.iload_n 3, 1) := by decide +kernel
theorem dX12_put_42 : decode cX12_put 42 = .ok (.iload_n 1, 1) := by decide +kernel
theorem dX12_put_43 : decode cX12_put 43 = .ok (.if_icmp .eq 6, 3) := by decide +kernel
theorem dX12_put_46 : decode cX12_put 46 = .ok (.bipush (-103), 2) := by decide +kernel
theorem dX12_put_48 : decode cX12_put 48 = .ok (.ireturn, 1) := by decide +kernel
theorem dX12_put_49 : decode cX12_put 49 = .ok (.aload_n 0, 1) := by decide +kernel
theorem dX12_put_50 : decode cX12_put 50 = .ok (.getfield 19, 3) := by decide +kernel
theorem dX12_put_53 : decode cX12_put 53 = .ok (.iload_n 1, 1) := by decide +kernel
theorem dX12_put_54 : decode cX12_put 54 = .ok (.iaload, 1) := by decide +kernel
theorem dX12_put_55 : decode cX12_put 55 = .ok (.istore 4, 2) := by decide +kernel
theorem dX12_put_57 : decode cX12_put 57 = .ok (.aload_n 0, 1) := by decide +kernel
theorem dX12_put_58 : decode cX12_put 58 = .ok (.getfield 19, 3) := by decide +kernel
theorem dX12_put_61 : decode cX12_put 61 = .ok (.iload_n 1, 1) := by decide +kernel
theorem dX12_put_62 : decode cX12_put 62 = .ok (.iload_n 2, 1) := by decide +kernel
theorem dX12_put_63 : decode cX12_put 63 = .ok (.iastore, 1) := by decide +kernel
theorem dX12_put_64 : decode cX12_put 64 = .ok (.iload 4, 2) := by decide +kernel
theorem dX12_put_66 : decode cX12_put 66 = .ok (.ireturn, 1) := by decide +kernel
theorem dX12_lift_0 : decode cX12_lift 0 = .ok (.aload_n 0, 1) := by decide +kernel
theorem dX12_lift_1 : decode cX12_lift 1 = .ok (.iload_n 1, 1) := by decide +kernel
theorem dX12_lift_2 : decode cX12_lift 2 = .ok (.invokevirtual 191, 3) := by decide +kernel
theorem dX12_lift_5 : decode cX12_lift 5 = .ok (.ifCond .ne 6, 3) := by decide +kernel
theorem dX12_lift_8 : decode cX12_lift 8 = .ok (.bipush (-101), 2) := by decide +kernel
theorem dX12_lift_10 : decode cX12_lift 10 = .ok (.ireturn, 1) := by decide +kernel
theorem dX12_lift_11 : decode cX12_lift 11 = .ok (.aload_n 0, 1) := by decide +kernel
theorem dX12_lift_12 : decode cX12_lift 12 = .ok (.getfield 19, 3) := by decide +kernel
theorem dX12_lift_15 : decode cX12_lift 15 = .ok (.iload_n 1, 1) := by decide +kernel
theorem dX12_lift_16 : decode cX12_lift 16 = .ok (.iaload, 1) := by decide +kernel
theorem dX12_lift_17 : decode cX12_lift 17 = .ok (.istore_n 2, 1) := by decide +kernel
theorem dX12_lift_18 : decode cX12_lift 18 = .ok (.iload_n 2, 1) := by decide +kernel
theorem dX12_lift_19 : decode cX12_lift 19 = .ok (.iconst (-1), 1) := by decide +kernel
theorem dX12_lift_20 : decode cX12_lift 20 = .ok (.if_icmp .ne 6, 3) := by decide +kernel
theorem dX12_lift_23 : decode cX12_lift 23 = .ok (.bipush (-103), 2) := by decide +kernel
theorem dX12_lift_25 : decode cX12_lift 25 = .ok (.ireturn, 1) := by decide +kernel
theorem dX12_lift_26 : decode cX12_lift 26 = .ok (.aload_n 0, 1) := by decide +kernel
theorem dX12_lift_27 : decode cX12_lift 27 = .ok (.getfield 19, 3) := by decide +kernel
theorem dX12_lift_30 : decode cX12_lift 30 = .ok (.iload_n 1, 1) := by decide +kernel
theorem dX12_lift_31 : decode cX12_lift 31 = .ok (.iconst (-1), 1) := by decide +kernel
theorem dX12_lift_32 : decode cX12_lift 32 = .ok (.iastore, 1) := by decide +kernel
theorem dX12_lift_33 : decode cX12_lift 33 = .ok (.iload_n 2, 1) := by decide +kernel
theorem dX12_lift_34 : decode cX12_lift 34 = .ok (.ireturn, 1) := by decide +kernel
theorem dX12_change_0 : decode cX12_change 0 = .ok (.aload_n 0, 1) := by decide +kernel
theorem dX12_change_1 : decode cX12_change 1 = .ok (.iload_n 1, 1) := by decide +kernel
theorem dX12_change_2 : decode cX12_change 2 = .ok (.invokevirtual 191, 3) := by decide +kernel
theorem dX12_change_5 : decode cX12_change 5 = .ok (.ifCond .ne 6, 3) := by decide +kernel
theorem dX12_change_8 : decode cX12_change 8 = .ok (.bipush (-101), 2) := by decide +kernel
theorem dX12_change_10 : decode cX12_change 10 = .ok (.ireturn, 1) := by decide +kernel
theorem dX12_change_11 : decode cX12_change 11 = .ok (.iload_n 2, 1) := by decide +kernel
theorem dX12_change_12 : decode cX12_change 12 = .ok (.i2l, 1) := by decide +kernel
theorem dX12_change_13 : decode cX12_change 13 = .ok (.lconst 0, 1) := by decide +kernel
theorem dX12_change_14 : decode cX12_change 14 = .ok (.ldc2_w 117, 3) := by decide +kernel
theorem dX12_change_17 : decode cX12_change 17 = .ok (.invokestatic 49, 3) := by decide +kernel
theorem dX12_change_20 : decode cX12_change 20 = .ok (.ifCond .ne 6, 3) := by decide +kernel
theorem dX12_change_23 : decode cX12_change 23 = .ok (.bipush (-102), 2) := by decide +kernel
theorem dX12_change_25 : decode cX12_change 25 = .ok (.ireturn, 1) := by decide +kernel
theorem dX12_change_26 : decode cX12_change 26 = .ok (.aload_n 0, 1) := by decide +kernel
theorem dX12_change_27 : decode cX12_change 27 = .ok (.getfield 13, 3) := by decide +kernel
theorem dX12_change_30 : decode cX12_change 30 = .ok (.iload_n 1, 1) := by decide +kernel
theorem dX12_change_31 : decode cX12_change 31 = .ok (.iaload, 1) := by decide +kernel
theorem dX12_change_32 : decode cX12_change 32 = .ok (.istore_n 3, 1) := by decide +kernel
theorem dX12_change_33 : decode cX12_change 33 = .ok (.aload_n 0, 1) := by decide +kernel
theorem dX12_change_34 : decode cX12_change 34 = .ok (.getfield 13, 3) := by decide +kernel
theorem dX12_change_37 : decode cX12_change 37 = .ok (.iload_n 1, 1) := by decide +kernel
theorem dX12_change_38 : decode cX12_change 38 = .ok (.iload_n 2, 1) := by decide +kernel
theorem dX12_change_39 : decode cX12_change 39 = .ok (.iastore, 1) := by decide +kernel
theorem dX12_change_40 : decode cX12_change 40 = .ok (.iload_n 3, 1) := by decide +kernel
theorem dX12_change_41 : decode cX12_change 41 = .ok (.ireturn, 1) := by decide +kernel
theorem dX12_isStroke_0 : decode cX12_isStroke 0 = .ok (.iload_n 0, 1) := by decide +kernel
theorem dX12_isStroke_1 : decode cX12_isStroke 1 = .ok (.i2l, 1) := by decide +kernel
theorem dX12_isStroke_2 : decode cX12_isStroke 2 = .ok (.lconst 0, 1) := by decide +kernel
theorem dX12_isStroke_3 : decode cX12_isStroke 3 = .ok (.ldc2_w 186, 3) := by decide +kernel
theorem dX12_isStroke_6 : decode cX12_isStroke 6 = .ok (.invokestatic 49, 3) := by decide +kernel
theorem dX12_isStroke_9 : decode cX12_isStroke 9 = .ok (.ifCond .eq 31, 3) := by decide +kernel
theorem dX12_isStroke_12 : decode cX12_isStroke 12 = .ok (.iload_n 1, 1) := by decide +kernel
theorem dX12_isStroke_13 : decode cX12_isStroke 13 = .ok (.i2l, 1) := by decide +kernel
theorem dX12_isStroke_14 : decode cX12_isStroke 14 = .ok (.lconst 1, 1) := by decide +kernel
theorem dX12_isStroke_15 : decode cX12_isStroke 15 = .ok (.ldc2_w 194, 3) := by decide +kernel
theorem dX12_isStroke_18 : decode cX12_isStroke 18 = .ok (.invokestatic 49, 3) := by decide +kernel
theorem dX12_isStroke_21 : decode cX12_isStroke 21 = .ok (.ifCond .eq 19, 3) := by decide +kernel
theorem dX12_isStroke_24 : decode cX12_isStroke 24 = .ok (.iload_n 2, 1) := by decide +kernel
theorem dX12_isStroke_25 : decode cX12_isStroke 25 = .ok (.i2l, 1) := by decide +kernel
theorem dX12_isStroke_26 : decode cX12_isStroke 26 = .ok (.lconst 0, 1) := by decide +kernel
theorem dX12_isStroke_27 : decode cX12_isStroke 27 = .ok (.ldc2_w 196, 3) := by decide +kernel
theorem dX12_isStroke_30 : decode cX12_isStroke 30 = .ok (.invokestatic 49, 3) := by decide +kernel
theorem dX12_isStroke_33 : decode cX12_isStroke 33 = .ok (.ifCond .eq 7, 3) := by decide +kernel
theorem dX12_isStroke_36 : decode cX12_isStroke 36 = .ok (.iconst 1, 1) := by decide +kernel
theorem dX12_isStroke_37 : decode cX12_isStroke 37 = .ok (.goto 4, 3) := by decide +kernel
theorem dX12_isStroke_40 : decode cX12_isStroke 40 = .ok (.iconst 0, 1) := by decide +kernel
theorem dX12_isStroke_41 : decode cX12_isStroke 41 = .ok (.ireturn, 1) := by decide +kernel
theorem dX12_stroke_0 : decode cX12_stroke 0 = .ok (.iload_n 1, 1) := by decide +kernel
theorem dX12_stroke_1 : decode cX12_stroke 1 = .ok (.iload_n 2, 1) := by decide +kernel
theorem dX12_stroke_2 : decode cX12_stroke 2 = .ok (.iload_n 3, 1) := by decide +kernel
theorem dX12_stroke_3 : decode cX12_stroke 3 = .ok (.invokestatic 198, 3) := by decide +kernel
theorem dX12_stroke_6 : decode cX12_stroke 6 = .ok (.ifCond .ne 6, 3) := by decide +kernel
theorem dX12_stroke_9 : decode cX12_stroke 9 = .ok (.bipush (-102), 2) := by decide +kernel
theorem dX12_stroke_11 : decode cX12_stroke 11 = .ok (.ireturn, 1) := by decide +kernel
theorem dX12_stroke_12 : decode cX12_stroke 12 = .ok (.aload_n 0, 1) := by decide +kernel
theorem dX12_stroke_13 : decode cX12_stroke 13 = .ok (.invokevirtual 111, 3) := by decide +kernel
theorem dX12_stroke_16 : decode cX12_stroke 16 = .ok (.ifCond .eq 6, 3) := by decide +kernel
theorem dX12_stroke_19 : decode cX12_stroke 19 = .ok (.bipush (-103), 2) := by decide +kernel
theorem dX12_stroke_21 : decode cX12_stroke 21 = .ok (.ireturn, 1) := by decide +kernel
theorem dX12_stroke_22 : decode cX12_stroke 22 = .ok (.aload_n 0, 1) := by decide +kernel
theorem dX12_stroke_23 : decode cX12_stroke 23 = .ok (.aload_n 0, 1) := by decide +kernel
theorem dX12_stroke_24 : decode cX12_stroke 24 = .ok (.getfield 19, 3) := by decide +kernel
theorem dX12_stroke_27 : decode cX12_stroke 27 = .ok (.iload_n 1, 1) := by decide +kernel
theorem dX12_stroke_28 : decode cX12_stroke 28 = .ok (.iload_n 2, 1) := by decide +kernel
theorem dX12_stroke_29 : decode cX12_stroke 29 = .ok (.iload_n 3, 1) := by decide +kernel
theorem dX12_stroke_30 : decode cX12_stroke 30 = .ok (.invokevirtual 202, 3) := by decide +kernel
theorem dX12_stroke_33 : decode cX12_stroke 33 = .ok (.istore 4, 2) := by decide +kernel
theorem dX12_stroke_35 : decode cX12_stroke 35 = .ok (.aload_n 0, 1) := by decide +kernel
theorem dX12_stroke_36 : decode cX12_stroke 36 = .ok (.dup, 1) := by decide +kernel
theorem dX12_stroke_37 : decode cX12_stroke 37 = .ok (.getfield 99, 3) := by decide +kernel
theorem dX12_stroke_40 : decode cX12_stroke 40 = .ok (.iconst 1, 1) := by decide +kernel
theorem dX12_stroke_41 : decode cX12_stroke 41 = .ok (.iadd, 1) := by decide +kernel
theorem dX12_stroke_42 : decode cX12_stroke 42 = .ok (.putfield 99, 3) := by decide +kernel
theorem dX12_stroke_45 : decode cX12_stroke 45 = .ok (.aload_n 0, 1) := by decide +kernel
theorem dX12_stroke_46 : decode cX12_stroke 46 = .ok (.dup, 1) := by decide +kernel
theorem dX12_stroke_47 : decode cX12_stroke 47 = .ok (.getfield 102, 3) := by decide +kernel
theorem dX12_stroke_50 : decode cX12_stroke 50 = .ok (.aload_n 0, 1) := by decide +kernel
theorem dX12_stroke_51 : decode cX12_stroke 51 = .ok (.getfield 160, 3) := by decide +kernel
theorem dX12_stroke_54 : decode cX12_stroke 54 = .ok (.ifCond .eq 7, 3) := by decide +kernel
theorem dX12_stroke_57 : decode cX12_stroke 57 = .ok (.iconst 1, 1) := by decide +kernel
theorem dX12_stroke_58 : decode cX12_stroke 58 = .ok (.goto 4, 3) := by decide +kernel
theorem dX12_stroke_61 : decode cX12_stroke 61 = .ok (.iconst 0, 1) := by decide +kernel
theorem dX12_stroke_62 : decode cX12_stroke 62 = .ok (.iadd, 1) := by decide +kernel
theorem dX12_stroke_63 : decode cX12_stroke 63 = .ok (.putfield 102, 3) := by decide +kernel
theorem dX12_stroke_66 : decode cX12_stroke 66 = .ok (.aload_n 0, 1) := by decide +kernel
theorem dX12_stroke_67 : decode cX12_stroke 67 = .ok (.dup, 1) := by decide +kernel
theorem dX12_stroke_68 : decode cX12_stroke 68 = .ok (.getfield 96, 3) := by decide +kernel
theorem dX12_stroke_71 : decode cX12_stroke 71 = .ok (.iload 4, 2) := by decide +kernel
theorem dX12_stroke_73 : decode cX12_stroke 73 = .ok (.iadd, 1) := by decide +kernel
theorem dX12_stroke_74 : decode cX12_stroke 74 = .ok (.putfield 96, 3) := by decide +kernel
theorem dX12_stroke_77 : decode cX12_stroke 77 = .ok (.iload 4, 2) := by decide +kernel
theorem dX12_stroke_79 : decode cX12_stroke 79 = .ok (.bipush 100, 2) := by decide +kernel
theorem dX12_stroke_81 : decode cX12_stroke 81 = .ok (.iadd, 1) := by decide +kernel
theorem dX12_stroke_82 : decode cX12_stroke 82 = .ok (.ireturn, 1) := by decide +kernel
theorem dX12_wouldBe_0 : decode cX12_wouldBe 0 = .ok (.aload_n 0, 1) := by decide +kernel
theorem dX12_wouldBe_1 : decode cX12_wouldBe 1 = .ok (.getfield 19, 3) := by decide +kernel
theorem dX12_wouldBe_4 : decode cX12_wouldBe 4 = .ok (.aload_n 0, 1) := by decide +kernel
theorem dX12_wouldBe_5 : decode cX12_wouldBe 5 = .ok (.getfield 22, 3) := by decide +kernel
theorem dX12_wouldBe_8 : decode cX12_wouldBe 8 = .ok (.invokestatic 206, 3) := by decide +kernel
theorem dX12_wouldBe_11 : decode cX12_wouldBe 11 = .ok (.aload_n 0, 1) := by decide +kernel
theorem dX12_wouldBe_12 : decode cX12_wouldBe 12 = .ok (.aload_n 0, 1) := by decide +kernel
theorem dX12_wouldBe_13 : decode cX12_wouldBe 13 = .ok (.getfield 22, 3) := by decide +kernel
theorem dX12_wouldBe_16 : decode cX12_wouldBe 16 = .ok (.iload_n 1, 1) := by decide +kernel
theorem dX12_wouldBe_17 : decode cX12_wouldBe 17 = .ok (.iload_n 2, 1) := by decide +kernel
theorem dX12_wouldBe_18 : decode cX12_wouldBe 18 = .ok (.iload_n 3, 1) := by decide +kernel
theorem dX12_wouldBe_19 : decode cX12_wouldBe 19 = .ok (.invokevirtual 202, 3) := by decide +kernel
theorem dX12_wouldBe_22 : decode cX12_wouldBe 22 = .ok (.istore 5, 2) := by decide +kernel
theorem dX12_wouldBe_24 : decode cX12_wouldBe 24 = .ok (.iload 4, 2) := by decide +kernel
theorem dX12_wouldBe_26 : decode cX12_wouldBe 26 = .ok (.tableswitch 79 0 5 #[38, 44, 51, 56, 69, 74], 38) := by decide +kernel
theorem dX12_wouldBe_64 : decode cX12_wouldBe 64 = .ok (.iload 5, 2) := by decide +kernel
theorem dX12_wouldBe_66 : decode cX12_wouldBe 66 = .ok (.bipush 100, 2) := by decide +kernel
theorem dX12_wouldBe_68 : decode cX12_wouldBe 68 = .ok (.iadd, 1) := by decide +kernel
theorem dX12_wouldBe_69 : decode cX12_wouldBe 69 = .ok (.ireturn, 1) := by decide +kernel
theorem dX12_wouldBe_70 : decode cX12_wouldBe 70 = .ok (.aload_n 0, 1) := by decide +kernel
theorem dX12_wouldBe_71 : decode cX12_wouldBe 71 = .ok (.getfield 22, 3) := by decide +kernel
theorem dX12_wouldBe_74 : decode cX12_wouldBe 74 = .ok (.iconst 0, 1) := by decide +kernel
theorem dX12_wouldBe_75 : decode cX12_wouldBe 75 = .ok (.iaload, 1) := by decide +kernel
theorem dX12_wouldBe_76 : decode cX12_wouldBe 76 = .ok (.ireturn, 1) := by decide +kernel
theorem dX12_wouldBe_77 : decode cX12_wouldBe 77 = .ok (.aload_n 0, 1) := by decide +kernel
theorem dX12_wouldBe_78 : decode cX12_wouldBe 78 = .ok (.getfield 147, 3) := by decide +kernel
theorem dX12_wouldBe_81 : decode cX12_wouldBe 81 = .ok (.ireturn, 1) := by decide +kernel
theorem dX12_wouldBe_82 : decode cX12_wouldBe 82 = .ok (.aload_n 0, 1) := by decide +kernel
theorem dX12_wouldBe_83 : decode cX12_wouldBe 83 = .ok (.getfield 160, 3) := by decide +kernel
theorem dX12_wouldBe_86 : decode cX12_wouldBe 86 = .ok (.ifCond .eq 7, 3) := by decide +kernel
theorem dX12_wouldBe_89 : decode cX12_wouldBe 89 = .ok (.iconst 1, 1) := by decide +kernel
theorem dX12_wouldBe_90 : decode cX12_wouldBe 90 = .ok (.goto 4, 3) := by decide +kernel
theorem dX12_wouldBe_93 : decode cX12_wouldBe 93 = .ok (.iconst 0, 1) := by decide +kernel
theorem dX12_wouldBe_94 : decode cX12_wouldBe 94 = .ok (.ireturn, 1) := by decide +kernel
theorem dX12_wouldBe_95 : decode cX12_wouldBe 95 = .ok (.aload_n 0, 1) := by decide +kernel
theorem dX12_wouldBe_96 : decode cX12_wouldBe 96 = .ok (.getfield 144, 3) := by decide +kernel
theorem dX12_wouldBe_99 : decode cX12_wouldBe 99 = .ok (.ireturn, 1) := by decide +kernel
theorem dX12_wouldBe_100 : decode cX12_wouldBe 100 = .ok (.aload_n 0, 1) := by decide +kernel
theorem dX12_wouldBe_101 : decode cX12_wouldBe 101 = .ok (.getfield 125, 3) := by decide +kernel
theorem dX12_wouldBe_104 : decode cX12_wouldBe 104 = .ok (.ireturn, 1) := by decide +kernel
theorem dX12_wouldBe_105 : decode cX12_wouldBe 105 = .ok (.iload 4, 2) := by decide +kernel
theorem dX12_wouldBe_107 : decode cX12_wouldBe 107 = .ok (.bipush 9, 2) := by decide +kernel
theorem dX12_wouldBe_109 : decode cX12_wouldBe 109 = .ok (.isub, 1) := by decide +kernel
theorem dX12_wouldBe_110 : decode cX12_wouldBe 110 = .ok (.aload_n 0, 1) := by decide +kernel
theorem dX12_wouldBe_111 : decode cX12_wouldBe 111 = .ok (.getfield 90, 3) := by decide +kernel
theorem dX12_wouldBe_114 : decode cX12_wouldBe 114 = .ok (.if_icmp .gt 16, 3) := by decide +kernel
theorem dX12_wouldBe_117 : decode cX12_wouldBe 117 = .ok (.aload_n 0, 1) := by decide +kernel
theorem dX12_wouldBe_118 : decode cX12_wouldBe 118 = .ok (.getfield 22, 3) := by decide +kernel
theorem dX12_wouldBe_121 : decode cX12_wouldBe 121 = .ok (.iload 4, 2) := by decide +kernel
theorem dX12_wouldBe_123 : decode cX12_wouldBe 123 = .ok (.bipush 9, 2) := by decide +kernel
theorem dX12_wouldBe_125 : decode cX12_wouldBe 125 = .ok (.isub, 1) := by decide +kernel
theorem dX12_wouldBe_126 : decode cX12_wouldBe 126 = .ok (.iaload, 1) := by decide +kernel
theorem dX12_wouldBe_127 : decode cX12_wouldBe 127 = .ok (.goto 4, 3) := by decide +kernel
theorem dX12_wouldBe_130 : decode cX12_wouldBe 130 = .ok (.iconst (-1), 1) := by decide +kernel
theorem dX12_wouldBe_131 : decode cX12_wouldBe 131 = .ok (.ireturn, 1) := by decide +kernel
theorem dX12_would_0 : decode cX12_would 0 = .ok (.iload_n 1, 1) := by decide +kernel
theorem dX12_would_1 : decode cX12_would 1 = .ok (.iload_n 2, 1) := by decide +kernel
theorem dX12_would_2 : decode cX12_would 2 = .ok (.iload_n 3, 1) := by decide +kernel
theorem dX12_would_3 : decode cX12_would 3 = .ok (.invokestatic 198, 3) := by decide +kernel
theorem dX12_would_6 : decode cX12_would 6 = .ok (.ifCond .eq 31, 3) := by decide +kernel
theorem dX12_would_9 : decode cX12_would 9 = .ok (.iload 4, 2) := by decide +kernel
theorem dX12_would_11 : decode cX12_would 11 = .ok (.i2l, 1) := by decide +kernel
theorem dX12_would_12 : decode cX12_would 12 = .ok (.lconst 0, 1) := by decide +kernel
theorem dX12_would_13 : decode cX12_would 13 = .ok (.ldc2_w 210, 3) := by decide +kernel
theorem dX12_would_16 : decode cX12_would 16 = .ok (.invokestatic 49, 3) := by decide +kernel
theorem dX12_would_19 : decode cX12_would 19 = .ok (.ifCond .ne 21, 3) := by decide +kernel
theorem dX12_would_22 : decode cX12_would 22 = .ok (.iload 4, 2) := by decide +kernel
theorem dX12_would_24 : decode cX12_would 24 = .ok (.i2l, 1) := by decide +kernel
theorem dX12_would_25 : decode cX12_would 25 = .ok (.ldc2_w 212, 3) := by decide +kernel
theorem dX12_would_28 : decode cX12_would 28 = .ok (.ldc2_w 214, 3) := by decide +kernel
theorem dX12_would_31 : decode cX12_would 31 = .ok (.invokestatic 49, 3) := by decide +kernel
theorem dX12_would_34 : decode cX12_would 34 = .ok (.ifCond .ne 6, 3) := by decide +kernel
theorem dX12_would_37 : decode cX12_would 37 = .ok (.bipush (-102), 2) := by decide +kernel
theorem dX12_would_39 : decode cX12_would 39 = .ok (.ireturn, 1) := by decide +kernel
theorem dX12_would_40 : decode cX12_would 40 = .ok (.aload_n 0, 1) := by decide +kernel
theorem dX12_would_41 : decode cX12_would 41 = .ok (.invokevirtual 111, 3) := by decide +kernel
theorem dX12_would_44 : decode cX12_would 44 = .ok (.ifCond .eq 8, 3) := by decide +kernel
theorem dX12_would_47 : decode cX12_would 47 = .ok (.bipush (-103), 2) := by decide +kernel
theorem dX12_would_49 : decode cX12_would 49 = .ok (.goto 12, 3) := by decide +kernel
theorem dX12_would_52 : decode cX12_would 52 = .ok (.aload_n 0, 1) := by decide +kernel
theorem dX12_would_53 : decode cX12_would 53 = .ok (.iload_n 1, 1) := by decide +kernel
theorem dX12_would_54 : decode cX12_would 54 = .ok (.iload_n 2, 1) := by decide +kernel
theorem dX12_would_55 : decode cX12_would 55 = .ok (.iload_n 3, 1) := by decide +kernel
theorem dX12_would_56 : decode cX12_would 56 = .ok (.iload 4, 2) := by decide +kernel
theorem dX12_would_58 : decode cX12_would 58 = .ok (.invokevirtual 216, 3) := by decide +kernel
theorem dX12_would_61 : decode cX12_would 61 = .ok (.ireturn, 1) := by decide +kernel
theorem dX12_tellCode_0 : decode cX12_tellCode 0 = .ok (.iload_n 1, 1) := by decide +kernel
theorem dX12_tellCode_1 : decode cX12_tellCode 1 = .ok (.iconst 1, 1) := by decide +kernel
theorem dX12_tellCode_2 : decode cX12_tellCode 2 = .ok (.if_icmp .ne 13, 3) := by decide +kernel
theorem dX12_tellCode_5 : decode cX12_tellCode 5 = .ok (.aload_n 0, 1) := by decide +kernel
theorem dX12_tellCode_6 : decode cX12_tellCode 6 = .ok (.getfield 220, 3) := by decide +kernel
theorem dX12_tellCode_9 : decode cX12_tellCode 9 = .ok (.bipush 100, 2) := by decide +kernel
theorem dX12_tellCode_11 : decode cX12_tellCode 11 = .ok (.idiv, 1) := by decide +kernel
theorem dX12_tellCode_12 : decode cX12_tellCode 12 = .ok (.goto 28, 3) := by decide +kernel
theorem dX12_tellCode_15 : decode cX12_tellCode 15 = .ok (.iload_n 1, 1) := by decide +kernel
theorem dX12_tellCode_16 : decode cX12_tellCode 16 = .ok (.iconst 2, 1) := by decide +kernel
theorem dX12_tellCode_17 : decode cX12_tellCode 17 = .ok (.if_icmp .ne 16, 3) := by decide +kernel
theorem dX12_tellCode_20 : decode cX12_tellCode 20 = .ok (.aload_n 0, 1) := by decide +kernel
theorem dX12_tellCode_21 : decode cX12_tellCode 21 = .ok (.getfield 220, 3) := by decide +kernel
theorem dX12_tellCode_24 : decode cX12_tellCode 24 = .ok (.bipush 10, 2) := by decide +kernel
theorem dX12_tellCode_26 : decode cX12_tellCode 26 = .ok (.idiv, 1) := by decide +kernel
theorem dX12_tellCode_27 : decode cX12_tellCode 27 = .ok (.bipush 10, 2) := by decide +kernel
theorem dX12_tellCode_29 : decode cX12_tellCode 29 = .ok (.irem, 1) := by decide +kernel
theorem dX12_tellCode_30 : decode cX12_tellCode 30 = .ok (.goto 10, 3) := by decide +kernel
theorem dX12_tellCode_33 : decode cX12_tellCode 33 = .ok (.aload_n 0, 1) := by decide +kernel
theorem dX12_tellCode_34 : decode cX12_tellCode 34 = .ok (.getfield 220, 3) := by decide +kernel
theorem dX12_tellCode_37 : decode cX12_tellCode 37 = .ok (.bipush 10, 2) := by decide +kernel
theorem dX12_tellCode_39 : decode cX12_tellCode 39 = .ok (.irem, 1) := by decide +kernel
theorem dX12_tellCode_40 : decode cX12_tellCode 40 = .ok (.ireturn, 1) := by decide +kernel
theorem dX12_bestOf_0 : decode cX12_bestOf 0 = .ok (.aload_n 0, 1) := by decide +kernel
theorem dX12_bestOf_1 : decode cX12_bestOf 1 = .ok (.bipush (-99), 2) := by decide +kernel
theorem dX12_bestOf_3 : decode cX12_bestOf 3 = .ok (.putfield 223, 3) := by decide +kernel
theorem dX12_bestOf_6 : decode cX12_bestOf 6 = .ok (.iconst 0, 1) := by decide +kernel
theorem dX12_bestOf_7 : decode cX12_bestOf 7 = .ok (.istore_n 2, 1) := by decide +kernel
theorem dX12_bestOf_8 : decode cX12_bestOf 8 = .ok (.iload_n 2, 1) := by decide +kernel
theorem dX12_bestOf_9 : decode cX12_bestOf 9 = .ok (.sipush 800, 3) := by decide +kernel
theorem dX12_bestOf_12 : decode cX12_bestOf 12 = .ok (.if_icmp .ge 105, 3) := by decide +kernel
theorem dX12_bestOf_15 : decode cX12_bestOf 15 = .ok (.iload_n 2, 1) := by decide +kernel
theorem dX12_bestOf_16 : decode cX12_bestOf 16 = .ok (.bipush 100, 2) := by decide +kernel
theorem dX12_bestOf_18 : decode cX12_bestOf 18 = .ok (.idiv, 1) := by decide +kernel
theorem dX12_bestOf_19 : decode cX12_bestOf 19 = .ok (.iload_n 2, 1) := by decide +kernel
theorem dX12_bestOf_20 : decode cX12_bestOf 20 = .ok (.bipush 10, 2) := by decide +kernel
theorem dX12_bestOf_22 : decode cX12_bestOf 22 = .ok (.idiv, 1) := by decide +kernel
theorem dX12_bestOf_23 : decode cX12_bestOf 23 = .ok (.bipush 10, 2) := by decide +kernel
theorem dX12_bestOf_25 : decode cX12_bestOf 25 = .ok (.irem, 1) := by decide +kernel
theorem dX12_bestOf_26 : decode cX12_bestOf 26 = .ok (.iload_n 2, 1) := by decide +kernel
theorem dX12_bestOf_27 : decode cX12_bestOf 27 = .ok (.bipush 10, 2) := by decide +kernel
theorem dX12_bestOf_29 : decode cX12_bestOf 29 = .ok (.irem, 1) := by decide +kernel
theorem dX12_bestOf_30 : decode cX12_bestOf 30 = .ok (.invokestatic 198, 3) := by decide +kernel
theorem dX12_bestOf_33 : decode cX12_bestOf 33 = .ok (.ifCond .eq 78, 3) := by decide +kernel
theorem dX12_bestOf_36 : decode cX12_bestOf 36 = .ok (.aload_n 0, 1) := by decide +kernel
theorem dX12_bestOf_37 : decode cX12_bestOf 37 = .ok (.getfield 19, 3) := by decide +kernel
theorem dX12_bestOf_40 : decode cX12_bestOf 40 = .ok (.aload_n 0, 1) := by decide +kernel
theorem dX12_bestOf_41 : decode cX12_bestOf 41 = .ok (.getfield 22, 3) := by decide +kernel
theorem dX12_bestOf_44 : decode cX12_bestOf 44 = .ok (.invokestatic 206, 3) := by decide +kernel
theorem dX12_bestOf_47 : decode cX12_bestOf 47 = .ok (.aload_n 0, 1) := by decide +kernel
theorem dX12_bestOf_48 : decode cX12_bestOf 48 = .ok (.aload_n 0, 1) := by decide +kernel
theorem dX12_bestOf_49 : decode cX12_bestOf 49 = .ok (.getfield 22, 3) := by decide +kernel
theorem dX12_bestOf_52 : decode cX12_bestOf 52 = .ok (.iload_n 2, 1) := by decide +kernel
theorem dX12_bestOf_53 : decode cX12_bestOf 53 = .ok (.bipush 100, 2) := by decide +kernel
theorem dX12_bestOf_55 : decode cX12_bestOf 55 = .ok (.idiv, 1) := by decide +kernel
theorem dX12_bestOf_56 : decode cX12_bestOf 56 = .ok (.iload_n 2, 1) := by decide +kernel
theorem dX12_bestOf_57 : decode cX12_bestOf 57 = .ok (.bipush 10, 2) := by decide +kernel
theorem dX12_bestOf_59 : decode cX12_bestOf 59 = .ok (.idiv, 1) := by decide +kernel
theorem dX12_bestOf_60 : decode cX12_bestOf 60 = .ok (.bipush 10, 2) := by decide +kernel
theorem dX12_bestOf_62 : decode cX12_bestOf 62 = .ok (.irem, 1) := by decide +kernel
theorem dX12_bestOf_63 : decode cX12_bestOf 63 = .ok (.iload_n 2, 1) := by decide +kernel
theorem dX12_bestOf_64 : decode cX12_bestOf 64 = .ok (.bipush 10, 2) := by decide +kernel
theorem dX12_bestOf_66 : decode cX12_bestOf 66 = .ok (.irem, 1) := by decide +kernel
theorem dX12_bestOf_67 : decode cX12_bestOf 67 = .ok (.invokevirtual 202, 3) := by decide +kernel
theorem dX12_bestOf_70 : decode cX12_bestOf 70 = .ok (.istore_n 3, 1) := by decide +kernel
theorem dX12_bestOf_71 : decode cX12_bestOf 71 = .ok (.aload_n 0, 1) := by decide +kernel
theorem dX12_bestOf_72 : decode cX12_bestOf 72 = .ok (.iload_n 3, 1) := by decide +kernel
theorem dX12_bestOf_73 : decode cX12_bestOf 73 = .ok (.aload_n 0, 1) := by decide +kernel
theorem dX12_bestOf_74 : decode cX12_bestOf 74 = .ok (.getfield 223, 3) := by decide +kernel
theorem dX12_bestOf_77 : decode cX12_bestOf 77 = .ok (.if_icmp .le 7, 3) := by decide +kernel
theorem dX12_bestOf_80 : decode cX12_bestOf 80 = .ok (.iload_n 2, 1) := by decide +kernel
theorem dX12_bestOf_81 : decode cX12_bestOf 81 = .ok (.goto 7, 3) := by decide +kernel
theorem dX12_bestOf_84 : decode cX12_bestOf 84 = .ok (.aload_n 0, 1) := by decide +kernel
theorem dX12_bestOf_85 : decode cX12_bestOf 85 = .ok (.getfield 220, 3) := by decide +kernel
theorem dX12_bestOf_88 : decode cX12_bestOf 88 = .ok (.putfield 220, 3) := by decide +kernel
theorem dX12_bestOf_91 : decode cX12_bestOf 91 = .ok (.aload_n 0, 1) := by decide +kernel
theorem dX12_bestOf_92 : decode cX12_bestOf 92 = .ok (.iload_n 3, 1) := by decide +kernel
theorem dX12_bestOf_93 : decode cX12_bestOf 93 = .ok (.aload_n 0, 1) := by decide +kernel
theorem dX12_bestOf_94 : decode cX12_bestOf 94 = .ok (.getfield 223, 3) := by decide +kernel
theorem dX12_bestOf_97 : decode cX12_bestOf 97 = .ok (.if_icmp .le 7, 3) := by decide +kernel
theorem dX12_bestOf_100 : decode cX12_bestOf 100 = .ok (.iload_n 3, 1) := by decide +kernel
theorem dX12_bestOf_101 : decode cX12_bestOf 101 = .ok (.goto 7, 3) := by decide +kernel
theorem dX12_bestOf_104 : decode cX12_bestOf 104 = .ok (.aload_n 0, 1) := by decide +kernel
theorem dX12_bestOf_105 : decode cX12_bestOf 105 = .ok (.getfield 223, 3) := by decide +kernel
theorem dX12_bestOf_108 : decode cX12_bestOf 108 = .ok (.putfield 223, 3) := by decide +kernel
theorem dX12_bestOf_111 : decode cX12_bestOf 111 = .ok (.iinc 2 1, 3) := by decide +kernel
theorem dX12_bestOf_114 : decode cX12_bestOf 114 = .ok (.goto (-106), 3) := by decide +kernel
theorem dX12_bestOf_117 : decode cX12_bestOf 117 = .ok (.iload_n 1, 1) := by decide +kernel
theorem dX12_bestOf_118 : decode cX12_bestOf 118 = .ok (.ifCond .ne 13, 3) := by decide +kernel
theorem dX12_bestOf_121 : decode cX12_bestOf 121 = .ok (.aload_n 0, 1) := by decide +kernel
theorem dX12_bestOf_122 : decode cX12_bestOf 122 = .ok (.getfield 223, 3) := by decide +kernel
theorem dX12_bestOf_125 : decode cX12_bestOf 125 = .ok (.bipush 100, 2) := by decide +kernel
theorem dX12_bestOf_127 : decode cX12_bestOf 127 = .ok (.iadd, 1) := by decide +kernel
theorem dX12_bestOf_128 : decode cX12_bestOf 128 = .ok (.goto 8, 3) := by decide +kernel
theorem dX12_bestOf_131 : decode cX12_bestOf 131 = .ok (.aload_n 0, 1) := by decide +kernel
theorem dX12_bestOf_132 : decode cX12_bestOf 132 = .ok (.iload_n 1, 1) := by decide +kernel
theorem dX12_bestOf_133 : decode cX12_bestOf 133 = .ok (.invokevirtual 226, 3) := by decide +kernel
theorem dX12_bestOf_136 : decode cX12_bestOf 136 = .ok (.ireturn, 1) := by decide +kernel
theorem dX12_best_0 : decode cX12_best 0 = .ok (.iload_n 1, 1) := by decide +kernel
theorem dX12_best_1 : decode cX12_best 1 = .ok (.i2l, 1) := by decide +kernel
theorem dX12_best_2 : decode cX12_best 2 = .ok (.lconst 0, 1) := by decide +kernel
theorem dX12_best_3 : decode cX12_best 3 = .ok (.ldc2_w 229, 3) := by decide +kernel
theorem dX12_best_6 : decode cX12_best 6 = .ok (.invokestatic 49, 3) := by decide +kernel
theorem dX12_best_9 : decode cX12_best 9 = .ok (.ifCond .ne 6, 3) := by decide +kernel
theorem dX12_best_12 : decode cX12_best 12 = .ok (.bipush (-102), 2) := by decide +kernel
theorem dX12_best_14 : decode cX12_best 14 = .ok (.ireturn, 1) := by decide +kernel
theorem dX12_best_15 : decode cX12_best 15 = .ok (.aload_n 0, 1) := by decide +kernel
theorem dX12_best_16 : decode cX12_best 16 = .ok (.invokevirtual 111, 3) := by decide +kernel
theorem dX12_best_19 : decode cX12_best 19 = .ok (.ifCond .eq 8, 3) := by decide +kernel
theorem dX12_best_22 : decode cX12_best 22 = .ok (.bipush (-103), 2) := by decide +kernel
theorem dX12_best_24 : decode cX12_best 24 = .ok (.goto 8, 3) := by decide +kernel
theorem dX12_best_27 : decode cX12_best 27 = .ok (.aload_n 0, 1) := by decide +kernel
theorem dX12_best_28 : decode cX12_best 28 = .ok (.iload_n 1, 1) := by decide +kernel
theorem dX12_best_29 : decode cX12_best 29 = .ok (.invokevirtual 231, 3) := by decide +kernel
theorem dX12_best_32 : decode cX12_best 32 = .ok (.ireturn, 1) := by decide +kernel
theorem dX12_replyOf_0 : decode cX12_replyOf 0 = .ok (.bipush (-99), 2) := by decide +kernel
theorem dX12_replyOf_2 : decode cX12_replyOf 2 = .ok (.istore_n 2, 1) := by decide +kernel
theorem dX12_replyOf_3 : decode cX12_replyOf 3 = .ok (.iconst 0, 1) := by decide +kernel
theorem dX12_replyOf_4 : decode cX12_replyOf 4 = .ok (.istore_n 3, 1) := by decide +kernel
theorem dX12_replyOf_5 : decode cX12_replyOf 5 = .ok (.iload_n 3, 1) := by decide +kernel
theorem dX12_replyOf_6 : decode cX12_replyOf 6 = .ok (.bipush 8, 2) := by decide +kernel
theorem dX12_replyOf_8 : decode cX12_replyOf 8 = .ok (.if_icmp .ge 60, 3) := by decide +kernel
theorem dX12_replyOf_11 : decode cX12_replyOf 11 = .ok (.iconst 3, 1) := by decide +kernel
theorem dX12_replyOf_12 : decode cX12_replyOf 12 = .ok (.istore 4, 2) := by decide +kernel
theorem dX12_replyOf_14 : decode cX12_replyOf 14 = .ok (.iload 4, 2) := by decide +kernel
theorem dX12_replyOf_16 : decode cX12_replyOf 16 = .ok (.bipush 10, 2) := by decide +kernel
theorem dX12_replyOf_18 : decode cX12_replyOf 18 = .ok (.if_icmp .ge 44, 3) := by decide +kernel
theorem dX12_replyOf_21 : decode cX12_replyOf 21 = .ok (.aload_n 1, 1) := by decide +kernel
theorem dX12_replyOf_22 : decode cX12_replyOf 22 = .ok (.aload_n 0, 1) := by decide +kernel
theorem dX12_replyOf_23 : decode cX12_replyOf 23 = .ok (.getfield 25, 3) := by decide +kernel
theorem dX12_replyOf_26 : decode cX12_replyOf 26 = .ok (.invokestatic 206, 3) := by decide +kernel
theorem dX12_replyOf_29 : decode cX12_replyOf 29 = .ok (.aload_n 0, 1) := by decide +kernel
theorem dX12_replyOf_30 : decode cX12_replyOf 30 = .ok (.aload_n 0, 1) := by decide +kernel
theorem dX12_replyOf_31 : decode cX12_replyOf 31 = .ok (.getfield 25, 3) := by decide +kernel
theorem dX12_replyOf_34 : decode cX12_replyOf 34 = .ok (.iload_n 3, 1) := by decide +kernel
theorem dX12_replyOf_35 : decode cX12_replyOf 35 = .ok (.iload 4, 2) := by decide +kernel
theorem dX12_replyOf_37 : decode cX12_replyOf 37 = .ok (.iconst 0, 1) := by decide +kernel
theorem dX12_replyOf_38 : decode cX12_replyOf 38 = .ok (.invokevirtual 202, 3) := by decide +kernel
theorem dX12_replyOf_41 : decode cX12_replyOf 41 = .ok (.istore 5, 2) := by decide +kernel
theorem dX12_replyOf_43 : decode cX12_replyOf 43 = .ok (.iload 5, 2) := by decide +kernel
theorem dX12_replyOf_45 : decode cX12_replyOf 45 = .ok (.iload_n 2, 1) := by decide +kernel
theorem dX12_replyOf_46 : decode cX12_replyOf 46 = .ok (.if_icmp .le 8, 3) := by decide +kernel
theorem dX12_replyOf_49 : decode cX12_replyOf 49 = .ok (.iload 5, 2) := by decide +kernel
theorem dX12_replyOf_51 : decode cX12_replyOf 51 = .ok (.goto 4, 3) := by decide +kernel
theorem dX12_replyOf_54 : decode cX12_replyOf 54 = .ok (.iload_n 2, 1) := by decide +kernel
theorem dX12_replyOf_55 : decode cX12_replyOf 55 = .ok (.istore_n 2, 1) := by decide +kernel
theorem dX12_replyOf_56 : decode cX12_replyOf 56 = .ok (.iinc 4 3, 3) := by decide +kernel
theorem dX12_replyOf_59 : decode cX12_replyOf 59 = .ok (.goto (-45), 3) := by decide +kernel
theorem dX12_replyOf_62 : decode cX12_replyOf 62 = .ok (.iinc 3 1, 3) := by decide +kernel
theorem dX12_replyOf_65 : decode cX12_replyOf 65 = .ok (.goto (-60), 3) := by decide +kernel
theorem dX12_replyOf_68 : decode cX12_replyOf 68 = .ok (.iload_n 2, 1) := by decide +kernel
theorem dX12_replyOf_69 : decode cX12_replyOf 69 = .ok (.ireturn, 1) := by decide +kernel
theorem dX12_planOf_0 : decode cX12_planOf 0 = .ok (.aload_n 0, 1) := by decide +kernel
theorem dX12_planOf_1 : decode cX12_planOf 1 = .ok (.bipush (-99), 2) := by decide +kernel
theorem dX12_planOf_3 : decode cX12_planOf 3 = .ok (.putfield 223, 3) := by decide +kernel
theorem dX12_planOf_6 : decode cX12_planOf 6 = .ok (.iconst 0, 1) := by decide +kernel
theorem dX12_planOf_7 : decode cX12_planOf 7 = .ok (.istore_n 2, 1) := by decide +kernel
theorem dX12_planOf_8 : decode cX12_planOf 8 = .ok (.iload_n 2, 1) := by decide +kernel
theorem dX12_planOf_9 : decode cX12_planOf 9 = .ok (.sipush 800, 3) := by decide +kernel
theorem dX12_planOf_12 : decode cX12_planOf 12 = .ok (.if_icmp .ge 116, 3) := by decide +kernel
theorem dX12_planOf_15 : decode cX12_planOf 15 = .ok (.iload_n 2, 1) := by decide +kernel
theorem dX12_planOf_16 : decode cX12_planOf 16 = .ok (.bipush 100, 2) := by decide +kernel
theorem dX12_planOf_18 : decode cX12_planOf 18 = .ok (.idiv, 1) := by decide +kernel
theorem dX12_planOf_19 : decode cX12_planOf 19 = .ok (.iload_n 2, 1) := by decide +kernel
theorem dX12_planOf_20 : decode cX12_planOf 20 = .ok (.bipush 10, 2) := by decide +kernel
theorem dX12_planOf_22 : decode cX12_planOf 22 = .ok (.idiv, 1) := by decide +kernel
theorem dX12_planOf_23 : decode cX12_planOf 23 = .ok (.bipush 10, 2) := by decide +kernel
theorem dX12_planOf_25 : decode cX12_planOf 25 = .ok (.irem, 1) := by decide +kernel
theorem dX12_planOf_26 : decode cX12_planOf 26 = .ok (.iload_n 2, 1) := by decide +kernel
theorem dX12_planOf_27 : decode cX12_planOf 27 = .ok (.bipush 10, 2) := by decide +kernel
theorem dX12_planOf_29 : decode cX12_planOf 29 = .ok (.irem, 1) := by decide +kernel
theorem dX12_planOf_30 : decode cX12_planOf 30 = .ok (.invokestatic 198, 3) := by decide +kernel
theorem dX12_planOf_33 : decode cX12_planOf 33 = .ok (.ifCond .eq 89, 3) := by decide +kernel
theorem dX12_planOf_36 : decode cX12_planOf 36 = .ok (.aload_n 0, 1) := by decide +kernel
theorem dX12_planOf_37 : decode cX12_planOf 37 = .ok (.getfield 19, 3) := by decide +kernel
theorem dX12_planOf_40 : decode cX12_planOf 40 = .ok (.aload_n 0, 1) := by decide +kernel
theorem dX12_planOf_41 : decode cX12_planOf 41 = .ok (.getfield 22, 3) := by decide +kernel
theorem dX12_planOf_44 : decode cX12_planOf 44 = .ok (.invokestatic 206, 3) := by decide +kernel
theorem dX12_planOf_47 : decode cX12_planOf 47 = .ok (.aload_n 0, 1) := by decide +kernel
theorem dX12_planOf_48 : decode cX12_planOf 48 = .ok (.aload_n 0, 1) := by decide +kernel
theorem dX12_planOf_49 : decode cX12_planOf 49 = .ok (.getfield 22, 3) := by decide +kernel
theorem dX12_planOf_52 : decode cX12_planOf 52 = .ok (.iload_n 2, 1) := by decide +kernel
theorem dX12_planOf_53 : decode cX12_planOf 53 = .ok (.bipush 100, 2) := by decide +kernel
theorem dX12_planOf_55 : decode cX12_planOf 55 = .ok (.idiv, 1) := by decide +kernel
theorem dX12_planOf_56 : decode cX12_planOf 56 = .ok (.iload_n 2, 1) := by decide +kernel
theorem dX12_planOf_57 : decode cX12_planOf 57 = .ok (.bipush 10, 2) := by decide +kernel
theorem dX12_planOf_59 : decode cX12_planOf 59 = .ok (.idiv, 1) := by decide +kernel
theorem dX12_planOf_60 : decode cX12_planOf 60 = .ok (.bipush 10, 2) := by decide +kernel
theorem dX12_planOf_62 : decode cX12_planOf 62 = .ok (.irem, 1) := by decide +kernel
theorem dX12_planOf_63 : decode cX12_planOf 63 = .ok (.iload_n 2, 1) := by decide +kernel
theorem dX12_planOf_64 : decode cX12_planOf 64 = .ok (.bipush 10, 2) := by decide +kernel
theorem dX12_planOf_66 : decode cX12_planOf 66 = .ok (.irem, 1) := by decide +kernel
theorem dX12_planOf_67 : decode cX12_planOf 67 = .ok (.invokevirtual 202, 3) := by decide +kernel
theorem dX12_planOf_70 : decode cX12_planOf 70 = .ok (.istore_n 3, 1) := by decide +kernel
theorem dX12_planOf_71 : decode cX12_planOf 71 = .ok (.iload_n 3, 1) := by decide +kernel
theorem dX12_planOf_72 : decode cX12_planOf 72 = .ok (.aload_n 0, 1) := by decide +kernel
theorem dX12_planOf_73 : decode cX12_planOf 73 = .ok (.aload_n 0, 1) := by decide +kernel
theorem dX12_planOf_74 : decode cX12_planOf 74 = .ok (.getfield 22, 3) := by decide +kernel
theorem dX12_planOf_77 : decode cX12_planOf 77 = .ok (.invokevirtual 234, 3) := by decide +kernel
theorem dX12_planOf_80 : decode cX12_planOf 80 = .ok (.iadd, 1) := by decide +kernel
theorem dX12_planOf_81 : decode cX12_planOf 81 = .ok (.istore_n 3, 1) := by decide +kernel
theorem dX12_planOf_82 : decode cX12_planOf 82 = .ok (.aload_n 0, 1) := by decide +kernel
theorem dX12_planOf_83 : decode cX12_planOf 83 = .ok (.iload_n 3, 1) := by decide +kernel
theorem dX12_planOf_84 : decode cX12_planOf 84 = .ok (.aload_n 0, 1) := by decide +kernel
theorem dX12_planOf_85 : decode cX12_planOf 85 = .ok (.getfield 223, 3) := by decide +kernel
theorem dX12_planOf_88 : decode cX12_planOf 88 = .ok (.if_icmp .le 7, 3) := by decide +kernel
theorem dX12_planOf_91 : decode cX12_planOf 91 = .ok (.iload_n 2, 1) := by decide +kernel
theorem dX12_planOf_92 : decode cX12_planOf 92 = .ok (.goto 7, 3) := by decide +kernel
theorem dX12_planOf_95 : decode cX12_planOf 95 = .ok (.aload_n 0, 1) := by decide +kernel
theorem dX12_planOf_96 : decode cX12_planOf 96 = .ok (.getfield 220, 3) := by decide +kernel
theorem dX12_planOf_99 : decode cX12_planOf 99 = .ok (.putfield 220, 3) := by decide +kernel
theorem dX12_planOf_102 : decode cX12_planOf 102 = .ok (.aload_n 0, 1) := by decide +kernel
theorem dX12_planOf_103 : decode cX12_planOf 103 = .ok (.iload_n 3, 1) := by decide +kernel
theorem dX12_planOf_104 : decode cX12_planOf 104 = .ok (.aload_n 0, 1) := by decide +kernel
theorem dX12_planOf_105 : decode cX12_planOf 105 = .ok (.getfield 223, 3) := by decide +kernel
theorem dX12_planOf_108 : decode cX12_planOf 108 = .ok (.if_icmp .le 7, 3) := by decide +kernel
theorem dX12_planOf_111 : decode cX12_planOf 111 = .ok (.iload_n 3, 1) := by decide +kernel
theorem dX12_planOf_112 : decode cX12_planOf 112 = .ok (.goto 7, 3) := by decide +kernel
theorem dX12_planOf_115 : decode cX12_planOf 115 = .ok (.aload_n 0, 1) := by decide +kernel
theorem dX12_planOf_116 : decode cX12_planOf 116 = .ok (.getfield 223, 3) := by decide +kernel
theorem dX12_planOf_119 : decode cX12_planOf 119 = .ok (.putfield 223, 3) := by decide +kernel
theorem dX12_planOf_122 : decode cX12_planOf 122 = .ok (.iinc 2 1, 3) := by decide +kernel
theorem dX12_planOf_125 : decode cX12_planOf 125 = .ok (.goto (-117), 3) := by decide +kernel
theorem dX12_planOf_128 : decode cX12_planOf 128 = .ok (.iload_n 1, 1) := by decide +kernel
theorem dX12_planOf_129 : decode cX12_planOf 129 = .ok (.ifCond .ne 13, 3) := by decide +kernel
theorem dX12_planOf_132 : decode cX12_planOf 132 = .ok (.aload_n 0, 1) := by decide +kernel
theorem dX12_planOf_133 : decode cX12_planOf 133 = .ok (.getfield 223, 3) := by decide +kernel
theorem dX12_planOf_136 : decode cX12_planOf 136 = .ok (.bipush 100, 2) := by decide +kernel
theorem dX12_planOf_138 : decode cX12_planOf 138 = .ok (.iadd, 1) := by decide +kernel
theorem dX12_planOf_139 : decode cX12_planOf 139 = .ok (.goto 8, 3) := by decide +kernel
theorem dX12_planOf_142 : decode cX12_planOf 142 = .ok (.aload_n 0, 1) := by decide +kernel
theorem dX12_planOf_143 : decode cX12_planOf 143 = .ok (.iload_n 1, 1) := by decide +kernel
theorem dX12_planOf_144 : decode cX12_planOf 144 = .ok (.invokevirtual 226, 3) := by decide +kernel
theorem dX12_planOf_147 : decode cX12_planOf 147 = .ok (.ireturn, 1) := by decide +kernel
theorem dX12_plan_0 : decode cX12_plan 0 = .ok (.iload_n 1, 1) := by decide +kernel
theorem dX12_plan_1 : decode cX12_plan 1 = .ok (.i2l, 1) := by decide +kernel
theorem dX12_plan_2 : decode cX12_plan 2 = .ok (.lconst 0, 1) := by decide +kernel
theorem dX12_plan_3 : decode cX12_plan 3 = .ok (.ldc2_w 229, 3) := by decide +kernel
theorem dX12_plan_6 : decode cX12_plan 6 = .ok (.invokestatic 49, 3) := by decide +kernel
theorem dX12_plan_9 : decode cX12_plan 9 = .ok (.ifCond .ne 6, 3) := by decide +kernel
theorem dX12_plan_12 : decode cX12_plan 12 = .ok (.bipush (-102), 2) := by decide +kernel
theorem dX12_plan_14 : decode cX12_plan 14 = .ok (.ireturn, 1) := by decide +kernel
theorem dX12_plan_15 : decode cX12_plan 15 = .ok (.aload_n 0, 1) := by decide +kernel
theorem dX12_plan_16 : decode cX12_plan 16 = .ok (.invokevirtual 111, 3) := by decide +kernel
theorem dX12_plan_19 : decode cX12_plan 19 = .ok (.ifCond .ne 12, 3) := by decide +kernel
theorem dX12_plan_22 : decode cX12_plan 22 = .ok (.aload_n 0, 1) := by decide +kernel
theorem dX12_plan_23 : decode cX12_plan 23 = .ok (.getfield 238, 3) := by decide +kernel
theorem dX12_plan_26 : decode cX12_plan 26 = .ok (.bipush 8, 2) := by decide +kernel
theorem dX12_plan_28 : decode cX12_plan 28 = .ok (.if_icmp .ne 6, 3) := by decide +kernel
theorem dX12_plan_31 : decode cX12_plan 31 = .ok (.bipush (-103), 2) := by decide +kernel
theorem dX12_plan_33 : decode cX12_plan 33 = .ok (.ireturn, 1) := by decide +kernel
theorem dX12_plan_34 : decode cX12_plan 34 = .ok (.aload_n 0, 1) := by decide +kernel
theorem dX12_plan_35 : decode cX12_plan 35 = .ok (.dup, 1) := by decide +kernel
theorem dX12_plan_36 : decode cX12_plan 36 = .ok (.getfield 238, 3) := by decide +kernel
theorem dX12_plan_39 : decode cX12_plan 39 = .ok (.iconst 1, 1) := by decide +kernel
theorem dX12_plan_40 : decode cX12_plan 40 = .ok (.iadd, 1) := by decide +kernel
theorem dX12_plan_41 : decode cX12_plan 41 = .ok (.putfield 238, 3) := by decide +kernel
theorem dX12_plan_44 : decode cX12_plan 44 = .ok (.aload_n 0, 1) := by decide +kernel
theorem dX12_plan_45 : decode cX12_plan 45 = .ok (.iload_n 1, 1) := by decide +kernel
theorem dX12_plan_46 : decode cX12_plan 46 = .ok (.invokevirtual 241, 3) := by decide +kernel
theorem dX12_plan_49 : decode cX12_plan 49 = .ok (.ireturn, 1) := by decide +kernel
theorem dX12_safeOf_0 : decode cX12_safeOf 0 = .ok (.aload_n 0, 1) := by decide +kernel
theorem dX12_safeOf_1 : decode cX12_safeOf 1 = .ok (.iconst (-1), 1) := by decide +kernel
theorem dX12_safeOf_2 : decode cX12_safeOf 2 = .ok (.putfield 220, 3) := by decide +kernel
theorem dX12_safeOf_5 : decode cX12_safeOf 5 = .ok (.aload_n 0, 1) := by decide +kernel
theorem dX12_safeOf_6 : decode cX12_safeOf 6 = .ok (.bipush 99, 2) := by decide +kernel
theorem dX12_safeOf_8 : decode cX12_safeOf 8 = .ok (.putfield 223, 3) := by decide +kernel
theorem dX12_safeOf_11 : decode cX12_safeOf 11 = .ok (.iconst 0, 1) := by decide +kernel
theorem dX12_safeOf_12 : decode cX12_safeOf 12 = .ok (.istore_n 2, 1) := by decide +kernel
theorem dX12_safeOf_13 : decode cX12_safeOf 13 = .ok (.iload_n 2, 1) := by decide +kernel
theorem dX12_safeOf_14 : decode cX12_safeOf 14 = .ok (.sipush 800, 3) := by decide +kernel
theorem dX12_safeOf_17 : decode cX12_safeOf 17 = .ok (.if_icmp .ge 121, 3) := by decide +kernel
theorem dX12_safeOf_20 : decode cX12_safeOf 20 = .ok (.iload_n 2, 1) := by decide +kernel
theorem dX12_safeOf_21 : decode cX12_safeOf 21 = .ok (.bipush 100, 2) := by decide +kernel
theorem dX12_safeOf_23 : decode cX12_safeOf 23 = .ok (.idiv, 1) := by decide +kernel
theorem dX12_safeOf_24 : decode cX12_safeOf 24 = .ok (.iload_n 2, 1) := by decide +kernel
theorem dX12_safeOf_25 : decode cX12_safeOf 25 = .ok (.bipush 10, 2) := by decide +kernel
theorem dX12_safeOf_27 : decode cX12_safeOf 27 = .ok (.idiv, 1) := by decide +kernel
theorem dX12_safeOf_28 : decode cX12_safeOf 28 = .ok (.bipush 10, 2) := by decide +kernel
theorem dX12_safeOf_30 : decode cX12_safeOf 30 = .ok (.irem, 1) := by decide +kernel
theorem dX12_safeOf_31 : decode cX12_safeOf 31 = .ok (.iload_n 2, 1) := by decide +kernel
theorem dX12_safeOf_32 : decode cX12_safeOf 32 = .ok (.bipush 10, 2) := by decide +kernel
theorem dX12_safeOf_34 : decode cX12_safeOf 34 = .ok (.irem, 1) := by decide +kernel
theorem dX12_safeOf_35 : decode cX12_safeOf 35 = .ok (.invokestatic 198, 3) := by decide +kernel
theorem dX12_safeOf_38 : decode cX12_safeOf 38 = .ok (.ifCond .eq 94, 3) := by decide +kernel
theorem dX12_safeOf_41 : decode cX12_safeOf 41 = .ok (.aload_n 0, 1) := by decide +kernel
theorem dX12_safeOf_42 : decode cX12_safeOf 42 = .ok (.getfield 19, 3) := by decide +kernel
theorem dX12_safeOf_45 : decode cX12_safeOf 45 = .ok (.aload_n 0, 1) := by decide +kernel
theorem dX12_safeOf_46 : decode cX12_safeOf 46 = .ok (.getfield 22, 3) := by decide +kernel
theorem dX12_safeOf_49 : decode cX12_safeOf 49 = .ok (.invokestatic 206, 3) := by decide +kernel
theorem dX12_safeOf_52 : decode cX12_safeOf 52 = .ok (.aload_n 0, 1) := by decide +kernel
theorem dX12_safeOf_53 : decode cX12_safeOf 53 = .ok (.aload_n 0, 1) := by decide +kernel
theorem dX12_safeOf_54 : decode cX12_safeOf 54 = .ok (.getfield 22, 3) := by decide +kernel
theorem dX12_safeOf_57 : decode cX12_safeOf 57 = .ok (.iload_n 2, 1) := by decide +kernel
theorem dX12_safeOf_58 : decode cX12_safeOf 58 = .ok (.bipush 100, 2) := by decide +kernel
theorem dX12_safeOf_60 : decode cX12_safeOf 60 = .ok (.idiv, 1) := by decide +kernel
theorem dX12_safeOf_61 : decode cX12_safeOf 61 = .ok (.iload_n 2, 1) := by decide +kernel
theorem dX12_safeOf_62 : decode cX12_safeOf 62 = .ok (.bipush 10, 2) := by decide +kernel
theorem dX12_safeOf_64 : decode cX12_safeOf 64 = .ok (.idiv, 1) := by decide +kernel
theorem dX12_safeOf_65 : decode cX12_safeOf 65 = .ok (.bipush 10, 2) := by decide +kernel
theorem dX12_safeOf_67 : decode cX12_safeOf 67 = .ok (.irem, 1) := by decide +kernel
theorem dX12_safeOf_68 : decode cX12_safeOf 68 = .ok (.iload_n 2, 1) := by decide +kernel
theorem dX12_safeOf_69 : decode cX12_safeOf 69 = .ok (.bipush 10, 2) := by decide +kernel
theorem dX12_safeOf_71 : decode cX12_safeOf 71 = .ok (.irem, 1) := by decide +kernel
theorem dX12_safeOf_72 : decode cX12_safeOf 72 = .ok (.invokevirtual 202, 3) := by decide +kernel
theorem dX12_safeOf_75 : decode cX12_safeOf 75 = .ok (.pop, 1) := by decide +kernel
theorem dX12_safeOf_76 : decode cX12_safeOf 76 = .ok (.aload_n 0, 1) := by decide +kernel
theorem dX12_safeOf_77 : decode cX12_safeOf 77 = .ok (.getfield 160, 3) := by decide +kernel
theorem dX12_safeOf_80 : decode cX12_safeOf 80 = .ok (.ifCond .ne 52, 3) := by decide +kernel
theorem dX12_safeOf_83 : decode cX12_safeOf 83 = .ok (.aload_n 0, 1) := by decide +kernel
theorem dX12_safeOf_84 : decode cX12_safeOf 84 = .ok (.aload_n 0, 1) := by decide +kernel
theorem dX12_safeOf_85 : decode cX12_safeOf 85 = .ok (.getfield 22, 3) := by decide +kernel
theorem dX12_safeOf_88 : decode cX12_safeOf 88 = .ok (.invokevirtual 234, 3) := by decide +kernel
theorem dX12_safeOf_91 : decode cX12_safeOf 91 = .ok (.istore_n 3, 1) := by decide +kernel
theorem dX12_safeOf_92 : decode cX12_safeOf 92 = .ok (.aload_n 0, 1) := by decide +kernel
theorem dX12_safeOf_93 : decode cX12_safeOf 93 = .ok (.iload_n 3, 1) := by decide +kernel
theorem dX12_safeOf_94 : decode cX12_safeOf 94 = .ok (.aload_n 0, 1) := by decide +kernel
theorem dX12_safeOf_95 : decode cX12_safeOf 95 = .ok (.getfield 223, 3) := by decide +kernel
theorem dX12_safeOf_98 : decode cX12_safeOf 98 = .ok (.if_icmp .ge 7, 3) := by decide +kernel
theorem dX12_safeOf_101 : decode cX12_safeOf 101 = .ok (.iload_n 2, 1) := by decide +kernel
theorem dX12_safeOf_102 : decode cX12_safeOf 102 = .ok (.goto 7, 3) := by decide +kernel
theorem dX12_safeOf_105 : decode cX12_safeOf 105 = .ok (.aload_n 0, 1) := by decide +kernel
theorem dX12_safeOf_106 : decode cX12_safeOf 106 = .ok (.getfield 220, 3) := by decide +kernel
theorem dX12_safeOf_109 : decode cX12_safeOf 109 = .ok (.putfield 220, 3) := by decide +kernel
theorem dX12_safeOf_112 : decode cX12_safeOf 112 = .ok (.aload_n 0, 1) := by decide +kernel
theorem dX12_safeOf_113 : decode cX12_safeOf 113 = .ok (.iload_n 3, 1) := by decide +kernel
theorem dX12_safeOf_114 : decode cX12_safeOf 114 = .ok (.aload_n 0, 1) := by decide +kernel
theorem dX12_safeOf_115 : decode cX12_safeOf 115 = .ok (.getfield 223, 3) := by decide +kernel
theorem dX12_safeOf_118 : decode cX12_safeOf 118 = .ok (.if_icmp .ge 7, 3) := by decide +kernel
theorem dX12_safeOf_121 : decode cX12_safeOf 121 = .ok (.iload_n 3, 1) := by decide +kernel
theorem dX12_safeOf_122 : decode cX12_safeOf 122 = .ok (.goto 7, 3) := by decide +kernel
theorem dX12_safeOf_125 : decode cX12_safeOf 125 = .ok (.aload_n 0, 1) := by decide +kernel
theorem dX12_safeOf_126 : decode cX12_safeOf 126 = .ok (.getfield 223, 3) := by decide +kernel
theorem dX12_safeOf_129 : decode cX12_safeOf 129 = .ok (.putfield 223, 3) := by decide +kernel
theorem dX12_safeOf_132 : decode cX12_safeOf 132 = .ok (.iinc 2 1, 3) := by decide +kernel
theorem dX12_safeOf_135 : decode cX12_safeOf 135 = .ok (.goto (-122), 3) := by decide +kernel
theorem dX12_safeOf_138 : decode cX12_safeOf 138 = .ok (.aload_n 0, 1) := by decide +kernel
theorem dX12_safeOf_139 : decode cX12_safeOf 139 = .ok (.getfield 220, 3) := by decide +kernel
theorem dX12_safeOf_142 : decode cX12_safeOf 142 = .ok (.iconst (-1), 1) := by decide +kernel
theorem dX12_safeOf_143 : decode cX12_safeOf 143 = .ok (.if_icmp .ne 7, 3) := by decide +kernel
theorem dX12_safeOf_146 : decode cX12_safeOf 146 = .ok (.iconst (-1), 1) := by decide +kernel
theorem dX12_safeOf_147 : decode cX12_safeOf 147 = .ok (.goto 22, 3) := by decide +kernel
theorem dX12_safeOf_150 : decode cX12_safeOf 150 = .ok (.iload_n 1, 1) := by decide +kernel
theorem dX12_safeOf_151 : decode cX12_safeOf 151 = .ok (.ifCond .ne 13, 3) := by decide +kernel
theorem dX12_safeOf_154 : decode cX12_safeOf 154 = .ok (.aload_n 0, 1) := by decide +kernel
theorem dX12_safeOf_155 : decode cX12_safeOf 155 = .ok (.getfield 223, 3) := by decide +kernel
theorem dX12_safeOf_158 : decode cX12_safeOf 158 = .ok (.bipush 100, 2) := by decide +kernel
theorem dX12_safeOf_160 : decode cX12_safeOf 160 = .ok (.iadd, 1) := by decide +kernel
theorem dX12_safeOf_161 : decode cX12_safeOf 161 = .ok (.goto 8, 3) := by decide +kernel
theorem dX12_safeOf_164 : decode cX12_safeOf 164 = .ok (.aload_n 0, 1) := by decide +kernel
theorem dX12_safeOf_165 : decode cX12_safeOf 165 = .ok (.iload_n 1, 1) := by decide +kernel
theorem dX12_safeOf_166 : decode cX12_safeOf 166 = .ok (.invokevirtual 226, 3) := by decide +kernel
theorem dX12_safeOf_169 : decode cX12_safeOf 169 = .ok (.ireturn, 1) := by decide +kernel
theorem dX12_safe_0 : decode cX12_safe 0 = .ok (.iload_n 1, 1) := by decide +kernel
theorem dX12_safe_1 : decode cX12_safe 1 = .ok (.i2l, 1) := by decide +kernel
theorem dX12_safe_2 : decode cX12_safe 2 = .ok (.lconst 0, 1) := by decide +kernel
theorem dX12_safe_3 : decode cX12_safe 3 = .ok (.ldc2_w 229, 3) := by decide +kernel
theorem dX12_safe_6 : decode cX12_safe 6 = .ok (.invokestatic 49, 3) := by decide +kernel
theorem dX12_safe_9 : decode cX12_safe 9 = .ok (.ifCond .ne 6, 3) := by decide +kernel
theorem dX12_safe_12 : decode cX12_safe 12 = .ok (.bipush (-102), 2) := by decide +kernel
theorem dX12_safe_14 : decode cX12_safe 14 = .ok (.ireturn, 1) := by decide +kernel
theorem dX12_safe_15 : decode cX12_safe 15 = .ok (.aload_n 0, 1) := by decide +kernel
theorem dX12_safe_16 : decode cX12_safe 16 = .ok (.invokevirtual 111, 3) := by decide +kernel
theorem dX12_safe_19 : decode cX12_safe 19 = .ok (.ifCond .ne 12, 3) := by decide +kernel
theorem dX12_safe_22 : decode cX12_safe 22 = .ok (.aload_n 0, 1) := by decide +kernel
theorem dX12_safe_23 : decode cX12_safe 23 = .ok (.getfield 244, 3) := by decide +kernel
theorem dX12_safe_26 : decode cX12_safe 26 = .ok (.bipush 8, 2) := by decide +kernel
theorem dX12_safe_28 : decode cX12_safe 28 = .ok (.if_icmp .ne 6, 3) := by decide +kernel
theorem dX12_safe_31 : decode cX12_safe 31 = .ok (.bipush (-103), 2) := by decide +kernel
theorem dX12_safe_33 : decode cX12_safe 33 = .ok (.ireturn, 1) := by decide +kernel
theorem dX12_safe_34 : decode cX12_safe 34 = .ok (.aload_n 0, 1) := by decide +kernel
theorem dX12_safe_35 : decode cX12_safe 35 = .ok (.dup, 1) := by decide +kernel
theorem dX12_safe_36 : decode cX12_safe 36 = .ok (.getfield 244, 3) := by decide +kernel
theorem dX12_safe_39 : decode cX12_safe 39 = .ok (.iconst 1, 1) := by decide +kernel
theorem dX12_safe_40 : decode cX12_safe 40 = .ok (.iadd, 1) := by decide +kernel
theorem dX12_safe_41 : decode cX12_safe 41 = .ok (.putfield 244, 3) := by decide +kernel
theorem dX12_safe_44 : decode cX12_safe 44 = .ok (.aload_n 0, 1) := by decide +kernel
theorem dX12_safe_45 : decode cX12_safe 45 = .ok (.iload_n 1, 1) := by decide +kernel
theorem dX12_safe_46 : decode cX12_safe 46 = .ok (.invokevirtual 247, 3) := by decide +kernel
theorem dX12_safe_49 : decode cX12_safe 49 = .ok (.ireturn, 1) := by decide +kernel
theorem dX12_isWantedFrom_0 : decode cX12_isWantedFrom 0 = .ok (.iconst 0, 1) := by decide +kernel
theorem dX12_isWantedFrom_1 : decode cX12_isWantedFrom 1 = .ok (.istore_n 3, 1) := by decide +kernel
theorem dX12_isWantedFrom_2 : decode cX12_isWantedFrom 2 = .ok (.iload_n 3, 1) := by decide +kernel
theorem dX12_isWantedFrom_3 : decode cX12_isWantedFrom 3 = .ok (.bipush 8, 2) := by decide +kernel
theorem dX12_isWantedFrom_5 : decode cX12_isWantedFrom 5 = .ok (.if_icmp .ge 77, 3) := by decide +kernel
theorem dX12_isWantedFrom_8 : decode cX12_isWantedFrom 8 = .ok (.iconst 1, 1) := by decide +kernel
theorem dX12_isWantedFrom_9 : decode cX12_isWantedFrom 9 = .ok (.istore 4, 2) := by decide +kernel
theorem dX12_isWantedFrom_11 : decode cX12_isWantedFrom 11 = .ok (.iload 4, 2) := by decide +kernel
theorem dX12_isWantedFrom_13 : decode cX12_isWantedFrom 13 = .ok (.bipush 10, 2) := by decide +kernel
theorem dX12_isWantedFrom_15 : decode cX12_isWantedFrom 15 = .ok (.if_icmp .ge 61, 3) := by decide +kernel
theorem dX12_isWantedFrom_18 : decode cX12_isWantedFrom 18 = .ok (.aload_n 0, 1) := by decide +kernel
theorem dX12_isWantedFrom_19 : decode cX12_isWantedFrom 19 = .ok (.getfield 19, 3) := by decide +kernel
theorem dX12_isWantedFrom_22 : decode cX12_isWantedFrom 22 = .ok (.aload_n 0, 1) := by decide +kernel
theorem dX12_isWantedFrom_23 : decode cX12_isWantedFrom 23 = .ok (.getfield 22, 3) := by decide +kernel
theorem dX12_isWantedFrom_26 : decode cX12_isWantedFrom 26 = .ok (.invokestatic 206, 3) := by decide +kernel
theorem dX12_isWantedFrom_29 : decode cX12_isWantedFrom 29 = .ok (.aload_n 0, 1) := by decide +kernel
theorem dX12_isWantedFrom_30 : decode cX12_isWantedFrom 30 = .ok (.getfield 22, 3) := by decide +kernel
theorem dX12_isWantedFrom_33 : decode cX12_isWantedFrom 33 = .ok (.iconst 0, 1) := by decide +kernel
theorem dX12_isWantedFrom_34 : decode cX12_isWantedFrom 34 = .ok (.iload_n 2, 1) := by decide +kernel
theorem dX12_isWantedFrom_35 : decode cX12_isWantedFrom 35 = .ok (.iastore, 1) := by decide +kernel
theorem dX12_isWantedFrom_36 : decode cX12_isWantedFrom 36 = .ok (.aload_n 0, 1) := by decide +kernel
theorem dX12_isWantedFrom_37 : decode cX12_isWantedFrom 37 = .ok (.aload_n 0, 1) := by decide +kernel
theorem dX12_isWantedFrom_38 : decode cX12_isWantedFrom 38 = .ok (.getfield 22, 3) := by decide +kernel
theorem dX12_isWantedFrom_41 : decode cX12_isWantedFrom 41 = .ok (.iload_n 3, 1) := by decide +kernel
theorem dX12_isWantedFrom_42 : decode cX12_isWantedFrom 42 = .ok (.iload 4, 2) := by decide +kernel
theorem dX12_isWantedFrom_44 : decode cX12_isWantedFrom 44 = .ok (.iconst 0, 1) := by decide +kernel
theorem dX12_isWantedFrom_45 : decode cX12_isWantedFrom 45 = .ok (.invokevirtual 202, 3) := by decide +kernel
theorem dX12_isWantedFrom_48 : decode cX12_isWantedFrom 48 = .ok (.pop, 1) := by decide +kernel
theorem dX12_isWantedFrom_49 : decode cX12_isWantedFrom 49 = .ok (.aload_n 0, 1) := by decide +kernel
theorem dX12_isWantedFrom_50 : decode cX12_isWantedFrom 50 = .ok (.getfield 160, 3) := by decide +kernel
theorem dX12_isWantedFrom_53 : decode cX12_isWantedFrom 53 = .ok (.ifCond .ne 17, 3) := by decide +kernel
theorem dX12_isWantedFrom_56 : decode cX12_isWantedFrom 56 = .ok (.aload_n 0, 1) := by decide +kernel
theorem dX12_isWantedFrom_57 : decode cX12_isWantedFrom 57 = .ok (.getfield 147, 3) := by decide +kernel
theorem dX12_isWantedFrom_60 : decode cX12_isWantedFrom 60 = .ok (.iload_n 1, 1) := by decide +kernel
theorem dX12_isWantedFrom_61 : decode cX12_isWantedFrom 61 = .ok (.ishr, 1) := by decide +kernel
theorem dX12_isWantedFrom_62 : decode cX12_isWantedFrom 62 = .ok (.iconst 1, 1) := by decide +kernel
theorem dX12_isWantedFrom_63 : decode cX12_isWantedFrom 63 = .ok (.iand, 1) := by decide +kernel
theorem dX12_isWantedFrom_64 : decode cX12_isWantedFrom 64 = .ok (.iconst 1, 1) := by decide +kernel
theorem dX12_isWantedFrom_65 : decode cX12_isWantedFrom 65 = .ok (.if_icmp .ne 5, 3) := by decide +kernel
theorem dX12_isWantedFrom_68 : decode cX12_isWantedFrom 68 = .ok (.iconst 1, 1) := by decide +kernel
theorem dX12_isWantedFrom_69 : decode cX12_isWantedFrom 69 = .ok (.ireturn, 1) := by decide +kernel
theorem dX12_isWantedFrom_70 : decode cX12_isWantedFrom 70 = .ok (.iinc 4 1, 3) := by decide +kernel
theorem dX12_isWantedFrom_73 : decode cX12_isWantedFrom 73 = .ok (.goto (-62), 3) := by decide +kernel
theorem dX12_isWantedFrom_76 : decode cX12_isWantedFrom 76 = .ok (.iinc 3 1, 3) := by decide +kernel
theorem dX12_isWantedFrom_79 : decode cX12_isWantedFrom 79 = .ok (.goto (-77), 3) := by decide +kernel
theorem dX12_isWantedFrom_82 : decode cX12_isWantedFrom 82 = .ok (.iconst 0, 1) := by decide +kernel
theorem dX12_isWantedFrom_83 : decode cX12_isWantedFrom 83 = .ok (.ireturn, 1) := by decide +kernel
theorem dX12_wantedOf_0 : decode cX12_wantedOf 0 = .ok (.lconst 0, 1) := by decide +kernel
theorem dX12_wantedOf_1 : decode cX12_wantedOf 1 = .ok (.lstore_n 2, 1) := by decide +kernel
theorem dX12_wantedOf_2 : decode cX12_wantedOf 2 = .ok (.iconst 0, 1) := by decide +kernel
theorem dX12_wantedOf_3 : decode cX12_wantedOf 3 = .ok (.istore 4, 2) := by decide +kernel
theorem dX12_wantedOf_5 : decode cX12_wantedOf 5 = .ok (.iload 4, 2) := by decide +kernel
theorem dX12_wantedOf_7 : decode cX12_wantedOf 7 = .ok (.bipush 45, 2) := by decide +kernel
theorem dX12_wantedOf_9 : decode cX12_wantedOf 9 = .ok (.if_icmp .ge 64, 3) := by decide +kernel
theorem dX12_wantedOf_12 : decode cX12_wantedOf 12 = .ok (.iload 4, 2) := by decide +kernel
theorem dX12_wantedOf_14 : decode cX12_wantedOf 14 = .ok (.invokestatic 64, 3) := by decide +kernel
theorem dX12_wantedOf_17 : decode cX12_wantedOf 17 = .ok (.ifCond .ne 21, 3) := by decide +kernel
theorem dX12_wantedOf_20 : decode cX12_wantedOf 20 = .ok (.aload_n 0, 1) := by decide +kernel
theorem dX12_wantedOf_21 : decode cX12_wantedOf 21 = .ok (.aload_n 0, 1) := by decide +kernel
theorem dX12_wantedOf_22 : decode cX12_wantedOf 22 = .ok (.getfield 19, 3) := by decide +kernel
theorem dX12_wantedOf_25 : decode cX12_wantedOf 25 = .ok (.iload 4, 2) := by decide +kernel
theorem dX12_wantedOf_27 : decode cX12_wantedOf 27 = .ok (.invokevirtual 121, 3) := by decide +kernel
theorem dX12_wantedOf_30 : decode cX12_wantedOf 30 = .ok (.iconst 1, 1) := by decide +kernel
theorem dX12_wantedOf_31 : decode cX12_wantedOf 31 = .ok (.if_icmp .ge 7, 3) := by decide +kernel
theorem dX12_wantedOf_34 : decode cX12_wantedOf 34 = .ok (.iconst 1, 1) := by decide +kernel
theorem dX12_wantedOf_35 : decode cX12_wantedOf 35 = .ok (.goto 4, 3) := by decide +kernel
theorem dX12_wantedOf_38 : decode cX12_wantedOf 38 = .ok (.iconst 0, 1) := by decide +kernel
theorem dX12_wantedOf_39 : decode cX12_wantedOf 39 = .ok (.istore 5, 2) := by decide +kernel
theorem dX12_wantedOf_41 : decode cX12_wantedOf 41 = .ok (.lload_n 2, 1) := by decide +kernel
theorem dX12_wantedOf_42 : decode cX12_wantedOf 42 = .ok (.iload 5, 2) := by decide +kernel
theorem dX12_wantedOf_44 : decode cX12_wantedOf 44 = .ok (.ifCond .eq 20, 3) := by decide +kernel
theorem dX12_wantedOf_47 : decode cX12_wantedOf 47 = .ok (.aload_n 0, 1) := by decide +kernel
theorem dX12_wantedOf_48 : decode cX12_wantedOf 48 = .ok (.iload_n 1, 1) := by decide +kernel
theorem dX12_wantedOf_49 : decode cX12_wantedOf 49 = .ok (.iload 4, 2) := by decide +kernel
theorem dX12_wantedOf_51 : decode cX12_wantedOf 51 = .ok (.invokevirtual 250, 3) := by decide +kernel
theorem dX12_wantedOf_54 : decode cX12_wantedOf 54 = .ok (.ifCond .eq 10, 3) := by decide +kernel
theorem dX12_wantedOf_57 : decode cX12_wantedOf 57 = .ok (.lconst 1, 1) := by decide +kernel
theorem dX12_wantedOf_58 : decode cX12_wantedOf 58 = .ok (.iload 4, 2) := by decide +kernel
theorem dX12_wantedOf_60 : decode cX12_wantedOf 60 = .ok (.lshl, 1) := by decide +kernel
theorem dX12_wantedOf_61 : decode cX12_wantedOf 61 = .ok (.goto 4, 3) := by decide +kernel
theorem dX12_wantedOf_64 : decode cX12_wantedOf 64 = .ok (.lconst 0, 1) := by decide +kernel
theorem dX12_wantedOf_65 : decode cX12_wantedOf 65 = .ok (.lor, 1) := by decide +kernel
theorem dX12_wantedOf_66 : decode cX12_wantedOf 66 = .ok (.lstore_n 2, 1) := by decide +kernel
theorem dX12_wantedOf_67 : decode cX12_wantedOf 67 = .ok (.iinc 4 1, 3) := by decide +kernel
theorem dX12_wantedOf_70 : decode cX12_wantedOf 70 = .ok (.goto (-65), 3) := by decide +kernel
theorem dX12_wantedOf_73 : decode cX12_wantedOf 73 = .ok (.lload_n 2, 1) := by decide +kernel
theorem dX12_wantedOf_74 : decode cX12_wantedOf 74 = .ok (.lreturn, 1) := by decide +kernel
theorem dX12_wantedMany_0 : decode cX12_wantedMany 0 = .ok (.aload_n 0, 1) := by decide +kernel
theorem dX12_wantedMany_1 : decode cX12_wantedMany 1 = .ok (.iload_n 1, 1) := by decide +kernel
theorem dX12_wantedMany_2 : decode cX12_wantedMany 2 = .ok (.invokevirtual 254, 3) := by decide +kernel
theorem dX12_wantedMany_5 : decode cX12_wantedMany 5 = .ok (.lstore_n 2, 1) := by decide +kernel
theorem dX12_wantedMany_6 : decode cX12_wantedMany 6 = .ok (.iconst 0, 1) := by decide +kernel
theorem dX12_wantedMany_7 : decode cX12_wantedMany 7 = .ok (.istore 4, 2) := by decide +kernel
theorem dX12_wantedMany_9 : decode cX12_wantedMany 9 = .ok (.iconst 0, 1) := by decide +kernel
theorem dX12_wantedMany_10 : decode cX12_wantedMany 10 = .ok (.istore 5, 2) := by decide +kernel
theorem dX12_wantedMany_12 : decode cX12_wantedMany 12 = .ok (.iload 5, 2) := by decide +kernel
theorem dX12_wantedMany_14 : decode cX12_wantedMany 14 = .ok (.bipush 45, 2) := by decide +kernel
theorem dX12_wantedMany_16 : decode cX12_wantedMany 16 = .ok (.if_icmp .ge 30, 3) := by decide +kernel
theorem dX12_wantedMany_19 : decode cX12_wantedMany 19 = .ok (.iload 4, 2) := by decide +kernel
theorem dX12_wantedMany_21 : decode cX12_wantedMany 21 = .ok (.lload_n 2, 1) := by decide +kernel
theorem dX12_wantedMany_22 : decode cX12_wantedMany 22 = .ok (.iload 5, 2) := by decide +kernel
theorem dX12_wantedMany_24 : decode cX12_wantedMany 24 = .ok (.lshr, 1) := by decide +kernel
theorem dX12_wantedMany_25 : decode cX12_wantedMany 25 = .ok (.lconst 1, 1) := by decide +kernel
theorem dX12_wantedMany_26 : decode cX12_wantedMany 26 = .ok (.land, 1) := by decide +kernel
theorem dX12_wantedMany_27 : decode cX12_wantedMany 27 = .ok (.lconst 1, 1) := by decide +kernel
theorem dX12_wantedMany_28 : decode cX12_wantedMany 28 = .ok (.lcmp, 1) := by decide +kernel
theorem dX12_wantedMany_29 : decode cX12_wantedMany 29 = .ok (.ifCond .ne 7, 3) := by decide +kernel
theorem dX12_wantedMany_32 : decode cX12_wantedMany 32 = .ok (.iconst 1, 1) := by decide +kernel
theorem dX12_wantedMany_33 : decode cX12_wantedMany 33 = .ok (.goto 4, 3) := by decide +kernel
theorem dX12_wantedMany_36 : decode cX12_wantedMany 36 = .ok (.iconst 0, 1) := by decide +kernel
theorem dX12_wantedMany_37 : decode cX12_wantedMany 37 = .ok (.iadd, 1) := by decide +kernel
theorem dX12_wantedMany_38 : decode cX12_wantedMany 38 = .ok (.istore 4, 2) := by decide +kernel
theorem dX12_wantedMany_40 : decode cX12_wantedMany 40 = .ok (.iinc 5 1, 3) := by decide +kernel
theorem dX12_wantedMany_43 : decode cX12_wantedMany 43 = .ok (.goto (-31), 3) := by decide +kernel
theorem dX12_wantedMany_46 : decode cX12_wantedMany 46 = .ok (.iload 4, 2) := by decide +kernel
theorem dX12_wantedMany_48 : decode cX12_wantedMany 48 = .ok (.ireturn, 1) := by decide +kernel
theorem dX12_wanted_0 : decode cX12_wanted 0 = .ok (.aload_n 0, 1) := by decide +kernel
theorem dX12_wanted_1 : decode cX12_wanted 1 = .ok (.iload_n 1, 1) := by decide +kernel
theorem dX12_wanted_2 : decode cX12_wanted 2 = .ok (.invokevirtual 191, 3) := by decide +kernel
theorem dX12_wanted_5 : decode cX12_wanted 5 = .ok (.ifCond .eq 21, 3) := by decide +kernel
theorem dX12_wanted_8 : decode cX12_wanted 8 = .ok (.aload_n 0, 1) := by decide +kernel
theorem dX12_wanted_9 : decode cX12_wanted 9 = .ok (.getfield 19, 3) := by decide +kernel
theorem dX12_wanted_12 : decode cX12_wanted 12 = .ok (.iload_n 1, 1) := by decide +kernel
theorem dX12_wanted_13 : decode cX12_wanted 13 = .ok (.iaload, 1) := by decide +kernel
theorem dX12_wanted_14 : decode cX12_wanted 14 = .ok (.iconst (-1), 1) := by decide +kernel
theorem dX12_wanted_15 : decode cX12_wanted 15 = .ok (.if_icmp .eq 11, 3) := by decide +kernel
theorem dX12_wanted_18 : decode cX12_wanted 18 = .ok (.aload_n 0, 1) := by decide +kernel
theorem dX12_wanted_19 : decode cX12_wanted 19 = .ok (.iload_n 1, 1) := by decide +kernel
theorem dX12_wanted_20 : decode cX12_wanted 20 = .ok (.invokevirtual 254, 3) := by decide +kernel
theorem dX12_wanted_23 : decode cX12_wanted 23 = .ok (.goto 6, 3) := by decide +kernel
theorem dX12_wanted_26 : decode cX12_wanted 26 = .ok (.ldc2_w 258, 3) := by decide +kernel
theorem dX12_wanted_29 : decode cX12_wanted 29 = .ok (.lreturn, 1) := by decide +kernel
theorem dX12_see_0 : decode cX12_see 0 = .ok (.aload_n 0, 1) := by decide +kernel
theorem dX12_see_1 : decode cX12_see 1 = .ok (.iload_n 1, 1) := by decide +kernel
theorem dX12_see_2 : decode cX12_see 2 = .ok (.invokevirtual 191, 3) := by decide +kernel
theorem dX12_see_5 : decode cX12_see 5 = .ok (.ifCond .eq 18, 3) := by decide +kernel
theorem dX12_see_8 : decode cX12_see 8 = .ok (.iload 4, 2) := by decide +kernel
theorem dX12_see_10 : decode cX12_see 10 = .ok (.iconst (-1), 1) := by decide +kernel
theorem dX12_see_11 : decode cX12_see 11 = .ok (.if_icmp .eq 15, 3) := by decide +kernel
theorem dX12_see_14 : decode cX12_see 14 = .ok (.aload_n 0, 1) := by decide +kernel
theorem dX12_see_15 : decode cX12_see 15 = .ok (.iload 4, 2) := by decide +kernel
theorem dX12_see_17 : decode cX12_see 17 = .ok (.invokevirtual 183, 3) := by decide +kernel
theorem dX12_see_20 : decode cX12_see 20 = .ok (.ifCond .ne 6, 3) := by decide +kernel
theorem dX12_see_23 : decode cX12_see 23 = .ok (.bipush (-101), 2) := by decide +kernel
theorem dX12_see_25 : decode cX12_see 25 = .ok (.ireturn, 1) := by decide +kernel
theorem dX12_see_26 : decode cX12_see 26 = .ok (.iload_n 2, 1) := by decide +kernel
theorem dX12_see_27 : decode cX12_see 27 = .ok (.i2l, 1) := by decide +kernel
theorem dX12_see_28 : decode cX12_see 28 = .ok (.lconst 0, 1) := by decide +kernel
theorem dX12_see_29 : decode cX12_see 29 = .ok (.ldc2_w 186, 3) := by decide +kernel
theorem dX12_see_32 : decode cX12_see 32 = .ok (.invokestatic 49, 3) := by decide +kernel
theorem dX12_see_35 : decode cX12_see 35 = .ok (.ifCond .eq 15, 3) := by decide +kernel
theorem dX12_see_38 : decode cX12_see 38 = .ok (.iload_n 3, 1) := by decide +kernel
theorem dX12_see_39 : decode cX12_see 39 = .ok (.i2l, 1) := by decide +kernel
theorem dX12_see_40 : decode cX12_see 40 = .ok (.lconst 1, 1) := by decide +kernel
theorem dX12_see_41 : decode cX12_see 41 = .ok (.ldc2_w 194, 3) := by decide +kernel
theorem dX12_see_44 : decode cX12_see 44 = .ok (.invokestatic 49, 3) := by decide +kernel
theorem dX12_see_47 : decode cX12_see 47 = .ok (.ifCond .ne 6, 3) := by decide +kernel
theorem dX12_see_50 : decode cX12_see 50 = .ok (.bipush (-102), 2) := by decide +kernel
theorem dX12_see_52 : decode cX12_see 52 = .ok (.ireturn, 1) := by decide +kernel
theorem dX12_see_53 : decode cX12_see 53 = .ok (.aload_n 0, 1) := by decide +kernel
theorem dX12_see_54 : decode cX12_see 54 = .ok (.getfield 105, 3) := by decide +kernel
theorem dX12_see_57 : decode cX12_see 57 = .ok (.bipush 6, 2) := by decide +kernel
theorem dX12_see_59 : decode cX12_see 59 = .ok (.if_icmp .ne 6, 3) := by decide +kernel
theorem dX12_see_62 : decode cX12_see 62 = .ok (.bipush (-104), 2) := by decide +kernel
theorem dX12_see_64 : decode cX12_see 64 = .ok (.ireturn, 1) := by decide +kernel
theorem dX12_see_65 : decode cX12_see 65 = .ok (.aload_n 0, 1) := by decide +kernel
theorem dX12_see_66 : decode cX12_see 66 = .ok (.getfield 28, 3) := by decide +kernel
theorem dX12_see_69 : decode cX12_see 69 = .ok (.iconst 4, 1) := by decide +kernel
theorem dX12_see_70 : decode cX12_see 70 = .ok (.aload_n 0, 1) := by decide +kernel
theorem dX12_see_71 : decode cX12_see 71 = .ok (.getfield 105, 3) := by decide +kernel
theorem dX12_see_74 : decode cX12_see 74 = .ok (.imul, 1) := by decide +kernel
theorem dX12_see_75 : decode cX12_see 75 = .ok (.iload_n 1, 1) := by decide +kernel
theorem dX12_see_76 : decode cX12_see 76 = .ok (.iastore, 1) := by decide +kernel
theorem dX12_see_77 : decode cX12_see 77 = .ok (.aload_n 0, 1) := by decide +kernel
theorem dX12_see_78 : decode cX12_see 78 = .ok (.getfield 28, 3) := by decide +kernel
theorem dX12_see_81 : decode cX12_see 81 = .ok (.iconst 4, 1) := by decide +kernel
theorem dX12_see_82 : decode cX12_see 82 = .ok (.aload_n 0, 1) := by decide +kernel
theorem dX12_see_83 : decode cX12_see 83 = .ok (.getfield 105, 3) := by decide +kernel
theorem dX12_see_86 : decode cX12_see 86 = .ok (.imul, 1) := by decide +kernel
theorem dX12_see_87 : decode cX12_see 87 = .ok (.iconst 1, 1) := by decide +kernel
theorem dX12_see_88 : decode cX12_see 88 = .ok (.iadd, 1) := by decide +kernel
theorem dX12_see_89 : decode cX12_see 89 = .ok (.iload_n 2, 1) := by decide +kernel
theorem dX12_see_90 : decode cX12_see 90 = .ok (.iastore, 1) := by decide +kernel
theorem dX12_see_91 : decode cX12_see 91 = .ok (.aload_n 0, 1) := by decide +kernel
theorem dX12_see_92 : decode cX12_see 92 = .ok (.getfield 28, 3) := by decide +kernel
theorem dX12_see_95 : decode cX12_see 95 = .ok (.iconst 4, 1) := by decide +kernel
theorem dX12_see_96 : decode cX12_see 96 = .ok (.aload_n 0, 1) := by decide +kernel
theorem dX12_see_97 : decode cX12_see 97 = .ok (.getfield 105, 3) := by decide +kernel
theorem dX12_see_100 : decode cX12_see 100 = .ok (.imul, 1) := by decide +kernel
theorem dX12_see_101 : decode cX12_see 101 = .ok (.iconst 2, 1) := by decide +kernel
theorem dX12_see_102 : decode cX12_see 102 = .ok (.iadd, 1) := by decide +kernel
theorem dX12_see_103 : decode cX12_see 103 = .ok (.iload_n 3, 1) := by decide +kernel
theorem dX12_see_104 : decode cX12_see 104 = .ok (.iastore, 1) := by decide +kernel
theorem dX12_see_105 : decode cX12_see 105 = .ok (.aload_n 0, 1) := by decide +kernel
theorem dX12_see_106 : decode cX12_see 106 = .ok (.getfield 28, 3) := by decide +kernel
theorem dX12_see_109 : decode cX12_see 109 = .ok (.iconst 4, 1) := by decide +kernel
theorem dX12_see_110 : decode cX12_see 110 = .ok (.aload_n 0, 1) := by decide +kernel
theorem dX12_see_111 : decode cX12_see 111 = .ok (.getfield 105, 3) := by decide +kernel
theorem dX12_see_114 : decode cX12_see 114 = .ok (.imul, 1) := by decide +kernel
theorem dX12_see_115 : decode cX12_see 115 = .ok (.iconst 3, 1) := by decide +kernel
theorem dX12_see_116 : decode cX12_see 116 = .ok (.iadd, 1) := by decide +kernel
theorem dX12_see_117 : decode cX12_see 117 = .ok (.iload 4, 2) := by decide +kernel
theorem dX12_see_119 : decode cX12_see 119 = .ok (.iastore, 1) := by decide +kernel
theorem dX12_see_120 : decode cX12_see 120 = .ok (.aload_n 0, 1) := by decide +kernel
theorem dX12_see_121 : decode cX12_see 121 = .ok (.dup, 1) := by decide +kernel
theorem dX12_see_122 : decode cX12_see 122 = .ok (.getfield 105, 3) := by decide +kernel
theorem dX12_see_125 : decode cX12_see 125 = .ok (.iconst 1, 1) := by decide +kernel
theorem dX12_see_126 : decode cX12_see 126 = .ok (.iadd, 1) := by decide +kernel
theorem dX12_see_127 : decode cX12_see 127 = .ok (.putfield 105, 3) := by decide +kernel
theorem dX12_see_130 : decode cX12_see 130 = .ok (.aload_n 0, 1) := by decide +kernel
theorem dX12_see_131 : decode cX12_see 131 = .ok (.getfield 105, 3) := by decide +kernel
theorem dX12_see_134 : decode cX12_see 134 = .ok (.ireturn, 1) := by decide +kernel
theorem dX12_forget_0 : decode cX12_forget 0 = .ok (.aload_n 0, 1) := by decide +kernel
theorem dX12_forget_1 : decode cX12_forget 1 = .ok (.getfield 105, 3) := by decide +kernel
theorem dX12_forget_4 : decode cX12_forget 4 = .ok (.istore_n 1, 1) := by decide +kernel
theorem dX12_forget_5 : decode cX12_forget 5 = .ok (.aload_n 0, 1) := by decide +kernel
theorem dX12_forget_6 : decode cX12_forget 6 = .ok (.iconst 0, 1) := by decide +kernel
theorem dX12_forget_7 : decode cX12_forget 7 = .ok (.putfield 105, 3) := by decide +kernel
theorem dX12_forget_10 : decode cX12_forget 10 = .ok (.iload_n 1, 1) := by decide +kernel
theorem dX12_forget_11 : decode cX12_forget 11 = .ok (.ireturn, 1) := by decide +kernel
theorem dX12_behindAs_0 : decode cX12_behindAs 0 = .ok (.aload_n 0, 1) := by decide +kernel
theorem dX12_behindAs_1 : decode cX12_behindAs 1 = .ok (.getfield 13, 3) := by decide +kernel
theorem dX12_behindAs_4 : decode cX12_behindAs 4 = .ok (.iload_n 1, 1) := by decide +kernel
theorem dX12_behindAs_5 : decode cX12_behindAs 5 = .ok (.iaload, 1) := by decide +kernel
theorem dX12_behindAs_6 : decode cX12_behindAs 6 = .ok (.istore 5, 2) := by decide +kernel
theorem dX12_behindAs_8 : decode cX12_behindAs 8 = .ok (.aload_n 0, 1) := by decide +kernel
theorem dX12_behindAs_9 : decode cX12_behindAs 9 = .ok (.getfield 13, 3) := by decide +kernel
theorem dX12_behindAs_12 : decode cX12_behindAs 12 = .ok (.iload_n 1, 1) := by decide +kernel
theorem dX12_behindAs_13 : decode cX12_behindAs 13 = .ok (.iload_n 2, 1) := by decide +kernel
theorem dX12_behindAs_14 : decode cX12_behindAs 14 = .ok (.iastore, 1) := by decide +kernel
theorem dX12_behindAs_15 : decode cX12_behindAs 15 = .ok (.aload_n 0, 1) := by decide +kernel
theorem dX12_behindAs_16 : decode cX12_behindAs 16 = .ok (.getfield 19, 3) := by decide +kernel
theorem dX12_behindAs_19 : decode cX12_behindAs 19 = .ok (.aload_n 0, 1) := by decide +kernel
theorem dX12_behindAs_20 : decode cX12_behindAs 20 = .ok (.getfield 22, 3) := by decide +kernel
theorem dX12_behindAs_23 : decode cX12_behindAs 23 = .ok (.invokestatic 206, 3) := by decide +kernel
theorem dX12_behindAs_26 : decode cX12_behindAs 26 = .ok (.aload_n 0, 1) := by decide +kernel
theorem dX12_behindAs_27 : decode cX12_behindAs 27 = .ok (.aload_n 0, 1) := by decide +kernel
theorem dX12_behindAs_28 : decode cX12_behindAs 28 = .ok (.getfield 22, 3) := by decide +kernel
theorem dX12_behindAs_31 : decode cX12_behindAs 31 = .ok (.iload_n 3, 1) := by decide +kernel
theorem dX12_behindAs_32 : decode cX12_behindAs 32 = .ok (.iload 4, 2) := by decide +kernel
theorem dX12_behindAs_34 : decode cX12_behindAs 34 = .ok (.iconst 0, 1) := by decide +kernel
theorem dX12_behindAs_35 : decode cX12_behindAs 35 = .ok (.invokevirtual 202, 3) := by decide +kernel
theorem dX12_behindAs_38 : decode cX12_behindAs 38 = .ok (.pop, 1) := by decide +kernel
theorem dX12_behindAs_39 : decode cX12_behindAs 39 = .ok (.aload_n 0, 1) := by decide +kernel
theorem dX12_behindAs_40 : decode cX12_behindAs 40 = .ok (.getfield 13, 3) := by decide +kernel
theorem dX12_behindAs_43 : decode cX12_behindAs 43 = .ok (.iload_n 1, 1) := by decide +kernel
theorem dX12_behindAs_44 : decode cX12_behindAs 44 = .ok (.iload 5, 2) := by decide +kernel
theorem dX12_behindAs_46 : decode cX12_behindAs 46 = .ok (.iastore, 1) := by decide +kernel
theorem dX12_behindAs_47 : decode cX12_behindAs 47 = .ok (.aload_n 0, 1) := by decide +kernel
theorem dX12_behindAs_48 : decode cX12_behindAs 48 = .ok (.getfield 22, 3) := by decide +kernel
theorem dX12_behindAs_51 : decode cX12_behindAs 51 = .ok (.iload_n 1, 1) := by decide +kernel
theorem dX12_behindAs_52 : decode cX12_behindAs 52 = .ok (.iaload, 1) := by decide +kernel
theorem dX12_behindAs_53 : decode cX12_behindAs 53 = .ok (.ireturn, 1) := by decide +kernel
theorem dX12_kindsOf_0 : decode cX12_kindsOf 0 = .ok (.iconst 0, 1) := by decide +kernel
theorem dX12_kindsOf_1 : decode cX12_kindsOf 1 = .ok (.istore_n 2, 1) := by decide +kernel
theorem dX12_kindsOf_2 : decode cX12_kindsOf 2 = .ok (.iconst 0, 1) := by decide +kernel
theorem dX12_kindsOf_3 : decode cX12_kindsOf 3 = .ok (.istore_n 3, 1) := by decide +kernel
theorem dX12_kindsOf_4 : decode cX12_kindsOf 4 = .ok (.iload_n 3, 1) := by decide +kernel
theorem dX12_kindsOf_5 : decode cX12_kindsOf 5 = .ok (.iconst 5, 1) := by decide +kernel
theorem dX12_kindsOf_6 : decode cX12_kindsOf 6 = .ok (.if_icmp .ge 106, 3) := by decide +kernel
theorem dX12_kindsOf_9 : decode cX12_kindsOf 9 = .ok (.iconst 1, 1) := by decide +kernel
theorem dX12_kindsOf_10 : decode cX12_kindsOf 10 = .ok (.istore 4, 2) := by decide +kernel
theorem dX12_kindsOf_12 : decode cX12_kindsOf 12 = .ok (.iconst 0, 1) := by decide +kernel
theorem dX12_kindsOf_13 : decode cX12_kindsOf 13 = .ok (.istore 5, 2) := by decide +kernel
theorem dX12_kindsOf_15 : decode cX12_kindsOf 15 = .ok (.iload 5, 2) := by decide +kernel
theorem dX12_kindsOf_17 : decode cX12_kindsOf 17 = .ok (.iconst 4, 1) := by decide +kernel
theorem dX12_kindsOf_18 : decode cX12_kindsOf 18 = .ok (.aload_n 0, 1) := by decide +kernel
theorem dX12_kindsOf_19 : decode cX12_kindsOf 19 = .ok (.getfield 105, 3) := by decide +kernel
theorem dX12_kindsOf_22 : decode cX12_kindsOf 22 = .ok (.imul, 1) := by decide +kernel
theorem dX12_kindsOf_23 : decode cX12_kindsOf 23 = .ok (.if_icmp .ge 68, 3) := by decide +kernel
theorem dX12_kindsOf_26 : decode cX12_kindsOf 26 = .ok (.aload_n 0, 1) := by decide +kernel
theorem dX12_kindsOf_27 : decode cX12_kindsOf 27 = .ok (.getfield 28, 3) := by decide +kernel
theorem dX12_kindsOf_30 : decode cX12_kindsOf 30 = .ok (.iload 5, 2) := by decide +kernel
theorem dX12_kindsOf_32 : decode cX12_kindsOf 32 = .ok (.iaload, 1) := by decide +kernel
theorem dX12_kindsOf_33 : decode cX12_kindsOf 33 = .ok (.iload_n 1, 1) := by decide +kernel
theorem dX12_kindsOf_34 : decode cX12_kindsOf 34 = .ok (.if_icmp .ne 51, 3) := by decide +kernel
theorem dX12_kindsOf_37 : decode cX12_kindsOf 37 = .ok (.iload 4, 2) := by decide +kernel
theorem dX12_kindsOf_39 : decode cX12_kindsOf 39 = .ok (.ifCond .eq 43, 3) := by decide +kernel
theorem dX12_kindsOf_42 : decode cX12_kindsOf 42 = .ok (.aload_n 0, 1) := by decide +kernel
theorem dX12_kindsOf_43 : decode cX12_kindsOf 43 = .ok (.iload_n 1, 1) := by decide +kernel
theorem dX12_kindsOf_44 : decode cX12_kindsOf 44 = .ok (.iload_n 3, 1) := by decide +kernel
theorem dX12_kindsOf_45 : decode cX12_kindsOf 45 = .ok (.aload_n 0, 1) := by decide +kernel
theorem dX12_kindsOf_46 : decode cX12_kindsOf 46 = .ok (.getfield 28, 3) := by decide +kernel
theorem dX12_kindsOf_49 : decode cX12_kindsOf 49 = .ok (.iload 5, 2) := by decide +kernel
theorem dX12_kindsOf_51 : decode cX12_kindsOf 51 = .ok (.iconst 1, 1) := by decide +kernel
theorem dX12_kindsOf_52 : decode cX12_kindsOf 52 = .ok (.iadd, 1) := by decide +kernel
theorem dX12_kindsOf_53 : decode cX12_kindsOf 53 = .ok (.iaload, 1) := by decide +kernel
theorem dX12_kindsOf_54 : decode cX12_kindsOf 54 = .ok (.aload_n 0, 1) := by decide +kernel
theorem dX12_kindsOf_55 : decode cX12_kindsOf 55 = .ok (.getfield 28, 3) := by decide +kernel
theorem dX12_kindsOf_58 : decode cX12_kindsOf 58 = .ok (.iload 5, 2) := by decide +kernel
theorem dX12_kindsOf_60 : decode cX12_kindsOf 60 = .ok (.iconst 2, 1) := by decide +kernel
theorem dX12_kindsOf_61 : decode cX12_kindsOf 61 = .ok (.iadd, 1) := by decide +kernel
theorem dX12_kindsOf_62 : decode cX12_kindsOf 62 = .ok (.iaload, 1) := by decide +kernel
theorem dX12_kindsOf_63 : decode cX12_kindsOf 63 = .ok (.invokevirtual 260, 3) := by decide +kernel
theorem dX12_kindsOf_66 : decode cX12_kindsOf 66 = .ok (.aload_n 0, 1) := by decide +kernel
theorem dX12_kindsOf_67 : decode cX12_kindsOf 67 = .ok (.getfield 28, 3) := by decide +kernel
theorem dX12_kindsOf_70 : decode cX12_kindsOf 70 = .ok (.iload 5, 2) := by decide +kernel
theorem dX12_kindsOf_72 : decode cX12_kindsOf 72 = .ok (.iconst 3, 1) := by decide +kernel
theorem dX12_kindsOf_73 : decode cX12_kindsOf 73 = .ok (.iadd, 1) := by decide +kernel
theorem dX12_kindsOf_74 : decode cX12_kindsOf 74 = .ok (.iaload, 1) := by decide +kernel
theorem dX12_kindsOf_75 : decode cX12_kindsOf 75 = .ok (.if_icmp .ne 7, 3) := by decide +kernel
theorem dX12_kindsOf_78 : decode cX12_kindsOf 78 = .ok (.iconst 1, 1) := by decide +kernel
theorem dX12_kindsOf_79 : decode cX12_kindsOf 79 = .ok (.goto 4, 3) := by decide +kernel
theorem dX12_kindsOf_82 : decode cX12_kindsOf 82 = .ok (.iconst 0, 1) := by decide +kernel
theorem dX12_kindsOf_83 : decode cX12_kindsOf 83 = .ok (.istore 4, 2) := by decide +kernel
theorem dX12_kindsOf_85 : decode cX12_kindsOf 85 = .ok (.iinc 5 4, 3) := by decide +kernel
theorem dX12_kindsOf_88 : decode cX12_kindsOf 88 = .ok (.goto (-73), 3) := by decide +kernel
theorem dX12_kindsOf_91 : decode cX12_kindsOf 91 = .ok (.iload_n 2, 1) := by decide +kernel
theorem dX12_kindsOf_92 : decode cX12_kindsOf 92 = .ok (.iload 4, 2) := by decide +kernel
theorem dX12_kindsOf_94 : decode cX12_kindsOf 94 = .ok (.ifCond .eq 9, 3) := by decide +kernel
theorem dX12_kindsOf_97 : decode cX12_kindsOf 97 = .ok (.iconst 1, 1) := by decide +kernel
theorem dX12_kindsOf_98 : decode cX12_kindsOf 98 = .ok (.iload_n 3, 1) := by decide +kernel
theorem dX12_kindsOf_99 : decode cX12_kindsOf 99 = .ok (.ishl, 1) := by decide +kernel
theorem dX12_kindsOf_100 : decode cX12_kindsOf 100 = .ok (.goto 4, 3) := by decide +kernel
theorem dX12_kindsOf_103 : decode cX12_kindsOf 103 = .ok (.iconst 0, 1) := by decide +kernel
theorem dX12_kindsOf_104 : decode cX12_kindsOf 104 = .ok (.ior, 1) := by decide +kernel
theorem dX12_kindsOf_105 : decode cX12_kindsOf 105 = .ok (.istore_n 2, 1) := by decide +kernel
theorem dX12_kindsOf_106 : decode cX12_kindsOf 106 = .ok (.iinc 3 1, 3) := by decide +kernel
theorem dX12_kindsOf_109 : decode cX12_kindsOf 109 = .ok (.goto (-105), 3) := by decide +kernel
theorem dX12_kindsOf_112 : decode cX12_kindsOf 112 = .ok (.iload_n 2, 1) := by decide +kernel
theorem dX12_kindsOf_113 : decode cX12_kindsOf 113 = .ok (.ireturn, 1) := by decide +kernel
theorem dX12_tryOf_0 : decode cX12_tryOf 0 = .ok (.aload_n 0, 1) := by decide +kernel
theorem dX12_tryOf_1 : decode cX12_tryOf 1 = .ok (.iload_n 1, 1) := by decide +kernel
theorem dX12_tryOf_2 : decode cX12_tryOf 2 = .ok (.invokevirtual 168, 3) := by decide +kernel
theorem dX12_tryOf_5 : decode cX12_tryOf 5 = .ok (.istore_n 2, 1) := by decide +kernel
theorem dX12_tryOf_6 : decode cX12_tryOf 6 = .ok (.iconst (-1), 1) := by decide +kernel
theorem dX12_tryOf_7 : decode cX12_tryOf 7 = .ok (.istore_n 3, 1) := by decide +kernel
theorem dX12_tryOf_8 : decode cX12_tryOf 8 = .ok (.bipush 6, 2) := by decide +kernel
theorem dX12_tryOf_10 : decode cX12_tryOf 10 = .ok (.istore 4, 2) := by decide +kernel
theorem dX12_tryOf_12 : decode cX12_tryOf 12 = .ok (.iconst 0, 1) := by decide +kernel
theorem dX12_tryOf_13 : decode cX12_tryOf 13 = .ok (.istore 5, 2) := by decide +kernel
theorem dX12_tryOf_15 : decode cX12_tryOf 15 = .ok (.iload 5, 2) := by decide +kernel
theorem dX12_tryOf_17 : decode cX12_tryOf 17 = .ok (.bipush 8, 2) := by decide +kernel
theorem dX12_tryOf_19 : decode cX12_tryOf 19 = .ok (.if_icmp .ge 170, 3) := by decide +kernel
theorem dX12_tryOf_22 : decode cX12_tryOf 22 = .ok (.iload_n 2, 1) := by decide +kernel
theorem dX12_tryOf_23 : decode cX12_tryOf 23 = .ok (.ifCond .eq 166, 3) := by decide +kernel
theorem dX12_tryOf_26 : decode cX12_tryOf 26 = .ok (.iconst 0, 1) := by decide +kernel
theorem dX12_tryOf_27 : decode cX12_tryOf 27 = .ok (.istore 6, 2) := by decide +kernel
theorem dX12_tryOf_29 : decode cX12_tryOf 29 = .ok (.iload 6, 2) := by decide +kernel
theorem dX12_tryOf_31 : decode cX12_tryOf 31 = .ok (.iconst 5, 1) := by decide +kernel
theorem dX12_tryOf_32 : decode cX12_tryOf 32 = .ok (.if_icmp .ge 27, 3) := by decide +kernel
theorem dX12_tryOf_35 : decode cX12_tryOf 35 = .ok (.aload_n 0, 1) := by decide +kernel
theorem dX12_tryOf_36 : decode cX12_tryOf 36 = .ok (.getfield 31, 3) := by decide +kernel
theorem dX12_tryOf_39 : decode cX12_tryOf 39 = .ok (.iload 6, 2) := by decide +kernel
theorem dX12_tryOf_41 : decode cX12_tryOf 41 = .ok (.aload_n 0, 1) := by decide +kernel
theorem dX12_tryOf_42 : decode cX12_tryOf 42 = .ok (.iload_n 1, 1) := by decide +kernel
theorem dX12_tryOf_43 : decode cX12_tryOf 43 = .ok (.iload 6, 2) := by decide +kernel
theorem dX12_tryOf_45 : decode cX12_tryOf 45 = .ok (.iload 5, 2) := by decide +kernel
theorem dX12_tryOf_47 : decode cX12_tryOf 47 = .ok (.bipush 6, 2) := by decide +kernel
theorem dX12_tryOf_49 : decode cX12_tryOf 49 = .ok (.invokevirtual 260, 3) := by decide +kernel
theorem dX12_tryOf_52 : decode cX12_tryOf 52 = .ok (.iastore, 1) := by decide +kernel
theorem dX12_tryOf_53 : decode cX12_tryOf 53 = .ok (.iinc 6 1, 3) := by decide +kernel
theorem dX12_tryOf_56 : decode cX12_tryOf 56 = .ok (.goto (-27), 3) := by decide +kernel
theorem dX12_tryOf_59 : decode cX12_tryOf 59 = .ok (.iconst 0, 1) := by decide +kernel
theorem dX12_tryOf_60 : decode cX12_tryOf 60 = .ok (.istore 6, 2) := by decide +kernel
theorem dX12_tryOf_62 : decode cX12_tryOf 62 = .ok (.iconst 0, 1) := by decide +kernel
theorem dX12_tryOf_63 : decode cX12_tryOf 63 = .ok (.istore 7, 2) := by decide +kernel
theorem dX12_tryOf_65 : decode cX12_tryOf 65 = .ok (.iload 7, 2) := by decide +kernel
theorem dX12_tryOf_67 : decode cX12_tryOf 67 = .ok (.iconst 5, 1) := by decide +kernel
theorem dX12_tryOf_68 : decode cX12_tryOf 68 = .ok (.if_icmp .ge 85, 3) := by decide +kernel
theorem dX12_tryOf_71 : decode cX12_tryOf 71 = .ok (.iconst 0, 1) := by decide +kernel
theorem dX12_tryOf_72 : decode cX12_tryOf 72 = .ok (.istore 8, 2) := by decide +kernel
theorem dX12_tryOf_74 : decode cX12_tryOf 74 = .ok (.iconst 0, 1) := by decide +kernel
theorem dX12_tryOf_75 : decode cX12_tryOf 75 = .ok (.istore 9, 2) := by decide +kernel
theorem dX12_tryOf_77 : decode cX12_tryOf 77 = .ok (.iload 9, 2) := by decide +kernel
theorem dX12_tryOf_79 : decode cX12_tryOf 79 = .ok (.iconst 5, 1) := by decide +kernel
theorem dX12_tryOf_80 : decode cX12_tryOf 80 = .ok (.if_icmp .ge 41, 3) := by decide +kernel
theorem dX12_tryOf_83 : decode cX12_tryOf 83 = .ok (.iload 8, 2) := by decide +kernel
theorem dX12_tryOf_85 : decode cX12_tryOf 85 = .ok (.aload_n 0, 1) := by decide +kernel
theorem dX12_tryOf_86 : decode cX12_tryOf 86 = .ok (.getfield 31, 3) := by decide +kernel
theorem dX12_tryOf_89 : decode cX12_tryOf 89 = .ok (.iload 9, 2) := by decide +kernel
theorem dX12_tryOf_91 : decode cX12_tryOf 91 = .ok (.iaload, 1) := by decide +kernel
theorem dX12_tryOf_92 : decode cX12_tryOf 92 = .ok (.aload_n 0, 1) := by decide +kernel
theorem dX12_tryOf_93 : decode cX12_tryOf 93 = .ok (.getfield 31, 3) := by decide +kernel
theorem dX12_tryOf_96 : decode cX12_tryOf 96 = .ok (.iload 7, 2) := by decide +kernel
theorem dX12_tryOf_98 : decode cX12_tryOf 98 = .ok (.iaload, 1) := by decide +kernel
theorem dX12_tryOf_99 : decode cX12_tryOf 99 = .ok (.if_icmp .ne 12, 3) := by decide +kernel
theorem dX12_tryOf_102 : decode cX12_tryOf 102 = .ok (.iload_n 2, 1) := by decide +kernel
theorem dX12_tryOf_103 : decode cX12_tryOf 103 = .ok (.iload 9, 2) := by decide +kernel
theorem dX12_tryOf_105 : decode cX12_tryOf 105 = .ok (.ishr, 1) := by decide +kernel
theorem dX12_tryOf_106 : decode cX12_tryOf 106 = .ok (.iconst 1, 1) := by decide +kernel
theorem dX12_tryOf_107 : decode cX12_tryOf 107 = .ok (.iand, 1) := by decide +kernel
theorem dX12_tryOf_108 : decode cX12_tryOf 108 = .ok (.goto 4, 3) := by decide +kernel
theorem dX12_tryOf_111 : decode cX12_tryOf 111 = .ok (.iconst 0, 1) := by decide +kernel
theorem dX12_tryOf_112 : decode cX12_tryOf 112 = .ok (.iadd, 1) := by decide +kernel
theorem dX12_tryOf_113 : decode cX12_tryOf 113 = .ok (.istore 8, 2) := by decide +kernel
theorem dX12_tryOf_115 : decode cX12_tryOf 115 = .ok (.iinc 9 1, 3) := by decide +kernel
theorem dX12_tryOf_118 : decode cX12_tryOf 118 = .ok (.goto (-41), 3) := by decide +kernel
theorem dX12_tryOf_121 : decode cX12_tryOf 121 = .ok (.iload_n 2, 1) := by decide +kernel
theorem dX12_tryOf_122 : decode cX12_tryOf 122 = .ok (.iload 7, 2) := by decide +kernel
theorem dX12_tryOf_124 : decode cX12_tryOf 124 = .ok (.ishr, 1) := by decide +kernel
theorem dX12_tryOf_125 : decode cX12_tryOf 125 = .ok (.iconst 1, 1) := by decide +kernel
theorem dX12_tryOf_126 : decode cX12_tryOf 126 = .ok (.iand, 1) := by decide +kernel
theorem dX12_tryOf_127 : decode cX12_tryOf 127 = .ok (.iconst 1, 1) := by decide +kernel
theorem dX12_tryOf_128 : decode cX12_tryOf 128 = .ok (.if_icmp .ne 15, 3) := by decide +kernel
theorem dX12_tryOf_131 : decode cX12_tryOf 131 = .ok (.iload 8, 2) := by decide +kernel
theorem dX12_tryOf_133 : decode cX12_tryOf 133 = .ok (.iload 6, 2) := by decide +kernel
theorem dX12_tryOf_135 : decode cX12_tryOf 135 = .ok (.if_icmp .le 8, 3) := by decide +kernel
theorem dX12_tryOf_138 : decode cX12_tryOf 138 = .ok (.iload 8, 2) := by decide +kernel
theorem dX12_tryOf_140 : decode cX12_tryOf 140 = .ok (.goto 5, 3) := by decide +kernel
theorem dX12_tryOf_143 : decode cX12_tryOf 143 = .ok (.iload 6, 2) := by decide +kernel
theorem dX12_tryOf_145 : decode cX12_tryOf 145 = .ok (.istore 6, 2) := by decide +kernel
theorem dX12_tryOf_147 : decode cX12_tryOf 147 = .ok (.iinc 7 1, 3) := by decide +kernel
theorem dX12_tryOf_150 : decode cX12_tryOf 150 = .ok (.goto (-85), 3) := by decide +kernel
theorem dX12_tryOf_153 : decode cX12_tryOf 153 = .ok (.iload 6, 2) := by decide +kernel
theorem dX12_tryOf_155 : decode cX12_tryOf 155 = .ok (.iload 4, 2) := by decide +kernel
theorem dX12_tryOf_157 : decode cX12_tryOf 157 = .ok (.if_icmp .ge 8, 3) := by decide +kernel
theorem dX12_tryOf_160 : decode cX12_tryOf 160 = .ok (.iload 5, 2) := by decide +kernel
theorem dX12_tryOf_162 : decode cX12_tryOf 162 = .ok (.goto 4, 3) := by decide +kernel
theorem dX12_tryOf_165 : decode cX12_tryOf 165 = .ok (.iload_n 3, 1) := by decide +kernel
theorem dX12_tryOf_166 : decode cX12_tryOf 166 = .ok (.istore_n 3, 1) := by decide +kernel
theorem dX12_tryOf_167 : decode cX12_tryOf 167 = .ok (.iload 6, 2) := by decide +kernel
theorem dX12_tryOf_169 : decode cX12_tryOf 169 = .ok (.iload 4, 2) := by decide +kernel
theorem dX12_tryOf_171 : decode cX12_tryOf 171 = .ok (.if_icmp .ge 8, 3) := by decide +kernel
theorem dX12_tryOf_174 : decode cX12_tryOf 174 = .ok (.iload 6, 2) := by decide +kernel
theorem dX12_tryOf_176 : decode cX12_tryOf 176 = .ok (.goto 5, 3) := by decide +kernel
theorem dX12_tryOf_179 : decode cX12_tryOf 179 = .ok (.iload 4, 2) := by decide +kernel
theorem dX12_tryOf_181 : decode cX12_tryOf 181 = .ok (.istore 4, 2) := by decide +kernel
theorem dX12_tryOf_183 : decode cX12_tryOf 183 = .ok (.iinc 5 1, 3) := by decide +kernel
theorem dX12_tryOf_186 : decode cX12_tryOf 186 = .ok (.goto (-171), 3) := by decide +kernel
theorem dX12_tryOf_189 : decode cX12_tryOf 189 = .ok (.iload_n 3, 1) := by decide +kernel
theorem dX12_tryOf_190 : decode cX12_tryOf 190 = .ok (.ireturn, 1) := by decide +kernel
theorem dX12_draw_0 : decode cX12_draw 0 = .ok (.aload_n 0, 1) := by decide +kernel
theorem dX12_draw_1 : decode cX12_draw 1 = .ok (.ldc2_w 263, 3) := by decide +kernel
theorem dX12_draw_4 : decode cX12_draw 4 = .ok (.aload_n 0, 1) := by decide +kernel
theorem dX12_draw_5 : decode cX12_draw 5 = .ok (.getfield 265, 3) := by decide +kernel
theorem dX12_draw_8 : decode cX12_draw 8 = .ok (.i2l, 1) := by decide +kernel
theorem dX12_draw_9 : decode cX12_draw 9 = .ok (.lmul, 1) := by decide +kernel
theorem dX12_draw_10 : decode cX12_draw 10 = .ok (.ldc2_w 268, 3) := by decide +kernel
theorem dX12_draw_13 : decode cX12_draw 13 = .ok (.ladd, 1) := by decide +kernel
theorem dX12_draw_14 : decode cX12_draw 14 = .ok (.ldc2_w 270, 3) := by decide +kernel
theorem dX12_draw_17 : decode cX12_draw 17 = .ok (.land, 1) := by decide +kernel
theorem dX12_draw_18 : decode cX12_draw 18 = .ok (.l2i, 1) := by decide +kernel
theorem dX12_draw_19 : decode cX12_draw 19 = .ok (.putfield 265, 3) := by decide +kernel
theorem dX12_draw_22 : decode cX12_draw 22 = .ok (.aload_n 0, 1) := by decide +kernel
theorem dX12_draw_23 : decode cX12_draw 23 = .ok (.getfield 265, 3) := by decide +kernel
theorem dX12_draw_26 : decode cX12_draw 26 = .ok (.ldc_w 272, 3) := by decide +kernel
theorem dX12_draw_29 : decode cX12_draw 29 = .ok (.idiv, 1) := by decide +kernel
theorem dX12_draw_30 : decode cX12_draw 30 = .ok (.iload_n 1, 1) := by decide +kernel
theorem dX12_draw_31 : decode cX12_draw 31 = .ok (.irem, 1) := by decide +kernel
theorem dX12_draw_32 : decode cX12_draw 32 = .ok (.ireturn, 1) := by decide +kernel
theorem dX12_onTable_0 : decode cX12_onTable 0 = .ok (.iconst 0, 1) := by decide +kernel
theorem dX12_onTable_1 : decode cX12_onTable 1 = .ok (.istore_n 2, 1) := by decide +kernel
theorem dX12_onTable_2 : decode cX12_onTable 2 = .ok (.iconst 1, 1) := by decide +kernel
theorem dX12_onTable_3 : decode cX12_onTable 3 = .ok (.istore_n 3, 1) := by decide +kernel
theorem dX12_onTable_4 : decode cX12_onTable 4 = .ok (.iload_n 3, 1) := by decide +kernel
theorem dX12_onTable_5 : decode cX12_onTable 5 = .ok (.aload_n 0, 1) := by decide +kernel
theorem dX12_onTable_6 : decode cX12_onTable 6 = .ok (.getfield 90, 3) := by decide +kernel
theorem dX12_onTable_9 : decode cX12_onTable 9 = .ok (.if_icmp .gt 24, 3) := by decide +kernel
theorem dX12_onTable_12 : decode cX12_onTable 12 = .ok (.iload_n 2, 1) := by decide +kernel
theorem dX12_onTable_13 : decode cX12_onTable 13 = .ok (.aload_n 1, 1) := by decide +kernel
theorem dX12_onTable_14 : decode cX12_onTable 14 = .ok (.iload_n 3, 1) := by decide +kernel
theorem dX12_onTable_15 : decode cX12_onTable 15 = .ok (.iaload, 1) := by decide +kernel
theorem dX12_onTable_16 : decode cX12_onTable 16 = .ok (.iconst (-1), 1) := by decide +kernel
theorem dX12_onTable_17 : decode cX12_onTable 17 = .ok (.if_icmp .ne 7, 3) := by decide +kernel
theorem dX12_onTable_20 : decode cX12_onTable 20 = .ok (.iconst 0, 1) := by decide +kernel
theorem dX12_onTable_21 : decode cX12_onTable 21 = .ok (.goto 4, 3) := by decide +kernel
theorem dX12_onTable_24 : decode cX12_onTable 24 = .ok (.iconst 1, 1) := by decide +kernel
theorem dX12_onTable_25 : decode cX12_onTable 25 = .ok (.iadd, 1) := by decide +kernel
theorem dX12_onTable_26 : decode cX12_onTable 26 = .ok (.istore_n 2, 1) := by decide +kernel
theorem dX12_onTable_27 : decode cX12_onTable 27 = .ok (.iinc 3 1, 3) := by decide +kernel
theorem dX12_onTable_30 : decode cX12_onTable 30 = .ok (.goto (-26), 3) := by decide +kernel
theorem dX12_onTable_33 : decode cX12_onTable 33 = .ok (.iload_n 2, 1) := by decide +kernel
theorem dX12_onTable_34 : decode cX12_onTable 34 = .ok (.ireturn, 1) := by decide +kernel
theorem dX12_frames_0 : decode cX12_frames 0 = .ok (.iload_n 1, 1) := by decide +kernel
theorem dX12_frames_1 : decode cX12_frames 1 = .ok (.i2l, 1) := by decide +kernel
theorem dX12_frames_2 : decode cX12_frames 2 = .ok (.lconst 1, 1) := by decide +kernel
theorem dX12_frames_3 : decode cX12_frames 3 = .ok (.ldc2_w 273, 3) := by decide +kernel
theorem dX12_frames_6 : decode cX12_frames 6 = .ok (.invokestatic 49, 3) := by decide +kernel
theorem dX12_frames_9 : decode cX12_frames 9 = .ok (.ifCond .eq 19, 3) := by decide +kernel
theorem dX12_frames_12 : decode cX12_frames 12 = .ok (.iload_n 2, 1) := by decide +kernel
theorem dX12_frames_13 : decode cX12_frames 13 = .ok (.ifCond .lt 15, 3) := by decide +kernel
theorem dX12_frames_16 : decode cX12_frames 16 = .ok (.iload_n 3, 1) := by decide +kernel
theorem dX12_frames_17 : decode cX12_frames 17 = .ok (.i2l, 1) := by decide +kernel
theorem dX12_frames_18 : decode cX12_frames 18 = .ok (.lconst 0, 1) := by decide +kernel
theorem dX12_frames_19 : decode cX12_frames 19 = .ok (.ldc2_w 196, 3) := by decide +kernel
theorem dX12_frames_22 : decode cX12_frames 22 = .ok (.invokestatic 49, 3) := by decide +kernel
theorem dX12_frames_25 : decode cX12_frames 25 = .ok (.ifCond .ne 6, 3) := by decide +kernel
theorem dX12_frames_28 : decode cX12_frames 28 = .ok (.bipush (-102), 2) := by decide +kernel
theorem dX12_frames_30 : decode cX12_frames 30 = .ok (.ireturn, 1) := by decide +kernel
theorem dX12_frames_31 : decode cX12_frames 31 = .ok (.aload_n 0, 1) := by decide +kernel
theorem dX12_frames_32 : decode cX12_frames 32 = .ok (.invokevirtual 111, 3) := by decide +kernel
theorem dX12_frames_35 : decode cX12_frames 35 = .ok (.ifCond .eq 6, 3) := by decide +kernel
theorem dX12_frames_38 : decode cX12_frames 38 = .ok (.bipush (-103), 2) := by decide +kernel
theorem dX12_frames_40 : decode cX12_frames 40 = .ok (.ireturn, 1) := by decide +kernel
theorem dX12_frames_41 : decode cX12_frames 41 = .ok (.aload_n 0, 1) := by decide +kernel
theorem dX12_frames_42 : decode cX12_frames 42 = .ok (.getfield 19, 3) := by decide +kernel
theorem dX12_frames_45 : decode cX12_frames 45 = .ok (.aload_n 0, 1) := by decide +kernel
theorem dX12_frames_46 : decode cX12_frames 46 = .ok (.getfield 22, 3) := by decide +kernel
theorem dX12_frames_49 : decode cX12_frames 49 = .ok (.invokestatic 206, 3) := by decide +kernel
theorem dX12_frames_52 : decode cX12_frames 52 = .ok (.aload_n 0, 1) := by decide +kernel
theorem dX12_frames_53 : decode cX12_frames 53 = .ok (.iload_n 2, 1) := by decide +kernel
theorem dX12_frames_54 : decode cX12_frames 54 = .ok (.putfield 265, 3) := by decide +kernel
theorem dX12_frames_57 : decode cX12_frames 57 = .ok (.sipush 1000, 3) := by decide +kernel
theorem dX12_frames_60 : decode cX12_frames 60 = .ok (.istore 4, 2) := by decide +kernel
theorem dX12_frames_62 : decode cX12_frames 62 = .ok (.iconst 0, 1) := by decide +kernel
theorem dX12_frames_63 : decode cX12_frames 63 = .ok (.istore 5, 2) := by decide +kernel
theorem dX12_frames_65 : decode cX12_frames 65 = .ok (.iload 5, 2) := by decide +kernel
theorem dX12_frames_67 : decode cX12_frames 67 = .ok (.iload_n 1, 1) := by decide +kernel
theorem dX12_frames_68 : decode cX12_frames 68 = .ok (.if_icmp .ge 53, 3) := by decide +kernel
theorem dX12_frames_71 : decode cX12_frames 71 = .ok (.aload_n 0, 1) := by decide +kernel
theorem dX12_frames_72 : decode cX12_frames 72 = .ok (.bipush 8, 2) := by decide +kernel
theorem dX12_frames_74 : decode cX12_frames 74 = .ok (.invokevirtual 275, 3) := by decide +kernel
theorem dX12_frames_77 : decode cX12_frames 77 = .ok (.istore 6, 2) := by decide +kernel
theorem dX12_frames_79 : decode cX12_frames 79 = .ok (.aload_n 0, 1) := by decide +kernel
theorem dX12_frames_80 : decode cX12_frames 80 = .ok (.bipush 9, 2) := by decide +kernel
theorem dX12_frames_82 : decode cX12_frames 82 = .ok (.invokevirtual 275, 3) := by decide +kernel
theorem dX12_frames_85 : decode cX12_frames 85 = .ok (.iconst 1, 1) := by decide +kernel
theorem dX12_frames_86 : decode cX12_frames 86 = .ok (.iadd, 1) := by decide +kernel
theorem dX12_frames_87 : decode cX12_frames 87 = .ok (.istore 7, 2) := by decide +kernel
theorem dX12_frames_89 : decode cX12_frames 89 = .ok (.aload_n 0, 1) := by decide +kernel
theorem dX12_frames_90 : decode cX12_frames 90 = .ok (.iconst 3, 1) := by decide +kernel
theorem dX12_frames_91 : decode cX12_frames 91 = .ok (.invokevirtual 275, 3) := by decide +kernel
theorem dX12_frames_94 : decode cX12_frames 94 = .ok (.istore 8, 2) := by decide +kernel
theorem dX12_frames_96 : decode cX12_frames 96 = .ok (.iload 4, 2) := by decide +kernel
theorem dX12_frames_98 : decode cX12_frames 98 = .ok (.aload_n 0, 1) := by decide +kernel
theorem dX12_frames_99 : decode cX12_frames 99 = .ok (.aload_n 0, 1) := by decide +kernel
theorem dX12_frames_100 : decode cX12_frames 100 = .ok (.getfield 22, 3) := by decide +kernel
theorem dX12_frames_103 : decode cX12_frames 103 = .ok (.iload 6, 2) := by decide +kernel
theorem dX12_frames_105 : decode cX12_frames 105 = .ok (.iload 7, 2) := by decide +kernel
theorem dX12_frames_107 : decode cX12_frames 107 = .ok (.iload 8, 2) := by decide +kernel
theorem dX12_frames_109 : decode cX12_frames 109 = .ok (.invokevirtual 202, 3) := by decide +kernel
theorem dX12_frames_112 : decode cX12_frames 112 = .ok (.iadd, 1) := by decide +kernel
theorem dX12_frames_113 : decode cX12_frames 113 = .ok (.istore 4, 2) := by decide +kernel
theorem dX12_frames_115 : decode cX12_frames 115 = .ok (.iinc 5 1, 3) := by decide +kernel
theorem dX12_frames_118 : decode cX12_frames 118 = .ok (.goto (-53), 3) := by decide +kernel
theorem dX12_frames_121 : decode cX12_frames 121 = .ok (.iload_n 3, 1) := by decide +kernel
theorem dX12_frames_122 : decode cX12_frames 122 = .ok (.ifCond .ne 8, 3) := by decide +kernel
theorem dX12_frames_125 : decode cX12_frames 125 = .ok (.iload 4, 2) := by decide +kernel
theorem dX12_frames_127 : decode cX12_frames 127 = .ok (.goto 23, 3) := by decide +kernel
theorem dX12_frames_130 : decode cX12_frames 130 = .ok (.iload_n 3, 1) := by decide +kernel
theorem dX12_frames_131 : decode cX12_frames 131 = .ok (.iconst 1, 1) := by decide +kernel
theorem dX12_frames_132 : decode cX12_frames 132 = .ok (.if_icmp .ne 14, 3) := by decide +kernel
theorem dX12_frames_135 : decode cX12_frames 135 = .ok (.aload_n 0, 1) := by decide +kernel
theorem dX12_frames_136 : decode cX12_frames 136 = .ok (.aload_n 0, 1) := by decide +kernel
theorem dX12_frames_137 : decode cX12_frames 137 = .ok (.getfield 22, 3) := by decide +kernel
theorem dX12_frames_140 : decode cX12_frames 140 = .ok (.invokevirtual 278, 3) := by decide +kernel
theorem dX12_frames_143 : decode cX12_frames 143 = .ok (.goto 7, 3) := by decide +kernel
theorem dX12_frames_146 : decode cX12_frames 146 = .ok (.aload_n 0, 1) := by decide +kernel
theorem dX12_frames_147 : decode cX12_frames 147 = .ok (.getfield 265, 3) := by decide +kernel
theorem dX12_frames_150 : decode cX12_frames 150 = .ok (.ireturn, 1) := by decide +kernel
theorem dX12_image_0 : decode cX12_image 0 = .ok (.aload_n 0, 1) := by decide +kernel
theorem dX12_image_1 : decode cX12_image 1 = .ok (.invokevirtual 111, 3) := by decide +kernel
theorem dX12_image_4 : decode cX12_image 4 = .ok (.ifCond .eq 6, 3) := by decide +kernel
theorem dX12_image_7 : decode cX12_image 7 = .ok (.bipush (-103), 2) := by decide +kernel
theorem dX12_image_9 : decode cX12_image 9 = .ok (.ireturn, 1) := by decide +kernel
theorem dX12_image_10 : decode cX12_image 10 = .ok (.aload_n 0, 1) := by decide +kernel
theorem dX12_image_11 : decode cX12_image 11 = .ok (.getfield 13, 3) := by decide +kernel
theorem dX12_image_14 : decode cX12_image 14 = .ok (.aload_n 0, 1) := by decide +kernel
theorem dX12_image_15 : decode cX12_image 15 = .ok (.getfield 34, 3) := by decide +kernel
theorem dX12_image_18 : decode cX12_image 18 = .ok (.invokestatic 206, 3) := by decide +kernel
theorem dX12_image_21 : decode cX12_image 21 = .ok (.aload_n 0, 1) := by decide +kernel
theorem dX12_image_22 : decode cX12_image 22 = .ok (.getfield 19, 3) := by decide +kernel
theorem dX12_image_25 : decode cX12_image 25 = .ok (.aload_n 0, 1) := by decide +kernel
theorem dX12_image_26 : decode cX12_image 26 = .ok (.getfield 37, 3) := by decide +kernel
theorem dX12_image_29 : decode cX12_image 29 = .ok (.invokestatic 206, 3) := by decide +kernel
theorem dX12_image_32 : decode cX12_image 32 = .ok (.aload_n 0, 1) := by decide +kernel
theorem dX12_image_33 : decode cX12_image 33 = .ok (.getfield 28, 3) := by decide +kernel
theorem dX12_image_36 : decode cX12_image 36 = .ok (.aload_n 0, 1) := by decide +kernel
theorem dX12_image_37 : decode cX12_image 37 = .ok (.getfield 40, 3) := by decide +kernel
theorem dX12_image_40 : decode cX12_image 40 = .ok (.invokestatic 206, 3) := by decide +kernel
theorem dX12_image_43 : decode cX12_image 43 = .ok (.aload_n 0, 1) := by decide +kernel
theorem dX12_image_44 : decode cX12_image 44 = .ok (.aload_n 0, 1) := by decide +kernel
theorem dX12_image_45 : decode cX12_image 45 = .ok (.getfield 96, 3) := by decide +kernel
theorem dX12_image_48 : decode cX12_image 48 = .ok (.putfield 281, 3) := by decide +kernel
theorem dX12_image_51 : decode cX12_image 51 = .ok (.aload_n 0, 1) := by decide +kernel
theorem dX12_image_52 : decode cX12_image 52 = .ok (.aload_n 0, 1) := by decide +kernel
theorem dX12_image_53 : decode cX12_image 53 = .ok (.getfield 99, 3) := by decide +kernel
theorem dX12_image_56 : decode cX12_image 56 = .ok (.putfield 284, 3) := by decide +kernel
theorem dX12_image_59 : decode cX12_image 59 = .ok (.aload_n 0, 1) := by decide +kernel
theorem dX12_image_60 : decode cX12_image 60 = .ok (.aload_n 0, 1) := by decide +kernel
theorem dX12_image_61 : decode cX12_image 61 = .ok (.getfield 102, 3) := by decide +kernel
theorem dX12_image_64 : decode cX12_image 64 = .ok (.putfield 287, 3) := by decide +kernel
theorem dX12_image_67 : decode cX12_image 67 = .ok (.aload_n 0, 1) := by decide +kernel
theorem dX12_image_68 : decode cX12_image 68 = .ok (.aload_n 0, 1) := by decide +kernel
theorem dX12_image_69 : decode cX12_image 69 = .ok (.getfield 105, 3) := by decide +kernel
theorem dX12_image_72 : decode cX12_image 72 = .ok (.putfield 290, 3) := by decide +kernel
theorem dX12_image_75 : decode cX12_image 75 = .ok (.aload_n 0, 1) := by decide +kernel
theorem dX12_image_76 : decode cX12_image 76 = .ok (.aload_n 0, 1) := by decide +kernel
theorem dX12_image_77 : decode cX12_image 77 = .ok (.getfield 108, 3) := by decide +kernel
theorem dX12_image_80 : decode cX12_image 80 = .ok (.putfield 43, 3) := by decide +kernel
theorem dX12_image_83 : decode cX12_image 83 = .ok (.aload_n 0, 1) := by decide +kernel
theorem dX12_image_84 : decode cX12_image 84 = .ok (.getfield 99, 3) := by decide +kernel
theorem dX12_image_87 : decode cX12_image 87 = .ok (.ireturn, 1) := by decide +kernel
theorem dX12_restore_0 : decode cX12_restore 0 = .ok (.aload_n 0, 1) := by decide +kernel
theorem dX12_restore_1 : decode cX12_restore 1 = .ok (.getfield 43, 3) := by decide +kernel
theorem dX12_restore_4 : decode cX12_restore 4 = .ok (.aload_n 0, 1) := by decide +kernel
theorem dX12_restore_5 : decode cX12_restore 5 = .ok (.getfield 108, 3) := by decide +kernel
theorem dX12_restore_8 : decode cX12_restore 8 = .ok (.if_icmp .eq 6, 3) := by decide +kernel
theorem dX12_restore_11 : decode cX12_restore 11 = .ok (.bipush (-103), 2) := by decide +kernel
theorem dX12_restore_13 : decode cX12_restore 13 = .ok (.ireturn, 1) := by decide +kernel
theorem dX12_restore_14 : decode cX12_restore 14 = .ok (.aload_n 0, 1) := by decide +kernel
theorem dX12_restore_15 : decode cX12_restore 15 = .ok (.getfield 34, 3) := by decide +kernel
theorem dX12_restore_18 : decode cX12_restore 18 = .ok (.aload_n 0, 1) := by decide +kernel
theorem dX12_restore_19 : decode cX12_restore 19 = .ok (.getfield 13, 3) := by decide +kernel
theorem dX12_restore_22 : decode cX12_restore 22 = .ok (.invokestatic 206, 3) := by decide +kernel
theorem dX12_restore_25 : decode cX12_restore 25 = .ok (.aload_n 0, 1) := by decide +kernel
theorem dX12_restore_26 : decode cX12_restore 26 = .ok (.getfield 37, 3) := by decide +kernel
theorem dX12_restore_29 : decode cX12_restore 29 = .ok (.aload_n 0, 1) := by decide +kernel
theorem dX12_restore_30 : decode cX12_restore 30 = .ok (.getfield 19, 3) := by decide +kernel
theorem dX12_restore_33 : decode cX12_restore 33 = .ok (.invokestatic 206, 3) := by decide +kernel
theorem dX12_restore_36 : decode cX12_restore 36 = .ok (.aload_n 0, 1) := by decide +kernel
theorem dX12_restore_37 : decode cX12_restore 37 = .ok (.getfield 40, 3) := by decide +kernel
theorem dX12_restore_40 : decode cX12_restore 40 = .ok (.aload_n 0, 1) := by decide +kernel
theorem dX12_restore_41 : decode cX12_restore 41 = .ok (.getfield 28, 3) := by decide +kernel
theorem dX12_restore_44 : decode cX12_restore 44 = .ok (.invokestatic 206, 3) := by decide +kernel
theorem dX12_restore_47 : decode cX12_restore 47 = .ok (.aload_n 0, 1) := by decide +kernel
theorem dX12_restore_48 : decode cX12_restore 48 = .ok (.aload_n 0, 1) := by decide +kernel
theorem dX12_restore_49 : decode cX12_restore 49 = .ok (.getfield 281, 3) := by decide +kernel
theorem dX12_restore_52 : decode cX12_restore 52 = .ok (.putfield 96, 3) := by decide +kernel
theorem dX12_restore_55 : decode cX12_restore 55 = .ok (.aload_n 0, 1) := by decide +kernel
theorem dX12_restore_56 : decode cX12_restore 56 = .ok (.aload_n 0, 1) := by decide +kernel
theorem dX12_restore_57 : decode cX12_restore 57 = .ok (.getfield 284, 3) := by decide +kernel
theorem dX12_restore_60 : decode cX12_restore 60 = .ok (.putfield 99, 3) := by decide +kernel
theorem dX12_restore_63 : decode cX12_restore 63 = .ok (.aload_n 0, 1) := by decide +kernel
theorem dX12_restore_64 : decode cX12_restore 64 = .ok (.aload_n 0, 1) := by decide +kernel
theorem dX12_restore_65 : decode cX12_restore 65 = .ok (.getfield 287, 3) := by decide +kernel
theorem dX12_restore_68 : decode cX12_restore 68 = .ok (.putfield 102, 3) := by decide +kernel
theorem dX12_restore_71 : decode cX12_restore 71 = .ok (.aload_n 0, 1) := by decide +kernel
theorem dX12_restore_72 : decode cX12_restore 72 = .ok (.aload_n 0, 1) := by decide +kernel
theorem dX12_restore_73 : decode cX12_restore 73 = .ok (.getfield 290, 3) := by decide +kernel
theorem dX12_restore_76 : decode cX12_restore 76 = .ok (.putfield 105, 3) := by decide +kernel
theorem dX12_restore_79 : decode cX12_restore 79 = .ok (.aload_n 0, 1) := by decide +kernel
theorem dX12_restore_80 : decode cX12_restore 80 = .ok (.getfield 99, 3) := by decide +kernel
theorem dX12_restore_83 : decode cX12_restore 83 = .ok (.ireturn, 1) := by decide +kernel
theorem dX12_worthAll_0 : decode cX12_worthAll 0 = .ok (.iconst 0, 1) := by decide +kernel
theorem dX12_worthAll_1 : decode cX12_worthAll 1 = .ok (.istore_n 1, 1) := by decide +kernel
theorem dX12_worthAll_2 : decode cX12_worthAll 2 = .ok (.iconst 1, 1) := by decide +kernel
theorem dX12_worthAll_3 : decode cX12_worthAll 3 = .ok (.istore_n 2, 1) := by decide +kernel
theorem dX12_worthAll_4 : decode cX12_worthAll 4 = .ok (.iload_n 2, 1) := by decide +kernel
theorem dX12_worthAll_5 : decode cX12_worthAll 5 = .ok (.aload_n 0, 1) := by decide +kernel
theorem dX12_worthAll_6 : decode cX12_worthAll 6 = .ok (.getfield 90, 3) := by decide +kernel
theorem dX12_worthAll_9 : decode cX12_worthAll 9 = .ok (.if_icmp .gt 32, 3) := by decide +kernel
theorem dX12_worthAll_12 : decode cX12_worthAll 12 = .ok (.iload_n 1, 1) := by decide +kernel
theorem dX12_worthAll_13 : decode cX12_worthAll 13 = .ok (.aload_n 0, 1) := by decide +kernel
theorem dX12_worthAll_14 : decode cX12_worthAll 14 = .ok (.getfield 19, 3) := by decide +kernel
theorem dX12_worthAll_17 : decode cX12_worthAll 17 = .ok (.iload_n 2, 1) := by decide +kernel
theorem dX12_worthAll_18 : decode cX12_worthAll 18 = .ok (.iaload, 1) := by decide +kernel
theorem dX12_worthAll_19 : decode cX12_worthAll 19 = .ok (.iconst (-1), 1) := by decide +kernel
theorem dX12_worthAll_20 : decode cX12_worthAll 20 = .ok (.if_icmp .ne 7, 3) := by decide +kernel
theorem dX12_worthAll_23 : decode cX12_worthAll 23 = .ok (.iconst 0, 1) := by decide +kernel
theorem dX12_worthAll_24 : decode cX12_worthAll 24 = .ok (.goto 9, 3) := by decide +kernel
theorem dX12_worthAll_27 : decode cX12_worthAll 27 = .ok (.aload_n 0, 1) := by decide +kernel
theorem dX12_worthAll_28 : decode cX12_worthAll 28 = .ok (.getfield 16, 3) := by decide +kernel
theorem dX12_worthAll_31 : decode cX12_worthAll 31 = .ok (.iload_n 2, 1) := by decide +kernel
theorem dX12_worthAll_32 : decode cX12_worthAll 32 = .ok (.iaload, 1) := by decide +kernel
theorem dX12_worthAll_33 : decode cX12_worthAll 33 = .ok (.iadd, 1) := by decide +kernel
theorem dX12_worthAll_34 : decode cX12_worthAll 34 = .ok (.istore_n 1, 1) := by decide +kernel
theorem dX12_worthAll_35 : decode cX12_worthAll 35 = .ok (.iinc 2 1, 3) := by decide +kernel
theorem dX12_worthAll_38 : decode cX12_worthAll 38 = .ok (.goto (-34), 3) := by decide +kernel
theorem dX12_worthAll_41 : decode cX12_worthAll 41 = .ok (.iload_n 1, 1) := by decide +kernel
theorem dX12_worthAll_42 : decode cX12_worthAll 42 = .ok (.ireturn, 1) := by decide +kernel
theorem dX12_seenByWhite_0 : decode cX12_seenByWhite 0 = .ok (.iconst 0, 1) := by decide +kernel
theorem dX12_seenByWhite_1 : decode cX12_seenByWhite 1 = .ok (.istore_n 1, 1) := by decide +kernel
theorem dX12_seenByWhite_2 : decode cX12_seenByWhite 2 = .ok (.iconst 0, 1) := by decide +kernel
theorem dX12_seenByWhite_3 : decode cX12_seenByWhite 3 = .ok (.istore_n 2, 1) := by decide +kernel
theorem dX12_seenByWhite_4 : decode cX12_seenByWhite 4 = .ok (.iconst 0, 1) := by decide +kernel
theorem dX12_seenByWhite_5 : decode cX12_seenByWhite 5 = .ok (.istore_n 3, 1) := by decide +kernel
theorem dX12_seenByWhite_6 : decode cX12_seenByWhite 6 = .ok (.iload_n 3, 1) := by decide +kernel
theorem dX12_seenByWhite_7 : decode cX12_seenByWhite 7 = .ok (.bipush 8, 2) := by decide +kernel
theorem dX12_seenByWhite_9 : decode cX12_seenByWhite 9 = .ok (.if_icmp .ge 61, 3) := by decide +kernel
theorem dX12_seenByWhite_12 : decode cX12_seenByWhite 12 = .ok (.aload_n 0, 1) := by decide +kernel
theorem dX12_seenByWhite_13 : decode cX12_seenByWhite 13 = .ok (.invokevirtual 111, 3) := by decide +kernel
theorem dX12_seenByWhite_16 : decode cX12_seenByWhite 16 = .ok (.ifCond .ne 54, 3) := by decide +kernel
theorem dX12_seenByWhite_19 : decode cX12_seenByWhite 19 = .ok (.aload_n 0, 1) := by decide +kernel
theorem dX12_seenByWhite_20 : decode cX12_seenByWhite 20 = .ok (.iload_n 3, 1) := by decide +kernel
theorem dX12_seenByWhite_21 : decode cX12_seenByWhite 21 = .ok (.invokevirtual 188, 3) := by decide +kernel
theorem dX12_seenByWhite_24 : decode cX12_seenByWhite 24 = .ok (.istore 4, 2) := by decide +kernel
theorem dX12_seenByWhite_26 : decode cX12_seenByWhite 26 = .ok (.iload_n 2, 1) := by decide +kernel
theorem dX12_seenByWhite_27 : decode cX12_seenByWhite 27 = .ok (.iload 4, 2) := by decide +kernel
theorem dX12_seenByWhite_29 : decode cX12_seenByWhite 29 = .ok (.iconst (-1), 1) := by decide +kernel
theorem dX12_seenByWhite_30 : decode cX12_seenByWhite 30 = .ok (.if_icmp .ne 7, 3) := by decide +kernel
theorem dX12_seenByWhite_33 : decode cX12_seenByWhite 33 = .ok (.iconst 0, 1) := by decide +kernel
theorem dX12_seenByWhite_34 : decode cX12_seenByWhite 34 = .ok (.goto 11, 3) := by decide +kernel
theorem dX12_seenByWhite_37 : decode cX12_seenByWhite 37 = .ok (.iconst 1, 1) := by decide +kernel
theorem dX12_seenByWhite_38 : decode cX12_seenByWhite 38 = .ok (.iload_n 1, 1) := by decide +kernel
theorem dX12_seenByWhite_39 : decode cX12_seenByWhite 39 = .ok (.iload 4, 2) := by decide +kernel
theorem dX12_seenByWhite_41 : decode cX12_seenByWhite 41 = .ok (.ishr, 1) := by decide +kernel
theorem dX12_seenByWhite_42 : decode cX12_seenByWhite 42 = .ok (.iconst 1, 1) := by decide +kernel
theorem dX12_seenByWhite_43 : decode cX12_seenByWhite 43 = .ok (.iand, 1) := by decide +kernel
theorem dX12_seenByWhite_44 : decode cX12_seenByWhite 44 = .ok (.isub, 1) := by decide +kernel
theorem dX12_seenByWhite_45 : decode cX12_seenByWhite 45 = .ok (.iadd, 1) := by decide +kernel
theorem dX12_seenByWhite_46 : decode cX12_seenByWhite 46 = .ok (.istore_n 2, 1) := by decide +kernel
theorem dX12_seenByWhite_47 : decode cX12_seenByWhite 47 = .ok (.iload_n 1, 1) := by decide +kernel
theorem dX12_seenByWhite_48 : decode cX12_seenByWhite 48 = .ok (.iload 4, 2) := by decide +kernel
theorem dX12_seenByWhite_50 : decode cX12_seenByWhite 50 = .ok (.iconst (-1), 1) := by decide +kernel
theorem dX12_seenByWhite_51 : decode cX12_seenByWhite 51 = .ok (.if_icmp .ne 7, 3) := by decide +kernel
theorem dX12_seenByWhite_54 : decode cX12_seenByWhite 54 = .ok (.iconst 0, 1) := by decide +kernel
theorem dX12_seenByWhite_55 : decode cX12_seenByWhite 55 = .ok (.goto 7, 3) := by decide +kernel
theorem dX12_seenByWhite_58 : decode cX12_seenByWhite 58 = .ok (.iconst 1, 1) := by decide +kernel
theorem dX12_seenByWhite_59 : decode cX12_seenByWhite 59 = .ok (.iload 4, 2) := by decide +kernel
theorem dX12_seenByWhite_61 : decode cX12_seenByWhite 61 = .ok (.ishl, 1) := by decide +kernel
theorem dX12_seenByWhite_62 : decode cX12_seenByWhite 62 = .ok (.ior, 1) := by decide +kernel
theorem dX12_seenByWhite_63 : decode cX12_seenByWhite 63 = .ok (.istore_n 1, 1) := by decide +kernel
theorem dX12_seenByWhite_64 : decode cX12_seenByWhite 64 = .ok (.iinc 3 1, 3) := by decide +kernel
theorem dX12_seenByWhite_67 : decode cX12_seenByWhite 67 = .ok (.goto (-61), 3) := by decide +kernel
theorem dX12_seenByWhite_70 : decode cX12_seenByWhite 70 = .ok (.iload_n 2, 1) := by decide +kernel
theorem dX12_seenByWhite_71 : decode cX12_seenByWhite 71 = .ok (.ireturn, 1) := by decide +kernel
theorem dX12_countOf_0 : decode cX12_countOf 0 = .ok (.iload_n 1, 1) := by decide +kernel
theorem dX12_countOf_1 : decode cX12_countOf 1 = .ok (.tableswitch 151 0 13 #[71, 76, 85, 90, 99, 104, 109, 114, 121, 126, 131, 136, 141, 146], 71) := by decide +kernel
theorem dX12_countOf_72 : decode cX12_countOf 72 = .ok (.aload_n 0, 1) := by decide +kernel
theorem dX12_countOf_73 : decode cX12_countOf 73 = .ok (.getfield 90, 3) := by decide +kernel
theorem dX12_countOf_76 : decode cX12_countOf 76 = .ok (.ireturn, 1) := by decide +kernel
theorem dX12_countOf_77 : decode cX12_countOf 77 = .ok (.aload_n 0, 1) := by decide +kernel
theorem dX12_countOf_78 : decode cX12_countOf 78 = .ok (.aload_n 0, 1) := by decide +kernel
theorem dX12_countOf_79 : decode cX12_countOf 79 = .ok (.getfield 19, 3) := by decide +kernel
theorem dX12_countOf_82 : decode cX12_countOf 82 = .ok (.invokevirtual 278, 3) := by decide +kernel
theorem dX12_countOf_85 : decode cX12_countOf 85 = .ok (.ireturn, 1) := by decide +kernel
theorem dX12_countOf_86 : decode cX12_countOf 86 = .ok (.aload_n 0, 1) := by decide +kernel
theorem dX12_countOf_87 : decode cX12_countOf 87 = .ok (.invokevirtual 293, 3) := by decide +kernel
theorem dX12_countOf_90 : decode cX12_countOf 90 = .ok (.ireturn, 1) := by decide +kernel
theorem dX12_countOf_91 : decode cX12_countOf 91 = .ok (.aload_n 0, 1) := by decide +kernel
theorem dX12_countOf_92 : decode cX12_countOf 92 = .ok (.getfield 96, 3) := by decide +kernel
theorem dX12_countOf_95 : decode cX12_countOf 95 = .ok (.sipush 1000, 3) := by decide +kernel
theorem dX12_countOf_98 : decode cX12_countOf 98 = .ok (.iadd, 1) := by decide +kernel
theorem dX12_countOf_99 : decode cX12_countOf 99 = .ok (.ireturn, 1) := by decide +kernel
theorem dX12_countOf_100 : decode cX12_countOf 100 = .ok (.aload_n 0, 1) := by decide +kernel
theorem dX12_countOf_101 : decode cX12_countOf 101 = .ok (.getfield 99, 3) := by decide +kernel
theorem dX12_countOf_104 : decode cX12_countOf 104 = .ok (.ireturn, 1) := by decide +kernel
theorem dX12_countOf_105 : decode cX12_countOf 105 = .ok (.aload_n 0, 1) := by decide +kernel
theorem dX12_countOf_106 : decode cX12_countOf 106 = .ok (.getfield 102, 3) := by decide +kernel
theorem dX12_countOf_109 : decode cX12_countOf 109 = .ok (.ireturn, 1) := by decide +kernel
theorem dX12_countOf_110 : decode cX12_countOf 110 = .ok (.aload_n 0, 1) := by decide +kernel
theorem dX12_countOf_111 : decode cX12_countOf 111 = .ok (.invokevirtual 296, 3) := by decide +kernel
theorem dX12_countOf_114 : decode cX12_countOf 114 = .ok (.ireturn, 1) := by decide +kernel
theorem dX12_countOf_115 : decode cX12_countOf 115 = .ok (.aload_n 0, 1) := by decide +kernel
theorem dX12_countOf_116 : decode cX12_countOf 116 = .ok (.getfield 19, 3) := by decide +kernel
theorem dX12_countOf_119 : decode cX12_countOf 119 = .ok (.iconst 0, 1) := by decide +kernel
theorem dX12_countOf_120 : decode cX12_countOf 120 = .ok (.iaload, 1) := by decide +kernel
theorem dX12_countOf_121 : decode cX12_countOf 121 = .ok (.ireturn, 1) := by decide +kernel
theorem dX12_countOf_122 : decode cX12_countOf 122 = .ok (.aload_n 0, 1) := by decide +kernel
theorem dX12_countOf_123 : decode cX12_countOf 123 = .ok (.getfield 93, 3) := by decide +kernel
theorem dX12_countOf_126 : decode cX12_countOf 126 = .ok (.ireturn, 1) := by decide +kernel
theorem dX12_countOf_127 : decode cX12_countOf 127 = .ok (.aload_n 0, 1) := by decide +kernel
theorem dX12_countOf_128 : decode cX12_countOf 128 = .ok (.getfield 105, 3) := by decide +kernel
theorem dX12_countOf_131 : decode cX12_countOf 131 = .ok (.ireturn, 1) := by decide +kernel
theorem dX12_countOf_132 : decode cX12_countOf 132 = .ok (.aload_n 0, 1) := by decide +kernel
theorem dX12_countOf_133 : decode cX12_countOf 133 = .ok (.getfield 53, 3) := by decide +kernel
theorem dX12_countOf_136 : decode cX12_countOf 136 = .ok (.ireturn, 1) := by decide +kernel
theorem dX12_countOf_137 : decode cX12_countOf 137 = .ok (.aload_n 0, 1) := by decide +kernel
theorem dX12_countOf_138 : decode cX12_countOf 138 = .ok (.getfield 108, 3) := by decide +kernel
theorem dX12_countOf_141 : decode cX12_countOf 141 = .ok (.ireturn, 1) := by decide +kernel
theorem dX12_countOf_142 : decode cX12_countOf 142 = .ok (.aload_n 0, 1) := by decide +kernel
theorem dX12_countOf_143 : decode cX12_countOf 143 = .ok (.getfield 238, 3) := by decide +kernel
theorem dX12_countOf_146 : decode cX12_countOf 146 = .ok (.ireturn, 1) := by decide +kernel
theorem dX12_countOf_147 : decode cX12_countOf 147 = .ok (.aload_n 0, 1) := by decide +kernel
theorem dX12_countOf_148 : decode cX12_countOf 148 = .ok (.getfield 244, 3) := by decide +kernel
theorem dX12_countOf_151 : decode cX12_countOf 151 = .ok (.ireturn, 1) := by decide +kernel
theorem dX12_countOf_152 : decode cX12_countOf 152 = .ok (.bipush (-102), 2) := by decide +kernel
theorem dX12_countOf_154 : decode cX12_countOf 154 = .ok (.ireturn, 1) := by decide +kernel
theorem dX12_count_0 : decode cX12_count 0 = .ok (.aload_n 0, 1) := by decide +kernel
theorem dX12_count_1 : decode cX12_count 1 = .ok (.iload_n 1, 1) := by decide +kernel
theorem dX12_count_2 : decode cX12_count 2 = .ok (.invokevirtual 299, 3) := by decide +kernel
theorem dX12_count_5 : decode cX12_count 5 = .ok (.ireturn, 1) := by decide +kernel
theorem dX12_say_0 : decode cX12_say 0 = .ok (.aload_n 0, 1) := by decide +kernel
theorem dX12_say_1 : decode cX12_say 1 = .ok (.ldc2_w 302, 3) := by decide +kernel
theorem dX12_say_4 : decode cX12_say 4 = .ok (.aload_n 0, 1) := by decide +kernel
theorem dX12_say_5 : decode cX12_say 5 = .ok (.getfield 304, 3) := by decide +kernel
theorem dX12_say_8 : decode cX12_say 8 = .ok (.lmul, 1) := by decide +kernel
theorem dX12_say_9 : decode cX12_say 9 = .ok (.lload_n 1, 1) := by decide +kernel
theorem dX12_say_10 : decode cX12_say 10 = .ok (.ladd, 1) := by decide +kernel
theorem dX12_say_11 : decode cX12_say 11 = .ok (.putfield 304, 3) := by decide +kernel
theorem dX12_say_14 : decode cX12_say 14 = .ok (.return_, 1) := by decide +kernel
theorem dX12_sayTable_0 : decode cX12_sayTable 0 = .ok (.iconst 0, 1) := by decide +kernel
theorem dX12_sayTable_1 : decode cX12_sayTable 1 = .ok (.istore_n 1, 1) := by decide +kernel
theorem dX12_sayTable_2 : decode cX12_sayTable 2 = .ok (.iload_n 1, 1) := by decide +kernel
theorem dX12_sayTable_3 : decode cX12_sayTable 3 = .ok (.aload_n 0, 1) := by decide +kernel
theorem dX12_sayTable_4 : decode cX12_sayTable 4 = .ok (.getfield 90, 3) := by decide +kernel
theorem dX12_sayTable_7 : decode cX12_sayTable 7 = .ok (.if_icmp .gt 42, 3) := by decide +kernel
theorem dX12_sayTable_10 : decode cX12_sayTable 10 = .ok (.aload_n 0, 1) := by decide +kernel
theorem dX12_sayTable_11 : decode cX12_sayTable 11 = .ok (.aload_n 0, 1) := by decide +kernel
theorem dX12_sayTable_12 : decode cX12_sayTable 12 = .ok (.getfield 13, 3) := by decide +kernel
theorem dX12_sayTable_15 : decode cX12_sayTable 15 = .ok (.iload_n 1, 1) := by decide +kernel
theorem dX12_sayTable_16 : decode cX12_sayTable 16 = .ok (.iaload, 1) := by decide +kernel
theorem dX12_sayTable_17 : decode cX12_sayTable 17 = .ok (.i2l, 1) := by decide +kernel
theorem dX12_sayTable_18 : decode cX12_sayTable 18 = .ok (.invokevirtual 308, 3) := by decide +kernel
theorem dX12_sayTable_21 : decode cX12_sayTable 21 = .ok (.aload_n 0, 1) := by decide +kernel
theorem dX12_sayTable_22 : decode cX12_sayTable 22 = .ok (.aload_n 0, 1) := by decide +kernel
theorem dX12_sayTable_23 : decode cX12_sayTable 23 = .ok (.getfield 16, 3) := by decide +kernel
theorem dX12_sayTable_26 : decode cX12_sayTable 26 = .ok (.iload_n 1, 1) := by decide +kernel
theorem dX12_sayTable_27 : decode cX12_sayTable 27 = .ok (.iaload, 1) := by decide +kernel
theorem dX12_sayTable_28 : decode cX12_sayTable 28 = .ok (.i2l, 1) := by decide +kernel
theorem dX12_sayTable_29 : decode cX12_sayTable 29 = .ok (.invokevirtual 308, 3) := by decide +kernel
theorem dX12_sayTable_32 : decode cX12_sayTable 32 = .ok (.aload_n 0, 1) := by decide +kernel
theorem dX12_sayTable_33 : decode cX12_sayTable 33 = .ok (.aload_n 0, 1) := by decide +kernel
theorem dX12_sayTable_34 : decode cX12_sayTable 34 = .ok (.getfield 19, 3) := by decide +kernel
theorem dX12_sayTable_37 : decode cX12_sayTable 37 = .ok (.iload_n 1, 1) := by decide +kernel
theorem dX12_sayTable_38 : decode cX12_sayTable 38 = .ok (.iaload, 1) := by decide +kernel
theorem dX12_sayTable_39 : decode cX12_sayTable 39 = .ok (.i2l, 1) := by decide +kernel
theorem dX12_sayTable_40 : decode cX12_sayTable 40 = .ok (.invokevirtual 308, 3) := by decide +kernel
theorem dX12_sayTable_43 : decode cX12_sayTable 43 = .ok (.iinc 1 1, 3) := by decide +kernel
theorem dX12_sayTable_46 : decode cX12_sayTable 46 = .ok (.goto (-44), 3) := by decide +kernel
theorem dX12_sayTable_49 : decode cX12_sayTable 49 = .ok (.aload_n 0, 1) := by decide +kernel
theorem dX12_sayTable_50 : decode cX12_sayTable 50 = .ok (.aload_n 0, 1) := by decide +kernel
theorem dX12_sayTable_51 : decode cX12_sayTable 51 = .ok (.iconst 1, 1) := by decide +kernel
theorem dX12_sayTable_52 : decode cX12_sayTable 52 = .ok (.invokevirtual 168, 3) := by decide +kernel
theorem dX12_sayTable_55 : decode cX12_sayTable 55 = .ok (.i2l, 1) := by decide +kernel
theorem dX12_sayTable_56 : decode cX12_sayTable 56 = .ok (.invokevirtual 308, 3) := by decide +kernel
theorem dX12_sayTable_59 : decode cX12_sayTable 59 = .ok (.aload_n 0, 1) := by decide +kernel
theorem dX12_sayTable_60 : decode cX12_sayTable 60 = .ok (.aload_n 0, 1) := by decide +kernel
theorem dX12_sayTable_61 : decode cX12_sayTable 61 = .ok (.iconst 1, 1) := by decide +kernel
theorem dX12_sayTable_62 : decode cX12_sayTable 62 = .ok (.invokevirtual 171, 3) := by decide +kernel
theorem dX12_sayTable_65 : decode cX12_sayTable 65 = .ok (.i2l, 1) := by decide +kernel
theorem dX12_sayTable_66 : decode cX12_sayTable 66 = .ok (.invokevirtual 308, 3) := by decide +kernel
theorem dX12_sayTable_69 : decode cX12_sayTable 69 = .ok (.iconst 0, 1) := by decide +kernel
theorem dX12_sayTable_70 : decode cX12_sayTable 70 = .ok (.istore_n 1, 1) := by decide +kernel
theorem dX12_sayTable_71 : decode cX12_sayTable 71 = .ok (.iload_n 1, 1) := by decide +kernel
theorem dX12_sayTable_72 : decode cX12_sayTable 72 = .ok (.bipush 8, 2) := by decide +kernel
theorem dX12_sayTable_74 : decode cX12_sayTable 74 = .ok (.if_icmp .ge 19, 3) := by decide +kernel
theorem dX12_sayTable_77 : decode cX12_sayTable 77 = .ok (.aload_n 0, 1) := by decide +kernel
theorem dX12_sayTable_78 : decode cX12_sayTable 78 = .ok (.aload_n 0, 1) := by decide +kernel
theorem dX12_sayTable_79 : decode cX12_sayTable 79 = .ok (.iload_n 1, 1) := by decide +kernel
theorem dX12_sayTable_80 : decode cX12_sayTable 80 = .ok (.invokevirtual 188, 3) := by decide +kernel
theorem dX12_sayTable_83 : decode cX12_sayTable 83 = .ok (.i2l, 1) := by decide +kernel
theorem dX12_sayTable_84 : decode cX12_sayTable 84 = .ok (.invokevirtual 308, 3) := by decide +kernel
theorem dX12_sayTable_87 : decode cX12_sayTable 87 = .ok (.iinc 1 1, 3) := by decide +kernel
theorem dX12_sayTable_90 : decode cX12_sayTable 90 = .ok (.goto (-19), 3) := by decide +kernel
theorem dX12_sayTable_93 : decode cX12_sayTable 93 = .ok (.iconst 0, 1) := by decide +kernel
theorem dX12_sayTable_94 : decode cX12_sayTable 94 = .ok (.istore_n 1, 1) := by decide +kernel
theorem dX12_sayTable_95 : decode cX12_sayTable 95 = .ok (.iload_n 1, 1) := by decide +kernel
theorem dX12_sayTable_96 : decode cX12_sayTable 96 = .ok (.iconst 4, 1) := by decide +kernel
theorem dX12_sayTable_97 : decode cX12_sayTable 97 = .ok (.if_icmp .ge 19, 3) := by decide +kernel
theorem dX12_sayTable_100 : decode cX12_sayTable 100 = .ok (.aload_n 0, 1) := by decide +kernel
theorem dX12_sayTable_101 : decode cX12_sayTable 101 = .ok (.aload_n 0, 1) := by decide +kernel
theorem dX12_sayTable_102 : decode cX12_sayTable 102 = .ok (.iload_n 1, 1) := by decide +kernel
theorem dX12_sayTable_103 : decode cX12_sayTable 103 = .ok (.invokevirtual 231, 3) := by decide +kernel
theorem dX12_sayTable_106 : decode cX12_sayTable 106 = .ok (.i2l, 1) := by decide +kernel
theorem dX12_sayTable_107 : decode cX12_sayTable 107 = .ok (.invokevirtual 308, 3) := by decide +kernel
theorem dX12_sayTable_110 : decode cX12_sayTable 110 = .ok (.iinc 1 1, 3) := by decide +kernel
theorem dX12_sayTable_113 : decode cX12_sayTable 113 = .ok (.goto (-18), 3) := by decide +kernel
theorem dX12_sayTable_116 : decode cX12_sayTable 116 = .ok (.iconst 0, 1) := by decide +kernel
theorem dX12_sayTable_117 : decode cX12_sayTable 117 = .ok (.istore_n 1, 1) := by decide +kernel
theorem dX12_sayTable_118 : decode cX12_sayTable 118 = .ok (.iload_n 1, 1) := by decide +kernel
theorem dX12_sayTable_119 : decode cX12_sayTable 119 = .ok (.bipush 6, 2) := by decide +kernel
theorem dX12_sayTable_121 : decode cX12_sayTable 121 = .ok (.if_icmp .ge 23, 3) := by decide +kernel
theorem dX12_sayTable_124 : decode cX12_sayTable 124 = .ok (.aload_n 0, 1) := by decide +kernel
theorem dX12_sayTable_125 : decode cX12_sayTable 125 = .ok (.aload_n 0, 1) := by decide +kernel
theorem dX12_sayTable_126 : decode cX12_sayTable 126 = .ok (.iconst 3, 1) := by decide +kernel
theorem dX12_sayTable_127 : decode cX12_sayTable 127 = .ok (.bipush 9, 2) := by decide +kernel
theorem dX12_sayTable_129 : decode cX12_sayTable 129 = .ok (.iconst 1, 1) := by decide +kernel
theorem dX12_sayTable_130 : decode cX12_sayTable 130 = .ok (.iload_n 1, 1) := by decide +kernel
theorem dX12_sayTable_131 : decode cX12_sayTable 131 = .ok (.invokevirtual 216, 3) := by decide +kernel
theorem dX12_sayTable_134 : decode cX12_sayTable 134 = .ok (.i2l, 1) := by decide +kernel
theorem dX12_sayTable_135 : decode cX12_sayTable 135 = .ok (.invokevirtual 308, 3) := by decide +kernel
theorem dX12_sayTable_138 : decode cX12_sayTable 138 = .ok (.iinc 1 1, 3) := by decide +kernel
theorem dX12_sayTable_141 : decode cX12_sayTable 141 = .ok (.goto (-23), 3) := by decide +kernel
theorem dX12_sayTable_144 : decode cX12_sayTable 144 = .ok (.return_, 1) := by decide +kernel
theorem dX12_digest_0 : decode cX12_digest 0 = .ok (.aload_n 0, 1) := by decide +kernel
theorem dX12_digest_1 : decode cX12_digest 1 = .ok (.ldc2_w 312, 3) := by decide +kernel
theorem dX12_digest_4 : decode cX12_digest 4 = .ok (.putfield 304, 3) := by decide +kernel
theorem dX12_digest_7 : decode cX12_digest 7 = .ok (.aload_n 0, 1) := by decide +kernel
theorem dX12_digest_8 : decode cX12_digest 8 = .ok (.invokevirtual 111, 3) := by decide +kernel
theorem dX12_digest_11 : decode cX12_digest 11 = .ok (.ifCond .ne 7, 3) := by decide +kernel
theorem dX12_digest_14 : decode cX12_digest 14 = .ok (.aload_n 0, 1) := by decide +kernel
theorem dX12_digest_15 : decode cX12_digest 15 = .ok (.invokevirtual 314, 3) := by decide +kernel
theorem dX12_digest_18 : decode cX12_digest 18 = .ok (.iconst 0, 1) := by decide +kernel
theorem dX12_digest_19 : decode cX12_digest 19 = .ok (.istore_n 1, 1) := by decide +kernel
theorem dX12_digest_20 : decode cX12_digest 20 = .ok (.iload_n 1, 1) := by decide +kernel
theorem dX12_digest_21 : decode cX12_digest 21 = .ok (.aload_n 0, 1) := by decide +kernel
theorem dX12_digest_22 : decode cX12_digest 22 = .ok (.getfield 53, 3) := by decide +kernel
theorem dX12_digest_25 : decode cX12_digest 25 = .ok (.if_icmp .ge 20, 3) := by decide +kernel
theorem dX12_digest_28 : decode cX12_digest 28 = .ok (.aload_n 0, 1) := by decide +kernel
theorem dX12_digest_29 : decode cX12_digest 29 = .ok (.aload_n 0, 1) := by decide +kernel
theorem dX12_digest_30 : decode cX12_digest 30 = .ok (.getfield 7, 3) := by decide +kernel
theorem dX12_digest_33 : decode cX12_digest 33 = .ok (.iload_n 1, 1) := by decide +kernel
theorem dX12_digest_34 : decode cX12_digest 34 = .ok (.iaload, 1) := by decide +kernel
theorem dX12_digest_35 : decode cX12_digest 35 = .ok (.i2l, 1) := by decide +kernel
theorem dX12_digest_36 : decode cX12_digest 36 = .ok (.invokevirtual 308, 3) := by decide +kernel
theorem dX12_digest_39 : decode cX12_digest 39 = .ok (.iinc 1 1, 3) := by decide +kernel
theorem dX12_digest_42 : decode cX12_digest 42 = .ok (.goto (-22), 3) := by decide +kernel
theorem dX12_digest_45 : decode cX12_digest 45 = .ok (.iconst 0, 1) := by decide +kernel
theorem dX12_digest_46 : decode cX12_digest 46 = .ok (.istore_n 1, 1) := by decide +kernel
theorem dX12_digest_47 : decode cX12_digest 47 = .ok (.iload_n 1, 1) := by decide +kernel
theorem dX12_digest_48 : decode cX12_digest 48 = .ok (.bipush 14, 2) := by decide +kernel
theorem dX12_digest_50 : decode cX12_digest 50 = .ok (.if_icmp .ge 19, 3) := by decide +kernel
theorem dX12_digest_53 : decode cX12_digest 53 = .ok (.aload_n 0, 1) := by decide +kernel
theorem dX12_digest_54 : decode cX12_digest 54 = .ok (.aload_n 0, 1) := by decide +kernel
theorem dX12_digest_55 : decode cX12_digest 55 = .ok (.iload_n 1, 1) := by decide +kernel
theorem dX12_digest_56 : decode cX12_digest 56 = .ok (.invokevirtual 299, 3) := by decide +kernel
theorem dX12_digest_59 : decode cX12_digest 59 = .ok (.i2l, 1) := by decide +kernel
theorem dX12_digest_60 : decode cX12_digest 60 = .ok (.invokevirtual 308, 3) := by decide +kernel
theorem dX12_digest_63 : decode cX12_digest 63 = .ok (.iinc 1 1, 3) := by decide +kernel
theorem dX12_digest_66 : decode cX12_digest 66 = .ok (.goto (-19), 3) := by decide +kernel
theorem dX12_digest_69 : decode cX12_digest 69 = .ok (.aload_n 0, 1) := by decide +kernel
theorem dX12_digest_70 : decode cX12_digest 70 = .ok (.getfield 304, 3) := by decide +kernel
theorem dX12_digest_73 : decode cX12_digest 73 = .ok (.lreturn, 1) := by decide +kernel
theorem dJ11_isValidCodePoint_9a6ad_0 : decode cJ11_isValidCodePoint_9a6ad 0 = .ok (.iload_n 0, 1) := by decide +kernel
theorem dJ11_isValidCodePoint_9a6ad_1 : decode cJ11_isValidCodePoint_9a6ad 1 = .ok (.bipush 16, 2) := by decide +kernel
theorem dJ11_isValidCodePoint_9a6ad_3 : decode cJ11_isValidCodePoint_9a6ad 3 = .ok (.iushr, 1) := by decide +kernel
theorem dJ11_isValidCodePoint_9a6ad_4 : decode cJ11_isValidCodePoint_9a6ad 4 = .ok (.istore_n 1, 1) := by decide +kernel
theorem dJ11_isValidCodePoint_9a6ad_5 : decode cJ11_isValidCodePoint_9a6ad 5 = .ok (.iload_n 1, 1) := by decide +kernel
theorem dJ11_isValidCodePoint_9a6ad_6 : decode cJ11_isValidCodePoint_9a6ad 6 = .ok (.bipush 17, 2) := by decide +kernel
theorem dJ11_isValidCodePoint_9a6ad_8 : decode cJ11_isValidCodePoint_9a6ad 8 = .ok (.if_icmp .ge 7, 3) := by decide +kernel
theorem dJ11_isValidCodePoint_9a6ad_11 : decode cJ11_isValidCodePoint_9a6ad 11 = .ok (.iconst 1, 1) := by decide +kernel
theorem dJ11_isValidCodePoint_9a6ad_12 : decode cJ11_isValidCodePoint_9a6ad 12 = .ok (.goto 4, 3) := by decide +kernel
theorem dJ11_isValidCodePoint_9a6ad_15 : decode cJ11_isValidCodePoint_9a6ad 15 = .ok (.iconst 0, 1) := by decide +kernel
theorem dJ11_isValidCodePoint_9a6ad_16 : decode cJ11_isValidCodePoint_9a6ad 16 = .ok (.ireturn, 1) := by decide +kernel
theorem dJ11_highSurrogate_5068e_0 : decode cJ11_highSurrogate_5068e 0 = .ok (.iload_n 0, 1) := by decide +kernel
theorem dJ11_highSurrogate_5068e_1 : decode cJ11_highSurrogate_5068e 1 = .ok (.bipush 10, 2) := by decide +kernel
theorem dJ11_highSurrogate_5068e_3 : decode cJ11_highSurrogate_5068e 3 = .ok (.iushr, 1) := by decide +kernel
theorem dJ11_highSurrogate_5068e_4 : decode cJ11_highSurrogate_5068e 4 = .ok (.ldc 110, 2) := by decide +kernel
theorem dJ11_highSurrogate_5068e_6 : decode cJ11_highSurrogate_5068e 6 = .ok (.iadd, 1) := by decide +kernel
theorem dJ11_highSurrogate_5068e_7 : decode cJ11_highSurrogate_5068e 7 = .ok (.i2c, 1) := by decide +kernel
theorem dJ11_highSurrogate_5068e_8 : decode cJ11_highSurrogate_5068e 8 = .ok (.ireturn, 1) := by decide +kernel
theorem dJ11_lowSurrogate_5068e_0 : decode cJ11_lowSurrogate_5068e 0 = .ok (.iload_n 0, 1) := by decide +kernel
theorem dJ11_lowSurrogate_5068e_1 : decode cJ11_lowSurrogate_5068e 1 = .ok (.sipush 1023, 3) := by decide +kernel
theorem dJ11_lowSurrogate_5068e_4 : decode cJ11_lowSurrogate_5068e 4 = .ok (.iand, 1) := by decide +kernel
theorem dJ11_lowSurrogate_5068e_5 : decode cJ11_lowSurrogate_5068e 5 = .ok (.ldc 76, 2) := by decide +kernel
theorem dJ11_lowSurrogate_5068e_7 : decode cJ11_lowSurrogate_5068e 7 = .ok (.iadd, 1) := by decide +kernel
theorem dJ11_lowSurrogate_5068e_8 : decode cJ11_lowSurrogate_5068e 8 = .ok (.i2c, 1) := by decide +kernel
theorem dJ11_lowSurrogate_5068e_9 : decode cJ11_lowSurrogate_5068e 9 = .ok (.ireturn, 1) := by decide +kernel
theorem dJ13_bitCount_95d88_0 : decode cJ13_bitCount_95d88 0 = .ok (.lload_n 0, 1) := by decide +kernel
theorem dJ13_bitCount_95d88_1 : decode cJ13_bitCount_95d88 1 = .ok (.lload_n 0, 1) := by decide +kernel
theorem dJ13_bitCount_95d88_2 : decode cJ13_bitCount_95d88 2 = .ok (.iconst 1, 1) := by decide +kernel
theorem dJ13_bitCount_95d88_3 : decode cJ13_bitCount_95d88 3 = .ok (.lushr, 1) := by decide +kernel
theorem dJ13_bitCount_95d88_4 : decode cJ13_bitCount_95d88 4 = .ok (.ldc2_w 314, 3) := by decide +kernel
theorem dJ13_bitCount_95d88_7 : decode cJ13_bitCount_95d88 7 = .ok (.land, 1) := by decide +kernel
theorem dJ13_bitCount_95d88_8 : decode cJ13_bitCount_95d88 8 = .ok (.lsub, 1) := by decide +kernel
theorem dJ13_bitCount_95d88_9 : decode cJ13_bitCount_95d88 9 = .ok (.lstore_n 0, 1) := by decide +kernel
theorem dJ13_bitCount_95d88_10 : decode cJ13_bitCount_95d88 10 = .ok (.lload_n 0, 1) := by decide +kernel
theorem dJ13_bitCount_95d88_11 : decode cJ13_bitCount_95d88 11 = .ok (.ldc2_w 316, 3) := by decide +kernel
theorem dJ13_bitCount_95d88_14 : decode cJ13_bitCount_95d88 14 = .ok (.land, 1) := by decide +kernel
theorem dJ13_bitCount_95d88_15 : decode cJ13_bitCount_95d88 15 = .ok (.lload_n 0, 1) := by decide +kernel
theorem dJ13_bitCount_95d88_16 : decode cJ13_bitCount_95d88 16 = .ok (.iconst 2, 1) := by decide +kernel
theorem dJ13_bitCount_95d88_17 : decode cJ13_bitCount_95d88 17 = .ok (.lushr, 1) := by decide +kernel
theorem dJ13_bitCount_95d88_18 : decode cJ13_bitCount_95d88 18 = .ok (.ldc2_w 316, 3) := by decide +kernel
theorem dJ13_bitCount_95d88_21 : decode cJ13_bitCount_95d88 21 = .ok (.land, 1) := by decide +kernel
theorem dJ13_bitCount_95d88_22 : decode cJ13_bitCount_95d88 22 = .ok (.ladd, 1) := by decide +kernel
theorem dJ13_bitCount_95d88_23 : decode cJ13_bitCount_95d88 23 = .ok (.lstore_n 0, 1) := by decide +kernel
theorem dJ13_bitCount_95d88_24 : decode cJ13_bitCount_95d88 24 = .ok (.lload_n 0, 1) := by decide +kernel
theorem dJ13_bitCount_95d88_25 : decode cJ13_bitCount_95d88 25 = .ok (.lload_n 0, 1) := by decide +kernel
theorem dJ13_bitCount_95d88_26 : decode cJ13_bitCount_95d88 26 = .ok (.iconst 4, 1) := by decide +kernel
theorem dJ13_bitCount_95d88_27 : decode cJ13_bitCount_95d88 27 = .ok (.lushr, 1) := by decide +kernel
theorem dJ13_bitCount_95d88_28 : decode cJ13_bitCount_95d88 28 = .ok (.ladd, 1) := by decide +kernel
theorem dJ13_bitCount_95d88_29 : decode cJ13_bitCount_95d88 29 = .ok (.ldc2_w 318, 3) := by decide +kernel
theorem dJ13_bitCount_95d88_32 : decode cJ13_bitCount_95d88 32 = .ok (.land, 1) := by decide +kernel
theorem dJ13_bitCount_95d88_33 : decode cJ13_bitCount_95d88 33 = .ok (.lstore_n 0, 1) := by decide +kernel
theorem dJ13_bitCount_95d88_34 : decode cJ13_bitCount_95d88 34 = .ok (.lload_n 0, 1) := by decide +kernel
theorem dJ13_bitCount_95d88_35 : decode cJ13_bitCount_95d88 35 = .ok (.lload_n 0, 1) := by decide +kernel
theorem dJ13_bitCount_95d88_36 : decode cJ13_bitCount_95d88 36 = .ok (.bipush 8, 2) := by decide +kernel
theorem dJ13_bitCount_95d88_38 : decode cJ13_bitCount_95d88 38 = .ok (.lushr, 1) := by decide +kernel
theorem dJ13_bitCount_95d88_39 : decode cJ13_bitCount_95d88 39 = .ok (.ladd, 1) := by decide +kernel
theorem dJ13_bitCount_95d88_40 : decode cJ13_bitCount_95d88 40 = .ok (.lstore_n 0, 1) := by decide +kernel
theorem dJ13_bitCount_95d88_41 : decode cJ13_bitCount_95d88 41 = .ok (.lload_n 0, 1) := by decide +kernel
theorem dJ13_bitCount_95d88_42 : decode cJ13_bitCount_95d88 42 = .ok (.lload_n 0, 1) := by decide +kernel
theorem dJ13_bitCount_95d88_43 : decode cJ13_bitCount_95d88 43 = .ok (.bipush 16, 2) := by decide +kernel
theorem dJ13_bitCount_95d88_45 : decode cJ13_bitCount_95d88 45 = .ok (.lushr, 1) := by decide +kernel
theorem dJ13_bitCount_95d88_46 : decode cJ13_bitCount_95d88 46 = .ok (.ladd, 1) := by decide +kernel
theorem dJ13_bitCount_95d88_47 : decode cJ13_bitCount_95d88 47 = .ok (.lstore_n 0, 1) := by decide +kernel
theorem dJ13_bitCount_95d88_48 : decode cJ13_bitCount_95d88 48 = .ok (.lload_n 0, 1) := by decide +kernel
theorem dJ13_bitCount_95d88_49 : decode cJ13_bitCount_95d88 49 = .ok (.lload_n 0, 1) := by decide +kernel
theorem dJ13_bitCount_95d88_50 : decode cJ13_bitCount_95d88 50 = .ok (.bipush 32, 2) := by decide +kernel
theorem dJ13_bitCount_95d88_52 : decode cJ13_bitCount_95d88 52 = .ok (.lushr, 1) := by decide +kernel
theorem dJ13_bitCount_95d88_53 : decode cJ13_bitCount_95d88 53 = .ok (.ladd, 1) := by decide +kernel
theorem dJ13_bitCount_95d88_54 : decode cJ13_bitCount_95d88 54 = .ok (.lstore_n 0, 1) := by decide +kernel
theorem dJ13_bitCount_95d88_55 : decode cJ13_bitCount_95d88 55 = .ok (.lload_n 0, 1) := by decide +kernel
theorem dJ13_bitCount_95d88_56 : decode cJ13_bitCount_95d88 56 = .ok (.l2i, 1) := by decide +kernel
theorem dJ13_bitCount_95d88_57 : decode cJ13_bitCount_95d88 57 = .ok (.bipush 127, 2) := by decide +kernel
theorem dJ13_bitCount_95d88_59 : decode cJ13_bitCount_95d88 59 = .ok (.iand, 1) := by decide +kernel
theorem dJ13_bitCount_95d88_60 : decode cJ13_bitCount_95d88 60 = .ok (.ireturn, 1) := by decide +kernel
theorem dJ9_max_7cf53_0 : decode cJ9_max_7cf53 0 = .ok (.iload_n 0, 1) := by decide +kernel
theorem dJ9_max_7cf53_1 : decode cJ9_max_7cf53 1 = .ok (.iload_n 1, 1) := by decide +kernel
theorem dJ9_max_7cf53_2 : decode cJ9_max_7cf53 2 = .ok (.if_icmp .lt 7, 3) := by decide +kernel
theorem dJ9_max_7cf53_5 : decode cJ9_max_7cf53 5 = .ok (.iload_n 0, 1) := by decide +kernel
theorem dJ9_max_7cf53_6 : decode cJ9_max_7cf53 6 = .ok (.goto 4, 3) := by decide +kernel
theorem dJ9_max_7cf53_9 : decode cJ9_max_7cf53 9 = .ok (.iload_n 1, 1) := by decide +kernel
theorem dJ9_max_7cf53_10 : decode cJ9_max_7cf53 10 = .ok (.ireturn, 1) := by decide +kernel
theorem dJ9_min_7cf53_0 : decode cJ9_min_7cf53 0 = .ok (.iload_n 0, 1) := by decide +kernel
theorem dJ9_min_7cf53_1 : decode cJ9_min_7cf53 1 = .ok (.iload_n 1, 1) := by decide +kernel
theorem dJ9_min_7cf53_2 : decode cJ9_min_7cf53 2 = .ok (.if_icmp .gt 7, 3) := by decide +kernel
theorem dJ9_min_7cf53_5 : decode cJ9_min_7cf53 5 = .ok (.iload_n 0, 1) := by decide +kernel
theorem dJ9_min_7cf53_6 : decode cJ9_min_7cf53 6 = .ok (.goto 4, 3) := by decide +kernel
theorem dJ9_min_7cf53_9 : decode cJ9_min_7cf53 9 = .ok (.iload_n 1, 1) := by decide +kernel
theorem dJ9_min_7cf53_10 : decode cJ9_min_7cf53 10 = .ok (.ireturn, 1) := by decide +kernel
theorem dJ0_length_8abf5_0 : decode cJ0_length_8abf5 0 = .ok (.aload_n 0, 1) := by decide +kernel
theorem dJ0_length_8abf5_1 : decode cJ0_length_8abf5 1 = .ok (.getfield 9, 3) := by decide +kernel
theorem dJ0_length_8abf5_4 : decode cJ0_length_8abf5 4 = .ok (.arraylength, 1) := by decide +kernel
theorem dJ0_length_8abf5_5 : decode cJ0_length_8abf5 5 = .ok (.aload_n 0, 1) := by decide +kernel
theorem dJ0_length_8abf5_6 : decode cJ0_length_8abf5 6 = .ok (.invokevirtual 335, 3) := by decide +kernel
theorem dJ0_length_8abf5_9 : decode cJ0_length_8abf5 9 = .ok (.ishr, 1) := by decide +kernel
theorem dJ0_length_8abf5_10 : decode cJ0_length_8abf5 10 = .ok (.ireturn, 1) := by decide +kernel
theorem dJ0_indexOf_0f7a4_0 : decode cJ0_indexOf_0f7a4 0 = .ok (.aload_n 0, 1) := by decide +kernel
theorem dJ0_indexOf_0f7a4_1 : decode cJ0_indexOf_0f7a4 1 = .ok (.iload_n 1, 1) := by decide +kernel
theorem dJ0_indexOf_0f7a4_2 : decode cJ0_indexOf_0f7a4 2 = .ok (.iconst 0, 1) := by decide +kernel
theorem dJ0_indexOf_0f7a4_3 : decode cJ0_indexOf_0f7a4 3 = .ok (.invokevirtual 633, 3) := by decide +kernel
theorem dJ0_indexOf_0f7a4_6 : decode cJ0_indexOf_0f7a4 6 = .ok (.ireturn, 1) := by decide +kernel
theorem dJ0_indexOf_7cf53_0 : decode cJ0_indexOf_7cf53 0 = .ok (.aload_n 0, 1) := by decide +kernel
theorem dJ0_indexOf_7cf53_1 : decode cJ0_indexOf_7cf53 1 = .ok (.invokevirtual 492, 3) := by decide +kernel
theorem dJ0_indexOf_7cf53_4 : decode cJ0_indexOf_7cf53 4 = .ok (.ifCond .eq 19, 3) := by decide +kernel
theorem dJ0_indexOf_7cf53_7 : decode cJ0_indexOf_7cf53 7 = .ok (.aload_n 0, 1) := by decide +kernel
theorem dJ0_indexOf_7cf53_8 : decode cJ0_indexOf_7cf53 8 = .ok (.getfield 9, 3) := by decide +kernel
theorem dJ0_indexOf_7cf53_11 : decode cJ0_indexOf_7cf53 11 = .ok (.iload_n 1, 1) := by decide +kernel
theorem dJ0_indexOf_7cf53_12 : decode cJ0_indexOf_7cf53 12 = .ok (.iload_n 2, 1) := by decide +kernel
theorem dJ0_indexOf_7cf53_13 : decode cJ0_indexOf_7cf53 13 = .ok (.aload_n 0, 1) := by decide +kernel
theorem dJ0_indexOf_7cf53_14 : decode cJ0_indexOf_7cf53 14 = .ok (.invokevirtual 505, 3) := by decide +kernel
theorem dJ0_indexOf_7cf53_17 : decode cJ0_indexOf_7cf53 17 = .ok (.invokestatic 637, 3) := by decide +kernel
theorem dJ0_indexOf_7cf53_20 : decode cJ0_indexOf_7cf53 20 = .ok (.goto 16, 3) := by decide +kernel
theorem dJ0_indexOf_7cf53_23 : decode cJ0_indexOf_7cf53 23 = .ok (.aload_n 0, 1) := by decide +kernel
theorem dJ0_indexOf_7cf53_24 : decode cJ0_indexOf_7cf53 24 = .ok (.getfield 9, 3) := by decide +kernel
theorem dJ0_indexOf_7cf53_27 : decode cJ0_indexOf_7cf53 27 = .ok (.iload_n 1, 1) := by decide +kernel
theorem dJ0_indexOf_7cf53_28 : decode cJ0_indexOf_7cf53 28 = .ok (.iload_n 2, 1) := by decide +kernel
theorem dJ0_indexOf_7cf53_29 : decode cJ0_indexOf_7cf53 29 = .ok (.aload_n 0, 1) := by decide +kernel
theorem dJ0_indexOf_7cf53_30 : decode cJ0_indexOf_7cf53 30 = .ok (.invokevirtual 505, 3) := by decide +kernel
theorem dJ0_indexOf_7cf53_33 : decode cJ0_indexOf_7cf53 33 = .ok (.invokestatic 640, 3) := by decide +kernel
theorem dJ0_indexOf_7cf53_36 : decode cJ0_indexOf_7cf53 36 = .ok (.ireturn, 1) := by decide +kernel
theorem dJ0_coder_7d493_0 : decode cJ0_coder_7d493 0 = .ok (.getstatic 38, 3) := by decide +kernel
theorem dJ0_coder_7d493_3 : decode cJ0_coder_7d493 3 = .ok (.ifCond .eq 10, 3) := by decide +kernel
theorem dJ0_coder_7d493_6 : decode cJ0_coder_7d493 6 = .ok (.aload_n 0, 1) := by decide +kernel
theorem dJ0_coder_7d493_7 : decode cJ0_coder_7d493 7 = .ok (.getfield 15, 3) := by decide +kernel
theorem dJ0_coder_7d493_10 : decode cJ0_coder_7d493 10 = .ok (.goto 4, 3) := by decide +kernel
theorem dJ0_coder_7d493_13 : decode cJ0_coder_7d493 13 = .ok (.iconst 1, 1) := by decide +kernel
theorem dJ0_coder_7d493_14 : decode cJ0_coder_7d493 14 = .ok (.ireturn, 1) := by decide +kernel
theorem dJ0_isLatin1_aae02_0 : decode cJ0_isLatin1_aae02 0 = .ok (.getstatic 38, 3) := by decide +kernel
theorem dJ0_isLatin1_aae02_3 : decode cJ0_isLatin1_aae02 3 = .ok (.ifCond .eq 14, 3) := by decide +kernel
theorem dJ0_isLatin1_aae02_6 : decode cJ0_isLatin1_aae02 6 = .ok (.aload_n 0, 1) := by decide +kernel
theorem dJ0_isLatin1_aae02_7 : decode cJ0_isLatin1_aae02 7 = .ok (.getfield 15, 3) := by decide +kernel
theorem dJ0_isLatin1_aae02_10 : decode cJ0_isLatin1_aae02 10 = .ok (.ifCond .ne 7, 3) := by decide +kernel
theorem dJ0_isLatin1_aae02_13 : decode cJ0_isLatin1_aae02 13 = .ok (.iconst 1, 1) := by decide +kernel
theorem dJ0_isLatin1_aae02_14 : decode cJ0_isLatin1_aae02 14 = .ok (.goto 4, 3) := by decide +kernel
theorem dJ0_isLatin1_aae02_17 : decode cJ0_isLatin1_aae02 17 = .ok (.iconst 0, 1) := by decide +kernel
theorem dJ0_isLatin1_aae02_18 : decode cJ0_isLatin1_aae02 18 = .ok (.ireturn, 1) := by decide +kernel
theorem dJ0_checkBoundsBeginEnd_23922_0 : decode cJ0_checkBoundsBeginEnd_23922 0 = .ok (.iload_n 0, 1) := by decide +kernel
theorem dJ0_checkBoundsBeginEnd_23922_1 : decode cJ0_checkBoundsBeginEnd_23922 1 = .ok (.iload_n 1, 1) := by decide +kernel
theorem dJ0_checkBoundsBeginEnd_23922_2 : decode cJ0_checkBoundsBeginEnd_23922 2 = .ok (.iload_n 2, 1) := by decide +kernel
theorem dJ0_checkBoundsBeginEnd_23922_3 : decode cJ0_checkBoundsBeginEnd_23922 3 = .ok (.getstatic 1053, 3) := by decide +kernel
theorem dJ0_checkBoundsBeginEnd_23922_6 : decode cJ0_checkBoundsBeginEnd_23922 6 = .ok (.invokestatic 1062, 3) := by decide +kernel
theorem dJ0_checkBoundsBeginEnd_23922_9 : decode cJ0_checkBoundsBeginEnd_23922 9 = .ok (.pop, 1) := by decide +kernel
theorem dJ0_checkBoundsBeginEnd_23922_10 : decode cJ0_checkBoundsBeginEnd_23922 10 = .ok (.return_, 1) := by decide +kernel
theorem dJ1_canEncode_9a6ad_0 : decode cJ1_canEncode_9a6ad 0 = .ok (.iload_n 0, 1) := by decide +kernel
theorem dJ1_canEncode_9a6ad_1 : decode cJ1_canEncode_9a6ad 1 = .ok (.ifCond .lt 14, 3) := by decide +kernel
theorem dJ1_canEncode_9a6ad_4 : decode cJ1_canEncode_9a6ad 4 = .ok (.iload_n 0, 1) := by decide +kernel
theorem dJ1_canEncode_9a6ad_5 : decode cJ1_canEncode_9a6ad 5 = .ok (.sipush 255, 3) := by decide +kernel
theorem dJ1_canEncode_9a6ad_8 : decode cJ1_canEncode_9a6ad 8 = .ok (.if_icmp .gt 7, 3) := by decide +kernel
theorem dJ1_canEncode_9a6ad_11 : decode cJ1_canEncode_9a6ad 11 = .ok (.iconst 1, 1) := by decide +kernel
theorem dJ1_canEncode_9a6ad_12 : decode cJ1_canEncode_9a6ad 12 = .ok (.goto 4, 3) := by decide +kernel
theorem dJ1_canEncode_9a6ad_15 : decode cJ1_canEncode_9a6ad 15 = .ok (.iconst 0, 1) := by decide +kernel
theorem dJ1_canEncode_9a6ad_16 : decode cJ1_canEncode_9a6ad 16 = .ok (.ireturn, 1) := by decide +kernel
theorem dJ1_indexOf_4cfef_0 : decode cJ1_indexOf_4cfef 0 = .ok (.iload_n 1, 1) := by decide +kernel
theorem dJ1_indexOf_4cfef_1 : decode cJ1_indexOf_4cfef 1 = .ok (.invokestatic 88, 3) := by decide +kernel
theorem dJ1_indexOf_4cfef_4 : decode cJ1_indexOf_4cfef 4 = .ok (.ifCond .ne 5, 3) := by decide +kernel
theorem dJ1_indexOf_4cfef_7 : decode cJ1_indexOf_4cfef 7 = .ok (.iconst (-1), 1) := by decide +kernel
theorem dJ1_indexOf_4cfef_8 : decode cJ1_indexOf_4cfef 8 = .ok (.ireturn, 1) := by decide +kernel
theorem dJ1_indexOf_4cfef_9 : decode cJ1_indexOf_4cfef 9 = .ok (.iload_n 2, 1) := by decide +kernel
theorem dJ1_indexOf_4cfef_10 : decode cJ1_indexOf_4cfef 10 = .ok (.iconst 0, 1) := by decide +kernel
theorem dJ1_indexOf_4cfef_11 : decode cJ1_indexOf_4cfef 11 = .ok (.invokestatic 92, 3) := by decide +kernel
theorem dJ1_indexOf_4cfef_14 : decode cJ1_indexOf_4cfef 14 = .ok (.istore_n 2, 1) := by decide +kernel
theorem dJ1_indexOf_4cfef_15 : decode cJ1_indexOf_4cfef 15 = .ok (.iload_n 3, 1) := by decide +kernel
theorem dJ1_indexOf_4cfef_16 : decode cJ1_indexOf_4cfef 16 = .ok (.aload_n 0, 1) := by decide +kernel
theorem dJ1_indexOf_4cfef_17 : decode cJ1_indexOf_4cfef 17 = .ok (.arraylength, 1) := by decide +kernel
theorem dJ1_indexOf_4cfef_18 : decode cJ1_indexOf_4cfef 18 = .ok (.invokestatic 38, 3) := by decide +kernel
theorem dJ1_indexOf_4cfef_21 : decode cJ1_indexOf_4cfef 21 = .ok (.istore_n 3, 1) := by decide +kernel
theorem dJ1_indexOf_4cfef_22 : decode cJ1_indexOf_4cfef 22 = .ok (.iload_n 2, 1) := by decide +kernel
theorem dJ1_indexOf_4cfef_23 : decode cJ1_indexOf_4cfef 23 = .ok (.iload_n 3, 1) := by decide +kernel
theorem dJ1_indexOf_4cfef_24 : decode cJ1_indexOf_4cfef 24 = .ok (.if_icmp .lt 5, 3) := by decide +kernel
theorem dJ1_indexOf_4cfef_27 : decode cJ1_indexOf_4cfef 27 = .ok (.iconst (-1), 1) := by decide +kernel
theorem dJ1_indexOf_4cfef_28 : decode cJ1_indexOf_4cfef 28 = .ok (.ireturn, 1) := by decide +kernel
theorem dJ1_indexOf_4cfef_29 : decode cJ1_indexOf_4cfef 29 = .ok (.aload_n 0, 1) := by decide +kernel
theorem dJ1_indexOf_4cfef_30 : decode cJ1_indexOf_4cfef 30 = .ok (.iload_n 1, 1) := by decide +kernel
theorem dJ1_indexOf_4cfef_31 : decode cJ1_indexOf_4cfef 31 = .ok (.iload_n 2, 1) := by decide +kernel
theorem dJ1_indexOf_4cfef_32 : decode cJ1_indexOf_4cfef 32 = .ok (.iload_n 3, 1) := by decide +kernel
theorem dJ1_indexOf_4cfef_33 : decode cJ1_indexOf_4cfef 33 = .ok (.invokestatic 95, 3) := by decide +kernel
theorem dJ1_indexOf_4cfef_36 : decode cJ1_indexOf_4cfef 36 = .ok (.ireturn, 1) := by decide +kernel
theorem dJ1_indexOfChar_4cfef_0 : decode cJ1_indexOfChar_4cfef 0 = .ok (.iload_n 1, 1) := by decide +kernel
theorem dJ1_indexOfChar_4cfef_1 : decode cJ1_indexOfChar_4cfef 1 = .ok (.i2b, 1) := by decide +kernel
theorem dJ1_indexOfChar_4cfef_2 : decode cJ1_indexOfChar_4cfef 2 = .ok (.istore 4, 2) := by decide +kernel
theorem dJ1_indexOfChar_4cfef_4 : decode cJ1_indexOfChar_4cfef 4 = .ok (.iload_n 2, 1) := by decide +kernel
theorem dJ1_indexOfChar_4cfef_5 : decode cJ1_indexOfChar_4cfef 5 = .ok (.istore 5, 2) := by decide +kernel
theorem dJ1_indexOfChar_4cfef_7 : decode cJ1_indexOfChar_4cfef 7 = .ok (.iload 5, 2) := by decide +kernel
theorem dJ1_indexOfChar_4cfef_9 : decode cJ1_indexOfChar_4cfef 9 = .ok (.iload_n 3, 1) := by decide +kernel
theorem dJ1_indexOfChar_4cfef_10 : decode cJ1_indexOfChar_4cfef 10 = .ok (.if_icmp .ge 21, 3) := by decide +kernel
theorem dJ1_indexOfChar_4cfef_13 : decode cJ1_indexOfChar_4cfef 13 = .ok (.aload_n 0, 1) := by decide +kernel
theorem dJ1_indexOfChar_4cfef_14 : decode cJ1_indexOfChar_4cfef 14 = .ok (.iload 5, 2) := by decide +kernel
theorem dJ1_indexOfChar_4cfef_16 : decode cJ1_indexOfChar_4cfef 16 = .ok (.baload, 1) := by decide +kernel
theorem dJ1_indexOfChar_4cfef_17 : decode cJ1_indexOfChar_4cfef 17 = .ok (.iload 4, 2) := by decide +kernel
theorem dJ1_indexOfChar_4cfef_19 : decode cJ1_indexOfChar_4cfef 19 = .ok (.if_icmp .ne 6, 3) := by decide +kernel
theorem dJ1_indexOfChar_4cfef_22 : decode cJ1_indexOfChar_4cfef 22 = .ok (.iload 5, 2) := by decide +kernel
theorem dJ1_indexOfChar_4cfef_24 : decode cJ1_indexOfChar_4cfef 24 = .ok (.ireturn, 1) := by decide +kernel
theorem dJ1_indexOfChar_4cfef_25 : decode cJ1_indexOfChar_4cfef 25 = .ok (.iinc 5 1, 3) := by decide +kernel
theorem dJ1_indexOfChar_4cfef_28 : decode cJ1_indexOfChar_4cfef 28 = .ok (.goto (-21), 3) := by decide +kernel
theorem dJ1_indexOfChar_4cfef_31 : decode cJ1_indexOfChar_4cfef 31 = .ok (.iconst (-1), 1) := by decide +kernel
theorem dJ1_indexOfChar_4cfef_32 : decode cJ1_indexOfChar_4cfef 32 = .ok (.ireturn, 1) := by decide +kernel
theorem dJ2_getChar_3b067_0 : decode cJ2_getChar_3b067 0 = .ok (.getstatic 44, 3) := by decide +kernel
theorem dJ2_getChar_3b067_3 : decode cJ2_getChar_3b067 3 = .ok (.ifCond .ne 25, 3) := by decide +kernel
theorem dJ2_getChar_3b067_6 : decode cJ2_getChar_3b067 6 = .ok (.iload_n 1, 1) := by decide +kernel
theorem dJ2_getChar_3b067_7 : decode cJ2_getChar_3b067 7 = .ok (.ifCond .lt 11, 3) := by decide +kernel
theorem dJ2_getChar_3b067_10 : decode cJ2_getChar_3b067 10 = .ok (.iload_n 1, 1) := by decide +kernel
theorem dJ2_getChar_3b067_11 : decode cJ2_getChar_3b067 11 = .ok (.aload_n 0, 1) := by decide +kernel
theorem dJ2_getChar_3b067_12 : decode cJ2_getChar_3b067 12 = .ok (.invokestatic 48, 3) := by decide +kernel
theorem dJ2_getChar_3b067_15 : decode cJ2_getChar_3b067 15 = .ok (.if_icmp .lt 13, 3) := by decide +kernel
theorem dJ2_getChar_3b067_18 : decode cJ2_getChar_3b067 18 = .ok (.new 52, 3) := by decide +kernel
theorem dJ2_getChar_3b067_21 : decode cJ2_getChar_3b067 21 = .ok (.dup, 1) := by decide +kernel
theorem dJ2_getChar_3b067_22 : decode cJ2_getChar_3b067 22 = .ok (.ldc 54, 2) := by decide +kernel
theorem dJ2_getChar_3b067_24 : decode cJ2_getChar_3b067 24 = .ok (.invokespecial 56, 3) := by decide +kernel
theorem dJ2_getChar_3b067_27 : decode cJ2_getChar_3b067 27 = .ok (.athrow, 1) := by decide +kernel
theorem dJ2_getChar_3b067_28 : decode cJ2_getChar_3b067 28 = .ok (.iload_n 1, 1) := by decide +kernel
theorem dJ2_getChar_3b067_29 : decode cJ2_getChar_3b067 29 = .ok (.iconst 1, 1) := by decide +kernel
theorem dJ2_getChar_3b067_30 : decode cJ2_getChar_3b067 30 = .ok (.ishl, 1) := by decide +kernel
theorem dJ2_getChar_3b067_31 : decode cJ2_getChar_3b067 31 = .ok (.istore_n 1, 1) := by decide +kernel
theorem dJ2_getChar_3b067_32 : decode cJ2_getChar_3b067 32 = .ok (.aload_n 0, 1) := by decide +kernel
theorem dJ2_getChar_3b067_33 : decode cJ2_getChar_3b067 33 = .ok (.iload_n 1, 1) := by decide +kernel
theorem dJ2_getChar_3b067_34 : decode cJ2_getChar_3b067 34 = .ok (.iinc 1 1, 3) := by decide +kernel
theorem dJ2_getChar_3b067_37 : decode cJ2_getChar_3b067 37 = .ok (.baload, 1) := by decide +kernel
theorem dJ2_getChar_3b067_38 : decode cJ2_getChar_3b067 38 = .ok (.sipush 255, 3) := by decide +kernel
theorem dJ2_getChar_3b067_41 : decode cJ2_getChar_3b067 41 = .ok (.iand, 1) := by decide +kernel
theorem dJ2_getChar_3b067_42 : decode cJ2_getChar_3b067 42 = .ok (.getstatic 59, 3) := by decide +kernel
theorem dJ2_getChar_3b067_45 : decode cJ2_getChar_3b067 45 = .ok (.ishl, 1) := by decide +kernel
theorem dJ2_getChar_3b067_46 : decode cJ2_getChar_3b067 46 = .ok (.aload_n 0, 1) := by decide +kernel
theorem dJ2_getChar_3b067_47 : decode cJ2_getChar_3b067 47 = .ok (.iload_n 1, 1) := by decide +kernel
theorem dJ2_getChar_3b067_48 : decode cJ2_getChar_3b067 48 = .ok (.baload, 1) := by decide +kernel
theorem dJ2_getChar_3b067_49 : decode cJ2_getChar_3b067 49 = .ok (.sipush 255, 3) := by decide +kernel
theorem dJ2_getChar_3b067_52 : decode cJ2_getChar_3b067 52 = .ok (.iand, 1) := by decide +kernel
theorem dJ2_getChar_3b067_53 : decode cJ2_getChar_3b067 53 = .ok (.getstatic 63, 3) := by decide +kernel
theorem dJ2_getChar_3b067_56 : decode cJ2_getChar_3b067 56 = .ok (.ishl, 1) := by decide +kernel
theorem dJ2_getChar_3b067_57 : decode cJ2_getChar_3b067 57 = .ok (.ior, 1) := by decide +kernel
theorem dJ2_getChar_3b067_58 : decode cJ2_getChar_3b067 58 = .ok (.i2c, 1) := by decide +kernel
theorem dJ2_getChar_3b067_59 : decode cJ2_getChar_3b067 59 = .ok (.ireturn, 1) := by decide +kernel
theorem dJ2_length_9d52b_0 : decode cJ2_length_9d52b 0 = .ok (.aload_n 0, 1) := by decide +kernel
theorem dJ2_length_9d52b_1 : decode cJ2_length_9d52b 1 = .ok (.arraylength, 1) := by decide +kernel
theorem dJ2_length_9d52b_2 : decode cJ2_length_9d52b 2 = .ok (.iconst 1, 1) := by decide +kernel
theorem dJ2_length_9d52b_3 : decode cJ2_length_9d52b 3 = .ok (.ishr, 1) := by decide +kernel
theorem dJ2_length_9d52b_4 : decode cJ2_length_9d52b 4 = .ok (.ireturn, 1) := by decide +kernel
theorem dJ2_indexOf_4cfef_0 : decode cJ2_indexOf_4cfef 0 = .ok (.iload_n 2, 1) := by decide +kernel
theorem dJ2_indexOf_4cfef_1 : decode cJ2_indexOf_4cfef 1 = .ok (.iconst 0, 1) := by decide +kernel
theorem dJ2_indexOf_4cfef_2 : decode cJ2_indexOf_4cfef 2 = .ok (.invokestatic 224, 3) := by decide +kernel
theorem dJ2_indexOf_4cfef_5 : decode cJ2_indexOf_4cfef 5 = .ok (.istore_n 2, 1) := by decide +kernel
theorem dJ2_indexOf_4cfef_6 : decode cJ2_indexOf_4cfef 6 = .ok (.iload_n 3, 1) := by decide +kernel
theorem dJ2_indexOf_4cfef_7 : decode cJ2_indexOf_4cfef 7 = .ok (.aload_n 0, 1) := by decide +kernel
theorem dJ2_indexOf_4cfef_8 : decode cJ2_indexOf_4cfef 8 = .ok (.arraylength, 1) := by decide +kernel
theorem dJ2_indexOf_4cfef_9 : decode cJ2_indexOf_4cfef 9 = .ok (.iconst 1, 1) := by decide +kernel
theorem dJ2_indexOf_4cfef_10 : decode cJ2_indexOf_4cfef 10 = .ok (.ishr, 1) := by decide +kernel
theorem dJ2_indexOf_4cfef_11 : decode cJ2_indexOf_4cfef 11 = .ok (.invokestatic 183, 3) := by decide +kernel
theorem dJ2_indexOf_4cfef_14 : decode cJ2_indexOf_4cfef 14 = .ok (.istore_n 3, 1) := by decide +kernel
theorem dJ2_indexOf_4cfef_15 : decode cJ2_indexOf_4cfef 15 = .ok (.iload_n 2, 1) := by decide +kernel
theorem dJ2_indexOf_4cfef_16 : decode cJ2_indexOf_4cfef 16 = .ok (.iload_n 3, 1) := by decide +kernel
theorem dJ2_indexOf_4cfef_17 : decode cJ2_indexOf_4cfef 17 = .ok (.if_icmp .lt 5, 3) := by decide +kernel
theorem dJ2_indexOf_4cfef_20 : decode cJ2_indexOf_4cfef 20 = .ok (.iconst (-1), 1) := by decide +kernel
theorem dJ2_indexOf_4cfef_21 : decode cJ2_indexOf_4cfef 21 = .ok (.ireturn, 1) := by decide +kernel
theorem dJ2_indexOf_4cfef_22 : decode cJ2_indexOf_4cfef 22 = .ok (.iload_n 1, 1) := by decide +kernel
theorem dJ2_indexOf_4cfef_23 : decode cJ2_indexOf_4cfef 23 = .ok (.ldc 227, 2) := by decide +kernel
theorem dJ2_indexOf_4cfef_25 : decode cJ2_indexOf_4cfef 25 = .ok (.if_icmp .ge 11, 3) := by decide +kernel
theorem dJ2_indexOf_4cfef_28 : decode cJ2_indexOf_4cfef 28 = .ok (.aload_n 0, 1) := by decide +kernel
theorem dJ2_indexOf_4cfef_29 : decode cJ2_indexOf_4cfef 29 = .ok (.iload_n 1, 1) := by decide +kernel
theorem dJ2_indexOf_4cfef_30 : decode cJ2_indexOf_4cfef 30 = .ok (.iload_n 2, 1) := by decide +kernel
theorem dJ2_indexOf_4cfef_31 : decode cJ2_indexOf_4cfef 31 = .ok (.iload_n 3, 1) := by decide +kernel
theorem dJ2_indexOf_4cfef_32 : decode cJ2_indexOf_4cfef 32 = .ok (.invokestatic 228, 3) := by decide +kernel
theorem dJ2_indexOf_4cfef_35 : decode cJ2_indexOf_4cfef 35 = .ok (.ireturn, 1) := by decide +kernel
theorem dJ2_indexOf_4cfef_36 : decode cJ2_indexOf_4cfef 36 = .ok (.aload_n 0, 1) := by decide +kernel
theorem dJ2_indexOf_4cfef_37 : decode cJ2_indexOf_4cfef 37 = .ok (.iload_n 1, 1) := by decide +kernel
theorem dJ2_indexOf_4cfef_38 : decode cJ2_indexOf_4cfef 38 = .ok (.iload_n 2, 1) := by decide +kernel
theorem dJ2_indexOf_4cfef_39 : decode cJ2_indexOf_4cfef 39 = .ok (.iload_n 3, 1) := by decide +kernel
theorem dJ2_indexOf_4cfef_40 : decode cJ2_indexOf_4cfef 40 = .ok (.invokestatic 232, 3) := by decide +kernel
theorem dJ2_indexOf_4cfef_43 : decode cJ2_indexOf_4cfef 43 = .ok (.ireturn, 1) := by decide +kernel
theorem dJ2_indexOfChar_4cfef_0 : decode cJ2_indexOfChar_4cfef 0 = .ok (.iload_n 2, 1) := by decide +kernel
theorem dJ2_indexOfChar_4cfef_1 : decode cJ2_indexOfChar_4cfef 1 = .ok (.iload_n 3, 1) := by decide +kernel
theorem dJ2_indexOfChar_4cfef_2 : decode cJ2_indexOfChar_4cfef 2 = .ok (.aload_n 0, 1) := by decide +kernel
theorem dJ2_indexOfChar_4cfef_3 : decode cJ2_indexOfChar_4cfef 3 = .ok (.invokestatic 96, 3) := by decide +kernel
theorem dJ2_indexOfChar_4cfef_6 : decode cJ2_indexOfChar_4cfef 6 = .ok (.aload_n 0, 1) := by decide +kernel
theorem dJ2_indexOfChar_4cfef_7 : decode cJ2_indexOfChar_4cfef 7 = .ok (.iload_n 1, 1) := by decide +kernel
theorem dJ2_indexOfChar_4cfef_8 : decode cJ2_indexOfChar_4cfef 8 = .ok (.iload_n 2, 1) := by decide +kernel
theorem dJ2_indexOfChar_4cfef_9 : decode cJ2_indexOfChar_4cfef 9 = .ok (.iload_n 3, 1) := by decide +kernel
theorem dJ2_indexOfChar_4cfef_10 : decode cJ2_indexOfChar_4cfef 10 = .ok (.invokestatic 244, 3) := by decide +kernel
theorem dJ2_indexOfChar_4cfef_13 : decode cJ2_indexOfChar_4cfef 13 = .ok (.ireturn, 1) := by decide +kernel
theorem dJ2_indexOfCharUnsafe_4cfef_0 : decode cJ2_indexOfCharUnsafe_4cfef 0 = .ok (.iload_n 2, 1) := by decide +kernel
theorem dJ2_indexOfCharUnsafe_4cfef_1 : decode cJ2_indexOfCharUnsafe_4cfef 1 = .ok (.istore 4, 2) := by decide +kernel
theorem dJ2_indexOfCharUnsafe_4cfef_3 : decode cJ2_indexOfCharUnsafe_4cfef 3 = .ok (.iload 4, 2) := by decide +kernel
theorem dJ2_indexOfCharUnsafe_4cfef_5 : decode cJ2_indexOfCharUnsafe_4cfef 5 = .ok (.iload_n 3, 1) := by decide +kernel
theorem dJ2_indexOfCharUnsafe_4cfef_6 : decode cJ2_indexOfCharUnsafe_4cfef 6 = .ok (.if_icmp .ge 22, 3) := by decide +kernel
theorem dJ2_indexOfCharUnsafe_4cfef_9 : decode cJ2_indexOfCharUnsafe_4cfef 9 = .ok (.aload_n 0, 1) := by decide +kernel
theorem dJ2_indexOfCharUnsafe_4cfef_10 : decode cJ2_indexOfCharUnsafe_4cfef 10 = .ok (.iload 4, 2) := by decide +kernel
theorem dJ2_indexOfCharUnsafe_4cfef_12 : decode cJ2_indexOfCharUnsafe_4cfef 12 = .ok (.invokestatic 71, 3) := by decide +kernel
theorem dJ2_indexOfCharUnsafe_4cfef_15 : decode cJ2_indexOfCharUnsafe_4cfef 15 = .ok (.iload_n 1, 1) := by decide +kernel
theorem dJ2_indexOfCharUnsafe_4cfef_16 : decode cJ2_indexOfCharUnsafe_4cfef 16 = .ok (.if_icmp .ne 6, 3) := by decide +kernel
theorem dJ2_indexOfCharUnsafe_4cfef_19 : decode cJ2_indexOfCharUnsafe_4cfef 19 = .ok (.iload 4, 2) := by decide +kernel
theorem dJ2_indexOfCharUnsafe_4cfef_21 : decode cJ2_indexOfCharUnsafe_4cfef 21 = .ok (.ireturn, 1) := by decide +kernel
theorem dJ2_indexOfCharUnsafe_4cfef_22 : decode cJ2_indexOfCharUnsafe_4cfef 22 = .ok (.iinc 4 1, 3) := by decide +kernel
theorem dJ2_indexOfCharUnsafe_4cfef_25 : decode cJ2_indexOfCharUnsafe_4cfef 25 = .ok (.goto (-22), 3) := by decide +kernel
theorem dJ2_indexOfCharUnsafe_4cfef_28 : decode cJ2_indexOfCharUnsafe_4cfef 28 = .ok (.iconst (-1), 1) := by decide +kernel
theorem dJ2_indexOfCharUnsafe_4cfef_29 : decode cJ2_indexOfCharUnsafe_4cfef 29 = .ok (.ireturn, 1) := by decide +kernel
theorem dJ2_indexOfSupplementary_4cfef_0 : decode cJ2_indexOfSupplementary_4cfef 0 = .ok (.iload_n 1, 1) := by decide +kernel
theorem dJ2_indexOfSupplementary_4cfef_1 : decode cJ2_indexOfSupplementary_4cfef 1 = .ok (.invokestatic 164, 3) := by decide +kernel
theorem dJ2_indexOfSupplementary_4cfef_4 : decode cJ2_indexOfSupplementary_4cfef 4 = .ok (.ifCond .eq 65, 3) := by decide +kernel
theorem dJ2_indexOfSupplementary_4cfef_7 : decode cJ2_indexOfSupplementary_4cfef 7 = .ok (.iload_n 1, 1) := by decide +kernel
theorem dJ2_indexOfSupplementary_4cfef_8 : decode cJ2_indexOfSupplementary_4cfef 8 = .ok (.invokestatic 157, 3) := by decide +kernel
theorem dJ2_indexOfSupplementary_4cfef_11 : decode cJ2_indexOfSupplementary_4cfef 11 = .ok (.istore 4, 2) := by decide +kernel
theorem dJ2_indexOfSupplementary_4cfef_13 : decode cJ2_indexOfSupplementary_4cfef 13 = .ok (.iload_n 1, 1) := by decide +kernel
theorem dJ2_indexOfSupplementary_4cfef_14 : decode cJ2_indexOfSupplementary_4cfef 14 = .ok (.invokestatic 161, 3) := by decide +kernel
theorem dJ2_indexOfSupplementary_4cfef_17 : decode cJ2_indexOfSupplementary_4cfef 17 = .ok (.istore 5, 2) := by decide +kernel
theorem dJ2_indexOfSupplementary_4cfef_19 : decode cJ2_indexOfSupplementary_4cfef 19 = .ok (.iload_n 2, 1) := by decide +kernel
theorem dJ2_indexOfSupplementary_4cfef_20 : decode cJ2_indexOfSupplementary_4cfef 20 = .ok (.iload_n 3, 1) := by decide +kernel
theorem dJ2_indexOfSupplementary_4cfef_21 : decode cJ2_indexOfSupplementary_4cfef 21 = .ok (.aload_n 0, 1) := by decide +kernel
theorem dJ2_indexOfSupplementary_4cfef_22 : decode cJ2_indexOfSupplementary_4cfef 22 = .ok (.invokestatic 96, 3) := by decide +kernel
theorem dJ2_indexOfSupplementary_4cfef_25 : decode cJ2_indexOfSupplementary_4cfef 25 = .ok (.iload_n 2, 1) := by decide +kernel
theorem dJ2_indexOfSupplementary_4cfef_26 : decode cJ2_indexOfSupplementary_4cfef 26 = .ok (.istore 6, 2) := by decide +kernel
theorem dJ2_indexOfSupplementary_4cfef_28 : decode cJ2_indexOfSupplementary_4cfef 28 = .ok (.iload 6, 2) := by decide +kernel
theorem dJ2_indexOfSupplementary_4cfef_30 : decode cJ2_indexOfSupplementary_4cfef 30 = .ok (.iload_n 3, 1) := by decide +kernel
theorem dJ2_indexOfSupplementary_4cfef_31 : decode cJ2_indexOfSupplementary_4cfef 31 = .ok (.iconst 1, 1) := by decide +kernel
theorem dJ2_indexOfSupplementary_4cfef_32 : decode cJ2_indexOfSupplementary_4cfef 32 = .ok (.isub, 1) := by decide +kernel
theorem dJ2_indexOfSupplementary_4cfef_33 : decode cJ2_indexOfSupplementary_4cfef 33 = .ok (.if_icmp .ge 36, 3) := by decide +kernel
theorem dJ2_indexOfSupplementary_4cfef_36 : decode cJ2_indexOfSupplementary_4cfef 36 = .ok (.aload_n 0, 1) := by decide +kernel
theorem dJ2_indexOfSupplementary_4cfef_37 : decode cJ2_indexOfSupplementary_4cfef 37 = .ok (.iload 6, 2) := by decide +kernel
theorem dJ2_indexOfSupplementary_4cfef_39 : decode cJ2_indexOfSupplementary_4cfef 39 = .ok (.invokestatic 71, 3) := by decide +kernel
theorem dJ2_indexOfSupplementary_4cfef_42 : decode cJ2_indexOfSupplementary_4cfef 42 = .ok (.iload 4, 2) := by decide +kernel
theorem dJ2_indexOfSupplementary_4cfef_44 : decode cJ2_indexOfSupplementary_4cfef 44 = .ok (.if_icmp .ne 19, 3) := by decide +kernel
theorem dJ2_indexOfSupplementary_4cfef_47 : decode cJ2_indexOfSupplementary_4cfef 47 = .ok (.aload_n 0, 1) := by decide +kernel
theorem dJ2_indexOfSupplementary_4cfef_48 : decode cJ2_indexOfSupplementary_4cfef 48 = .ok (.iload 6, 2) := by decide +kernel
theorem dJ2_indexOfSupplementary_4cfef_50 : decode cJ2_indexOfSupplementary_4cfef 50 = .ok (.iconst 1, 1) := by decide +kernel
theorem dJ2_indexOfSupplementary_4cfef_51 : decode cJ2_indexOfSupplementary_4cfef 51 = .ok (.iadd, 1) := by decide +kernel
theorem dJ2_indexOfSupplementary_4cfef_52 : decode cJ2_indexOfSupplementary_4cfef 52 = .ok (.invokestatic 71, 3) := by decide +kernel
theorem dJ2_indexOfSupplementary_4cfef_55 : decode cJ2_indexOfSupplementary_4cfef 55 = .ok (.iload 5, 2) := by decide +kernel
theorem dJ2_indexOfSupplementary_4cfef_57 : decode cJ2_indexOfSupplementary_4cfef 57 = .ok (.if_icmp .ne 6, 3) := by decide +kernel
theorem dJ2_indexOfSupplementary_4cfef_60 : decode cJ2_indexOfSupplementary_4cfef 60 = .ok (.iload 6, 2) := by decide +kernel
theorem dJ2_indexOfSupplementary_4cfef_62 : decode cJ2_indexOfSupplementary_4cfef 62 = .ok (.ireturn, 1) := by decide +kernel
theorem dJ2_indexOfSupplementary_4cfef_63 : decode cJ2_indexOfSupplementary_4cfef 63 = .ok (.iinc 6 1, 3) := by decide +kernel
theorem dJ2_indexOfSupplementary_4cfef_66 : decode cJ2_indexOfSupplementary_4cfef 66 = .ok (.goto (-38), 3) := by decide +kernel
theorem dJ2_indexOfSupplementary_4cfef_69 : decode cJ2_indexOfSupplementary_4cfef 69 = .ok (.iconst (-1), 1) := by decide +kernel
theorem dJ2_indexOfSupplementary_4cfef_70 : decode cJ2_indexOfSupplementary_4cfef 70 = .ok (.ireturn, 1) := by decide +kernel
theorem dJ2_checkBoundsBeginEnd_d044e_0 : decode cJ2_checkBoundsBeginEnd_d044e 0 = .ok (.iload_n 0, 1) := by decide +kernel
theorem dJ2_checkBoundsBeginEnd_d044e_1 : decode cJ2_checkBoundsBeginEnd_d044e 1 = .ok (.iload_n 1, 1) := by decide +kernel
theorem dJ2_checkBoundsBeginEnd_d044e_2 : decode cJ2_checkBoundsBeginEnd_d044e 2 = .ok (.aload_n 2, 1) := by decide +kernel
theorem dJ2_checkBoundsBeginEnd_d044e_3 : decode cJ2_checkBoundsBeginEnd_d044e 3 = .ok (.invokestatic 48, 3) := by decide +kernel
theorem dJ2_checkBoundsBeginEnd_d044e_6 : decode cJ2_checkBoundsBeginEnd_d044e 6 = .ok (.invokestatic 241, 3) := by decide +kernel
theorem dJ2_checkBoundsBeginEnd_d044e_9 : decode cJ2_checkBoundsBeginEnd_d044e 9 = .ok (.return_, 1) := by decide +kernel
theorem dJ7_fill_53178_0 : decode cJ7_fill_53178 0 = .ok (.iconst 0, 1) := by decide +kernel
theorem dJ7_fill_53178_1 : decode cJ7_fill_53178 1 = .ok (.istore_n 2, 1) := by decide +kernel
theorem dJ7_fill_53178_2 : decode cJ7_fill_53178 2 = .ok (.aload_n 0, 1) := by decide +kernel
theorem dJ7_fill_53178_3 : decode cJ7_fill_53178 3 = .ok (.arraylength, 1) := by decide +kernel
theorem dJ7_fill_53178_4 : decode cJ7_fill_53178 4 = .ok (.istore_n 3, 1) := by decide +kernel
theorem dJ7_fill_53178_5 : decode cJ7_fill_53178 5 = .ok (.iload_n 2, 1) := by decide +kernel
theorem dJ7_fill_53178_6 : decode cJ7_fill_53178 6 = .ok (.iload_n 3, 1) := by decide +kernel
theorem dJ7_fill_53178_7 : decode cJ7_fill_53178 7 = .ok (.if_icmp .ge 13, 3) := by decide +kernel
theorem dJ7_fill_53178_10 : decode cJ7_fill_53178 10 = .ok (.aload_n 0, 1) := by decide +kernel
theorem dJ7_fill_53178_11 : decode cJ7_fill_53178 11 = .ok (.iload_n 2, 1) := by decide +kernel
theorem dJ7_fill_53178_12 : decode cJ7_fill_53178 12 = .ok (.iload_n 1, 1) := by decide +kernel
theorem dJ7_fill_53178_13 : decode cJ7_fill_53178 13 = .ok (.iastore, 1) := by decide +kernel
theorem dJ7_fill_53178_14 : decode cJ7_fill_53178 14 = .ok (.iinc 2 1, 3) := by decide +kernel
theorem dJ7_fill_53178_17 : decode cJ7_fill_53178 17 = .ok (.goto (-12), 3) := by decide +kernel
theorem dJ7_fill_53178_20 : decode cJ7_fill_53178 20 = .ok (.return_, 1) := by decide +kernel
theorem dJ3_checkFromToIndex_8c36e_0 : decode cJ3_checkFromToIndex_8c36e 0 = .ok (.iload_n 0, 1) := by decide +kernel
theorem dJ3_checkFromToIndex_8c36e_1 : decode cJ3_checkFromToIndex_8c36e 1 = .ok (.ifCond .lt 13, 3) := by decide +kernel
theorem dJ3_checkFromToIndex_8c36e_4 : decode cJ3_checkFromToIndex_8c36e 4 = .ok (.iload_n 0, 1) := by decide +kernel
theorem dJ3_checkFromToIndex_8c36e_5 : decode cJ3_checkFromToIndex_8c36e 5 = .ok (.iload_n 1, 1) := by decide +kernel
theorem dJ3_checkFromToIndex_8c36e_6 : decode cJ3_checkFromToIndex_8c36e 6 = .ok (.if_icmp .gt 8, 3) := by decide +kernel
theorem dJ3_checkFromToIndex_8c36e_9 : decode cJ3_checkFromToIndex_8c36e 9 = .ok (.iload_n 1, 1) := by decide +kernel
theorem dJ3_checkFromToIndex_8c36e_10 : decode cJ3_checkFromToIndex_8c36e 10 = .ok (.iload_n 2, 1) := by decide +kernel
theorem dJ3_checkFromToIndex_8c36e_11 : decode cJ3_checkFromToIndex_8c36e 11 = .ok (.if_icmp .le 11, 3) := by decide +kernel
theorem dJ3_checkFromToIndex_8c36e_14 : decode cJ3_checkFromToIndex_8c36e 14 = .ok (.aload_n 3, 1) := by decide +kernel
theorem dJ3_checkFromToIndex_8c36e_15 : decode cJ3_checkFromToIndex_8c36e 15 = .ok (.iload_n 0, 1) := by decide +kernel
theorem dJ3_checkFromToIndex_8c36e_16 : decode cJ3_checkFromToIndex_8c36e 16 = .ok (.iload_n 1, 1) := by decide +kernel
theorem dJ3_checkFromToIndex_8c36e_17 : decode cJ3_checkFromToIndex_8c36e 17 = .ok (.iload_n 2, 1) := by decide +kernel
theorem dJ3_checkFromToIndex_8c36e_18 : decode cJ3_checkFromToIndex_8c36e 18 = .ok (.invokestatic 99, 3) := by decide +kernel
theorem dJ3_checkFromToIndex_8c36e_21 : decode cJ3_checkFromToIndex_8c36e 21 = .ok (.athrow, 1) := by decide +kernel
theorem dJ3_checkFromToIndex_8c36e_22 : decode cJ3_checkFromToIndex_8c36e 22 = .ok (.iload_n 0, 1) := by decide +kernel
theorem dJ3_checkFromToIndex_8c36e_23 : decode cJ3_checkFromToIndex_8c36e 23 = .ok (.ireturn, 1) := by decide +kernel
theorem dL_law_0 : decode cL_law 0 = .ok (.new 7, 3) := by decide +kernel
theorem dL_law_3 : decode cL_law 3 = .ok (.dup, 1) := by decide +kernel
theorem dL_law_4 : decode cL_law 4 = .ok (.invokespecial 9, 3) := by decide +kernel
theorem dL_law_7 : decode cL_law 7 = .ok (.astore_n 1, 1) := by decide +kernel
theorem dL_law_8 : decode cL_law 8 = .ok (.new 10, 3) := by decide +kernel
theorem dL_law_11 : decode cL_law 11 = .ok (.dup, 1) := by decide +kernel
theorem dL_law_12 : decode cL_law 12 = .ok (.invokespecial 12, 3) := by decide +kernel
theorem dL_law_15 : decode cL_law 15 = .ok (.astore_n 2, 1) := by decide +kernel
theorem dL_law_16 : decode cL_law 16 = .ok (.iconst 0, 1) := by decide +kernel
theorem dL_law_17 : decode cL_law 17 = .ok (.istore_n 3, 1) := by decide +kernel
theorem dL_law_18 : decode cL_law 18 = .ok (.iload_n 3, 1) := by decide +kernel
theorem dL_law_19 : decode cL_law 19 = .ok (.aload_n 0, 1) := by decide +kernel
theorem dL_law_20 : decode cL_law 20 = .ok (.arraylength, 1) := by decide +kernel
theorem dL_law_21 : decode cL_law 21 = .ok (.iconst 5, 1) := by decide +kernel
theorem dL_law_22 : decode cL_law 22 = .ok (.isub, 1) := by decide +kernel
theorem dL_law_23 : decode cL_law 23 = .ok (.if_icmp .gt 751, 3) := by decide +kernel
theorem dL_law_26 : decode cL_law 26 = .ok (.aload_n 0, 1) := by decide +kernel
theorem dL_law_27 : decode cL_law 27 = .ok (.iload_n 3, 1) := by decide +kernel
theorem dL_law_28 : decode cL_law 28 = .ok (.iaload, 1) := by decide +kernel
theorem dL_law_29 : decode cL_law 29 = .ok (.bipush 31, 2) := by decide +kernel
theorem dL_law_31 : decode cL_law 31 = .ok (.iand, 1) := by decide +kernel
theorem dL_law_32 : decode cL_law 32 = .ok (.tableswitch 736 0 23 #[112, 135, 148, 161, 174, 207, 240, 263, 286, 319, 342, 375, 418, 471, 494, 517, 540, 564, 617, 630, 673, 686, 699, 722], 112) := by decide +kernel
theorem dL_law_144 : decode cL_law 144 = .ok (.aload_n 1, 1) := by decide +kernel
theorem dL_law_145 : decode cL_law 145 = .ok (.aload_n 0, 1) := by decide +kernel
theorem dL_law_146 : decode cL_law 146 = .ok (.iload_n 3, 1) := by decide +kernel
theorem dL_law_147 : decode cL_law 147 = .ok (.iconst 1, 1) := by decide +kernel
theorem dL_law_148 : decode cL_law 148 = .ok (.iadd, 1) := by decide +kernel
theorem dL_law_149 : decode cL_law 149 = .ok (.iaload, 1) := by decide +kernel
theorem dL_law_150 : decode cL_law 150 = .ok (.invokevirtual 13, 3) := by decide +kernel
theorem dL_law_153 : decode cL_law 153 = .ok (.aload_n 2, 1) := by decide +kernel
theorem dL_law_154 : decode cL_law 154 = .ok (.aload_n 0, 1) := by decide +kernel
theorem dL_law_155 : decode cL_law 155 = .ok (.iload_n 3, 1) := by decide +kernel
theorem dL_law_156 : decode cL_law 156 = .ok (.iconst 1, 1) := by decide +kernel
theorem dL_law_157 : decode cL_law 157 = .ok (.iadd, 1) := by decide +kernel
theorem dL_law_158 : decode cL_law 158 = .ok (.iaload, 1) := by decide +kernel
theorem dL_law_159 : decode cL_law 159 = .ok (.invokevirtual 17, 3) := by decide +kernel
theorem dL_law_162 : decode cL_law 162 = .ok (.if_icmp .eq 606, 3) := by decide +kernel
theorem dL_law_165 : decode cL_law 165 = .ok (.iconst 0, 1) := by decide +kernel
theorem dL_law_166 : decode cL_law 166 = .ok (.ireturn, 1) := by decide +kernel
theorem dL_law_167 : decode cL_law 167 = .ok (.aload_n 1, 1) := by decide +kernel
theorem dL_law_168 : decode cL_law 168 = .ok (.invokevirtual 18, 3) := by decide +kernel
theorem dL_law_171 : decode cL_law 171 = .ok (.aload_n 2, 1) := by decide +kernel
theorem dL_law_172 : decode cL_law 172 = .ok (.invokevirtual 22, 3) := by decide +kernel
theorem dL_law_175 : decode cL_law 175 = .ok (.if_icmp .eq 593, 3) := by decide +kernel
theorem dL_law_178 : decode cL_law 178 = .ok (.iconst 0, 1) := by decide +kernel
theorem dL_law_179 : decode cL_law 179 = .ok (.ireturn, 1) := by decide +kernel
theorem dL_law_180 : decode cL_law 180 = .ok (.aload_n 1, 1) := by decide +kernel
theorem dL_law_181 : decode cL_law 181 = .ok (.invokevirtual 23, 3) := by decide +kernel
theorem dL_law_184 : decode cL_law 184 = .ok (.aload_n 2, 1) := by decide +kernel
theorem dL_law_185 : decode cL_law 185 = .ok (.invokevirtual 26, 3) := by decide +kernel
theorem dL_law_188 : decode cL_law 188 = .ok (.if_icmp .eq 580, 3) := by decide +kernel
theorem dL_law_191 : decode cL_law 191 = .ok (.iconst 0, 1) := by decide +kernel
theorem dL_law_192 : decode cL_law 192 = .ok (.ireturn, 1) := by decide +kernel
theorem dL_law_193 : decode cL_law 193 = .ok (.aload_n 1, 1) := by decide +kernel
theorem dL_law_194 : decode cL_law 194 = .ok (.invokevirtual 27, 3) := by decide +kernel
theorem dL_law_197 : decode cL_law 197 = .ok (.aload_n 2, 1) := by decide +kernel
theorem dL_law_198 : decode cL_law 198 = .ok (.invokevirtual 30, 3) := by decide +kernel
theorem dL_law_201 : decode cL_law 201 = .ok (.if_icmp .eq 567, 3) := by decide +kernel
theorem dL_law_204 : decode cL_law 204 = .ok (.iconst 0, 1) := by decide +kernel
theorem dL_law_205 : decode cL_law 205 = .ok (.ireturn, 1) := by decide +kernel
theorem dL_law_206 : decode cL_law 206 = .ok (.aload_n 1, 1) := by decide +kernel
theorem dL_law_207 : decode cL_law 207 = .ok (.aload_n 0, 1) := by decide +kernel
theorem dL_law_208 : decode cL_law 208 = .ok (.iload_n 3, 1) := by decide +kernel
theorem dL_law_209 : decode cL_law 209 = .ok (.iconst 1, 1) := by decide +kernel
theorem dL_law_210 : decode cL_law 210 = .ok (.iadd, 1) := by decide +kernel
theorem dL_law_211 : decode cL_law 211 = .ok (.iaload, 1) := by decide +kernel
theorem dL_law_212 : decode cL_law 212 = .ok (.aload_n 0, 1) := by decide +kernel
theorem dL_law_213 : decode cL_law 213 = .ok (.iload_n 3, 1) := by decide +kernel
theorem dL_law_214 : decode cL_law 214 = .ok (.iconst 2, 1) := by decide +kernel
theorem dL_law_215 : decode cL_law 215 = .ok (.iadd, 1) := by decide +kernel
theorem dL_law_216 : decode cL_law 216 = .ok (.iaload, 1) := by decide +kernel
theorem dL_law_217 : decode cL_law 217 = .ok (.invokevirtual 31, 3) := by decide +kernel
theorem dL_law_220 : decode cL_law 220 = .ok (.aload_n 2, 1) := by decide +kernel
theorem dL_law_221 : decode cL_law 221 = .ok (.aload_n 0, 1) := by decide +kernel
theorem dL_law_222 : decode cL_law 222 = .ok (.iload_n 3, 1) := by decide +kernel
theorem dL_law_223 : decode cL_law 223 = .ok (.iconst 1, 1) := by decide +kernel
theorem dL_law_224 : decode cL_law 224 = .ok (.iadd, 1) := by decide +kernel
theorem dL_law_225 : decode cL_law 225 = .ok (.iaload, 1) := by decide +kernel
theorem dL_law_226 : decode cL_law 226 = .ok (.aload_n 0, 1) := by decide +kernel
theorem dL_law_227 : decode cL_law 227 = .ok (.iload_n 3, 1) := by decide +kernel
theorem dL_law_228 : decode cL_law 228 = .ok (.iconst 2, 1) := by decide +kernel
theorem dL_law_229 : decode cL_law 229 = .ok (.iadd, 1) := by decide +kernel
theorem dL_law_230 : decode cL_law 230 = .ok (.iaload, 1) := by decide +kernel
theorem dL_law_231 : decode cL_law 231 = .ok (.invokevirtual 35, 3) := by decide +kernel
theorem dL_law_234 : decode cL_law 234 = .ok (.if_icmp .eq 534, 3) := by decide +kernel
theorem dL_law_237 : decode cL_law 237 = .ok (.iconst 0, 1) := by decide +kernel
theorem dL_law_238 : decode cL_law 238 = .ok (.ireturn, 1) := by decide +kernel
theorem dL_law_239 : decode cL_law 239 = .ok (.aload_n 1, 1) := by decide +kernel
theorem dL_law_240 : decode cL_law 240 = .ok (.aload_n 0, 1) := by decide +kernel
theorem dL_law_241 : decode cL_law 241 = .ok (.iload_n 3, 1) := by decide +kernel
theorem dL_law_242 : decode cL_law 242 = .ok (.iconst 1, 1) := by decide +kernel
theorem dL_law_243 : decode cL_law 243 = .ok (.iadd, 1) := by decide +kernel
theorem dL_law_244 : decode cL_law 244 = .ok (.iaload, 1) := by decide +kernel
theorem dL_law_245 : decode cL_law 245 = .ok (.aload_n 0, 1) := by decide +kernel
theorem dL_law_246 : decode cL_law 246 = .ok (.iload_n 3, 1) := by decide +kernel
theorem dL_law_247 : decode cL_law 247 = .ok (.iconst 2, 1) := by decide +kernel
theorem dL_law_248 : decode cL_law 248 = .ok (.iadd, 1) := by decide +kernel
theorem dL_law_249 : decode cL_law 249 = .ok (.iaload, 1) := by decide +kernel
theorem dL_law_250 : decode cL_law 250 = .ok (.invokevirtual 36, 3) := by decide +kernel
theorem dL_law_253 : decode cL_law 253 = .ok (.aload_n 2, 1) := by decide +kernel
theorem dL_law_254 : decode cL_law 254 = .ok (.aload_n 0, 1) := by decide +kernel
theorem dL_law_255 : decode cL_law 255 = .ok (.iload_n 3, 1) := by decide +kernel
theorem dL_law_256 : decode cL_law 256 = .ok (.iconst 1, 1) := by decide +kernel
theorem dL_law_257 : decode cL_law 257 = .ok (.iadd, 1) := by decide +kernel
theorem dL_law_258 : decode cL_law 258 = .ok (.iaload, 1) := by decide +kernel
theorem dL_law_259 : decode cL_law 259 = .ok (.aload_n 0, 1) := by decide +kernel
theorem dL_law_260 : decode cL_law 260 = .ok (.iload_n 3, 1) := by decide +kernel
theorem dL_law_261 : decode cL_law 261 = .ok (.iconst 2, 1) := by decide +kernel
theorem dL_law_262 : decode cL_law 262 = .ok (.iadd, 1) := by decide +kernel
theorem dL_law_263 : decode cL_law 263 = .ok (.iaload, 1) := by decide +kernel
theorem dL_law_264 : decode cL_law 264 = .ok (.invokevirtual 39, 3) := by decide +kernel
theorem dL_law_267 : decode cL_law 267 = .ok (.if_icmp .eq 501, 3) := by decide +kernel
theorem dL_law_270 : decode cL_law 270 = .ok (.iconst 0, 1) := by decide +kernel
theorem dL_law_271 : decode cL_law 271 = .ok (.ireturn, 1) := by decide +kernel
theorem dL_law_272 : decode cL_law 272 = .ok (.aload_n 1, 1) := by decide +kernel
theorem dL_law_273 : decode cL_law 273 = .ok (.aload_n 0, 1) := by decide +kernel
theorem dL_law_274 : decode cL_law 274 = .ok (.iload_n 3, 1) := by decide +kernel
theorem dL_law_275 : decode cL_law 275 = .ok (.iconst 1, 1) := by decide +kernel
theorem dL_law_276 : decode cL_law 276 = .ok (.iadd, 1) := by decide +kernel
theorem dL_law_277 : decode cL_law 277 = .ok (.iaload, 1) := by decide +kernel
theorem dL_law_278 : decode cL_law 278 = .ok (.invokevirtual 40, 3) := by decide +kernel
theorem dL_law_281 : decode cL_law 281 = .ok (.aload_n 2, 1) := by decide +kernel
theorem dL_law_282 : decode cL_law 282 = .ok (.aload_n 0, 1) := by decide +kernel
theorem dL_law_283 : decode cL_law 283 = .ok (.iload_n 3, 1) := by decide +kernel
theorem dL_law_284 : decode cL_law 284 = .ok (.iconst 1, 1) := by decide +kernel
theorem dL_law_285 : decode cL_law 285 = .ok (.iadd, 1) := by decide +kernel
theorem dL_law_286 : decode cL_law 286 = .ok (.iaload, 1) := by decide +kernel
theorem dL_law_287 : decode cL_law 287 = .ok (.invokevirtual 43, 3) := by decide +kernel
theorem dL_law_290 : decode cL_law 290 = .ok (.if_icmp .eq 478, 3) := by decide +kernel
theorem dL_law_293 : decode cL_law 293 = .ok (.iconst 0, 1) := by decide +kernel
theorem dL_law_294 : decode cL_law 294 = .ok (.ireturn, 1) := by decide +kernel
theorem dL_law_295 : decode cL_law 295 = .ok (.aload_n 1, 1) := by decide +kernel
theorem dL_law_296 : decode cL_law 296 = .ok (.aload_n 0, 1) := by decide +kernel
theorem dL_law_297 : decode cL_law 297 = .ok (.iload_n 3, 1) := by decide +kernel
theorem dL_law_298 : decode cL_law 298 = .ok (.iconst 1, 1) := by decide +kernel
theorem dL_law_299 : decode cL_law 299 = .ok (.iadd, 1) := by decide +kernel
theorem dL_law_300 : decode cL_law 300 = .ok (.iaload, 1) := by decide +kernel
theorem dL_law_301 : decode cL_law 301 = .ok (.invokevirtual 44, 3) := by decide +kernel
theorem dL_law_304 : decode cL_law 304 = .ok (.aload_n 2, 1) := by decide +kernel
theorem dL_law_305 : decode cL_law 305 = .ok (.aload_n 0, 1) := by decide +kernel
theorem dL_law_306 : decode cL_law 306 = .ok (.iload_n 3, 1) := by decide +kernel
theorem dL_law_307 : decode cL_law 307 = .ok (.iconst 1, 1) := by decide +kernel
theorem dL_law_308 : decode cL_law 308 = .ok (.iadd, 1) := by decide +kernel
theorem dL_law_309 : decode cL_law 309 = .ok (.iaload, 1) := by decide +kernel
theorem dL_law_310 : decode cL_law 310 = .ok (.invokevirtual 47, 3) := by decide +kernel
theorem dL_law_313 : decode cL_law 313 = .ok (.if_icmp .eq 455, 3) := by decide +kernel
theorem dL_law_316 : decode cL_law 316 = .ok (.iconst 0, 1) := by decide +kernel
theorem dL_law_317 : decode cL_law 317 = .ok (.ireturn, 1) := by decide +kernel
theorem dL_law_318 : decode cL_law 318 = .ok (.aload_n 1, 1) := by decide +kernel
theorem dL_law_319 : decode cL_law 319 = .ok (.aload_n 0, 1) := by decide +kernel
theorem dL_law_320 : decode cL_law 320 = .ok (.iload_n 3, 1) := by decide +kernel
theorem dL_law_321 : decode cL_law 321 = .ok (.iconst 1, 1) := by decide +kernel
theorem dL_law_322 : decode cL_law 322 = .ok (.iadd, 1) := by decide +kernel
theorem dL_law_323 : decode cL_law 323 = .ok (.iaload, 1) := by decide +kernel
theorem dL_law_324 : decode cL_law 324 = .ok (.aload_n 0, 1) := by decide +kernel
theorem dL_law_325 : decode cL_law 325 = .ok (.iload_n 3, 1) := by decide +kernel
theorem dL_law_326 : decode cL_law 326 = .ok (.iconst 2, 1) := by decide +kernel
theorem dL_law_327 : decode cL_law 327 = .ok (.iadd, 1) := by decide +kernel
theorem dL_law_328 : decode cL_law 328 = .ok (.iaload, 1) := by decide +kernel
theorem dL_law_329 : decode cL_law 329 = .ok (.invokevirtual 48, 3) := by decide +kernel
theorem dL_law_332 : decode cL_law 332 = .ok (.aload_n 2, 1) := by decide +kernel
theorem dL_law_333 : decode cL_law 333 = .ok (.aload_n 0, 1) := by decide +kernel
theorem dL_law_334 : decode cL_law 334 = .ok (.iload_n 3, 1) := by decide +kernel
theorem dL_law_335 : decode cL_law 335 = .ok (.iconst 1, 1) := by decide +kernel
theorem dL_law_336 : decode cL_law 336 = .ok (.iadd, 1) := by decide +kernel
theorem dL_law_337 : decode cL_law 337 = .ok (.iaload, 1) := by decide +kernel
theorem dL_law_338 : decode cL_law 338 = .ok (.aload_n 0, 1) := by decide +kernel
theorem dL_law_339 : decode cL_law 339 = .ok (.iload_n 3, 1) := by decide +kernel
theorem dL_law_340 : decode cL_law 340 = .ok (.iconst 2, 1) := by decide +kernel
theorem dL_law_341 : decode cL_law 341 = .ok (.iadd, 1) := by decide +kernel
theorem dL_law_342 : decode cL_law 342 = .ok (.iaload, 1) := by decide +kernel
theorem dL_law_343 : decode cL_law 343 = .ok (.invokevirtual 51, 3) := by decide +kernel
theorem dL_law_346 : decode cL_law 346 = .ok (.if_icmp .eq 422, 3) := by decide +kernel
theorem dL_law_349 : decode cL_law 349 = .ok (.iconst 0, 1) := by decide +kernel
theorem dL_law_350 : decode cL_law 350 = .ok (.ireturn, 1) := by decide +kernel
theorem dL_law_351 : decode cL_law 351 = .ok (.aload_n 1, 1) := by decide +kernel
theorem dL_law_352 : decode cL_law 352 = .ok (.aload_n 0, 1) := by decide +kernel
theorem dL_law_353 : decode cL_law 353 = .ok (.iload_n 3, 1) := by decide +kernel
theorem dL_law_354 : decode cL_law 354 = .ok (.iconst 1, 1) := by decide +kernel
theorem dL_law_355 : decode cL_law 355 = .ok (.iadd, 1) := by decide +kernel
theorem dL_law_356 : decode cL_law 356 = .ok (.iaload, 1) := by decide +kernel
theorem dL_law_357 : decode cL_law 357 = .ok (.invokevirtual 52, 3) := by decide +kernel
theorem dL_law_360 : decode cL_law 360 = .ok (.aload_n 2, 1) := by decide +kernel
theorem dL_law_361 : decode cL_law 361 = .ok (.aload_n 0, 1) := by decide +kernel
theorem dL_law_362 : decode cL_law 362 = .ok (.iload_n 3, 1) := by decide +kernel
theorem dL_law_363 : decode cL_law 363 = .ok (.iconst 1, 1) := by decide +kernel
theorem dL_law_364 : decode cL_law 364 = .ok (.iadd, 1) := by decide +kernel
theorem dL_law_365 : decode cL_law 365 = .ok (.iaload, 1) := by decide +kernel
theorem dL_law_366 : decode cL_law 366 = .ok (.invokevirtual 55, 3) := by decide +kernel
theorem dL_law_369 : decode cL_law 369 = .ok (.if_icmp .eq 399, 3) := by decide +kernel
theorem dL_law_372 : decode cL_law 372 = .ok (.iconst 0, 1) := by decide +kernel
theorem dL_law_373 : decode cL_law 373 = .ok (.ireturn, 1) := by decide +kernel
theorem dL_law_374 : decode cL_law 374 = .ok (.aload_n 1, 1) := by decide +kernel
theorem dL_law_375 : decode cL_law 375 = .ok (.aload_n 0, 1) := by decide +kernel
theorem dL_law_376 : decode cL_law 376 = .ok (.iload_n 3, 1) := by decide +kernel
theorem dL_law_377 : decode cL_law 377 = .ok (.iconst 1, 1) := by decide +kernel
theorem dL_law_378 : decode cL_law 378 = .ok (.iadd, 1) := by decide +kernel
theorem dL_law_379 : decode cL_law 379 = .ok (.iaload, 1) := by decide +kernel
theorem dL_law_380 : decode cL_law 380 = .ok (.aload_n 0, 1) := by decide +kernel
theorem dL_law_381 : decode cL_law 381 = .ok (.iload_n 3, 1) := by decide +kernel
theorem dL_law_382 : decode cL_law 382 = .ok (.iconst 2, 1) := by decide +kernel
theorem dL_law_383 : decode cL_law 383 = .ok (.iadd, 1) := by decide +kernel
theorem dL_law_384 : decode cL_law 384 = .ok (.iaload, 1) := by decide +kernel
theorem dL_law_385 : decode cL_law 385 = .ok (.invokevirtual 56, 3) := by decide +kernel
theorem dL_law_388 : decode cL_law 388 = .ok (.aload_n 2, 1) := by decide +kernel
theorem dL_law_389 : decode cL_law 389 = .ok (.aload_n 0, 1) := by decide +kernel
theorem dL_law_390 : decode cL_law 390 = .ok (.iload_n 3, 1) := by decide +kernel
theorem dL_law_391 : decode cL_law 391 = .ok (.iconst 1, 1) := by decide +kernel
theorem dL_law_392 : decode cL_law 392 = .ok (.iadd, 1) := by decide +kernel
theorem dL_law_393 : decode cL_law 393 = .ok (.iaload, 1) := by decide +kernel
theorem dL_law_394 : decode cL_law 394 = .ok (.aload_n 0, 1) := by decide +kernel
theorem dL_law_395 : decode cL_law 395 = .ok (.iload_n 3, 1) := by decide +kernel
theorem dL_law_396 : decode cL_law 396 = .ok (.iconst 2, 1) := by decide +kernel
theorem dL_law_397 : decode cL_law 397 = .ok (.iadd, 1) := by decide +kernel
theorem dL_law_398 : decode cL_law 398 = .ok (.iaload, 1) := by decide +kernel
theorem dL_law_399 : decode cL_law 399 = .ok (.invokevirtual 59, 3) := by decide +kernel
theorem dL_law_402 : decode cL_law 402 = .ok (.if_icmp .eq 366, 3) := by decide +kernel
theorem dL_law_405 : decode cL_law 405 = .ok (.iconst 0, 1) := by decide +kernel
theorem dL_law_406 : decode cL_law 406 = .ok (.ireturn, 1) := by decide +kernel
theorem dL_law_407 : decode cL_law 407 = .ok (.aload_n 1, 1) := by decide +kernel
theorem dL_law_408 : decode cL_law 408 = .ok (.aload_n 0, 1) := by decide +kernel
theorem dL_law_409 : decode cL_law 409 = .ok (.iload_n 3, 1) := by decide +kernel
theorem dL_law_410 : decode cL_law 410 = .ok (.iconst 1, 1) := by decide +kernel
theorem dL_law_411 : decode cL_law 411 = .ok (.iadd, 1) := by decide +kernel
theorem dL_law_412 : decode cL_law 412 = .ok (.iaload, 1) := by decide +kernel
theorem dL_law_413 : decode cL_law 413 = .ok (.aload_n 0, 1) := by decide +kernel
theorem dL_law_414 : decode cL_law 414 = .ok (.iload_n 3, 1) := by decide +kernel
theorem dL_law_415 : decode cL_law 415 = .ok (.iconst 2, 1) := by decide +kernel
theorem dL_law_416 : decode cL_law 416 = .ok (.iadd, 1) := by decide +kernel
theorem dL_law_417 : decode cL_law 417 = .ok (.iaload, 1) := by decide +kernel
theorem dL_law_418 : decode cL_law 418 = .ok (.aload_n 0, 1) := by decide +kernel
theorem dL_law_419 : decode cL_law 419 = .ok (.iload_n 3, 1) := by decide +kernel
theorem dL_law_420 : decode cL_law 420 = .ok (.iconst 3, 1) := by decide +kernel
theorem dL_law_421 : decode cL_law 421 = .ok (.iadd, 1) := by decide +kernel
theorem dL_law_422 : decode cL_law 422 = .ok (.iaload, 1) := by decide +kernel
theorem dL_law_423 : decode cL_law 423 = .ok (.invokevirtual 60, 3) := by decide +kernel
theorem dL_law_426 : decode cL_law 426 = .ok (.aload_n 2, 1) := by decide +kernel
theorem dL_law_427 : decode cL_law 427 = .ok (.aload_n 0, 1) := by decide +kernel
theorem dL_law_428 : decode cL_law 428 = .ok (.iload_n 3, 1) := by decide +kernel
theorem dL_law_429 : decode cL_law 429 = .ok (.iconst 1, 1) := by decide +kernel
theorem dL_law_430 : decode cL_law 430 = .ok (.iadd, 1) := by decide +kernel
theorem dL_law_431 : decode cL_law 431 = .ok (.iaload, 1) := by decide +kernel
theorem dL_law_432 : decode cL_law 432 = .ok (.aload_n 0, 1) := by decide +kernel
theorem dL_law_433 : decode cL_law 433 = .ok (.iload_n 3, 1) := by decide +kernel
theorem dL_law_434 : decode cL_law 434 = .ok (.iconst 2, 1) := by decide +kernel
theorem dL_law_435 : decode cL_law 435 = .ok (.iadd, 1) := by decide +kernel
theorem dL_law_436 : decode cL_law 436 = .ok (.iaload, 1) := by decide +kernel
theorem dL_law_437 : decode cL_law 437 = .ok (.aload_n 0, 1) := by decide +kernel
theorem dL_law_438 : decode cL_law 438 = .ok (.iload_n 3, 1) := by decide +kernel
theorem dL_law_439 : decode cL_law 439 = .ok (.iconst 3, 1) := by decide +kernel
theorem dL_law_440 : decode cL_law 440 = .ok (.iadd, 1) := by decide +kernel
theorem dL_law_441 : decode cL_law 441 = .ok (.iaload, 1) := by decide +kernel
theorem dL_law_442 : decode cL_law 442 = .ok (.invokevirtual 64, 3) := by decide +kernel
theorem dL_law_445 : decode cL_law 445 = .ok (.if_icmp .eq 323, 3) := by decide +kernel
theorem dL_law_448 : decode cL_law 448 = .ok (.iconst 0, 1) := by decide +kernel
theorem dL_law_449 : decode cL_law 449 = .ok (.ireturn, 1) := by decide +kernel
theorem dL_law_450 : decode cL_law 450 = .ok (.aload_n 1, 1) := by decide +kernel
theorem dL_law_451 : decode cL_law 451 = .ok (.aload_n 0, 1) := by decide +kernel
theorem dL_law_452 : decode cL_law 452 = .ok (.iload_n 3, 1) := by decide +kernel
theorem dL_law_453 : decode cL_law 453 = .ok (.iconst 1, 1) := by decide +kernel
theorem dL_law_454 : decode cL_law 454 = .ok (.iadd, 1) := by decide +kernel
theorem dL_law_455 : decode cL_law 455 = .ok (.iaload, 1) := by decide +kernel
theorem dL_law_456 : decode cL_law 456 = .ok (.aload_n 0, 1) := by decide +kernel
theorem dL_law_457 : decode cL_law 457 = .ok (.iload_n 3, 1) := by decide +kernel
theorem dL_law_458 : decode cL_law 458 = .ok (.iconst 2, 1) := by decide +kernel
theorem dL_law_459 : decode cL_law 459 = .ok (.iadd, 1) := by decide +kernel
theorem dL_law_460 : decode cL_law 460 = .ok (.iaload, 1) := by decide +kernel
theorem dL_law_461 : decode cL_law 461 = .ok (.aload_n 0, 1) := by decide +kernel
theorem dL_law_462 : decode cL_law 462 = .ok (.iload_n 3, 1) := by decide +kernel
theorem dL_law_463 : decode cL_law 463 = .ok (.iconst 3, 1) := by decide +kernel
theorem dL_law_464 : decode cL_law 464 = .ok (.iadd, 1) := by decide +kernel
theorem dL_law_465 : decode cL_law 465 = .ok (.iaload, 1) := by decide +kernel
theorem dL_law_466 : decode cL_law 466 = .ok (.aload_n 0, 1) := by decide +kernel
theorem dL_law_467 : decode cL_law 467 = .ok (.iload_n 3, 1) := by decide +kernel
theorem dL_law_468 : decode cL_law 468 = .ok (.iconst 4, 1) := by decide +kernel
theorem dL_law_469 : decode cL_law 469 = .ok (.iadd, 1) := by decide +kernel
theorem dL_law_470 : decode cL_law 470 = .ok (.iaload, 1) := by decide +kernel
theorem dL_law_471 : decode cL_law 471 = .ok (.invokevirtual 65, 3) := by decide +kernel
theorem dL_law_474 : decode cL_law 474 = .ok (.aload_n 2, 1) := by decide +kernel
theorem dL_law_475 : decode cL_law 475 = .ok (.aload_n 0, 1) := by decide +kernel
theorem dL_law_476 : decode cL_law 476 = .ok (.iload_n 3, 1) := by decide +kernel
theorem dL_law_477 : decode cL_law 477 = .ok (.iconst 1, 1) := by decide +kernel
theorem dL_law_478 : decode cL_law 478 = .ok (.iadd, 1) := by decide +kernel
theorem dL_law_479 : decode cL_law 479 = .ok (.iaload, 1) := by decide +kernel
theorem dL_law_480 : decode cL_law 480 = .ok (.aload_n 0, 1) := by decide +kernel
theorem dL_law_481 : decode cL_law 481 = .ok (.iload_n 3, 1) := by decide +kernel
theorem dL_law_482 : decode cL_law 482 = .ok (.iconst 2, 1) := by decide +kernel
theorem dL_law_483 : decode cL_law 483 = .ok (.iadd, 1) := by decide +kernel
theorem dL_law_484 : decode cL_law 484 = .ok (.iaload, 1) := by decide +kernel
theorem dL_law_485 : decode cL_law 485 = .ok (.aload_n 0, 1) := by decide +kernel
theorem dL_law_486 : decode cL_law 486 = .ok (.iload_n 3, 1) := by decide +kernel
theorem dL_law_487 : decode cL_law 487 = .ok (.iconst 3, 1) := by decide +kernel
theorem dL_law_488 : decode cL_law 488 = .ok (.iadd, 1) := by decide +kernel
theorem dL_law_489 : decode cL_law 489 = .ok (.iaload, 1) := by decide +kernel
theorem dL_law_490 : decode cL_law 490 = .ok (.aload_n 0, 1) := by decide +kernel
theorem dL_law_491 : decode cL_law 491 = .ok (.iload_n 3, 1) := by decide +kernel
theorem dL_law_492 : decode cL_law 492 = .ok (.iconst 4, 1) := by decide +kernel
theorem dL_law_493 : decode cL_law 493 = .ok (.iadd, 1) := by decide +kernel
theorem dL_law_494 : decode cL_law 494 = .ok (.iaload, 1) := by decide +kernel
theorem dL_law_495 : decode cL_law 495 = .ok (.invokevirtual 69, 3) := by decide +kernel
theorem dL_law_498 : decode cL_law 498 = .ok (.if_icmp .eq 270, 3) := by decide +kernel
theorem dL_law_501 : decode cL_law 501 = .ok (.iconst 0, 1) := by decide +kernel
theorem dL_law_502 : decode cL_law 502 = .ok (.ireturn, 1) := by decide +kernel
theorem dL_law_503 : decode cL_law 503 = .ok (.aload_n 1, 1) := by decide +kernel
theorem dL_law_504 : decode cL_law 504 = .ok (.aload_n 0, 1) := by decide +kernel
theorem dL_law_505 : decode cL_law 505 = .ok (.iload_n 3, 1) := by decide +kernel
theorem dL_law_506 : decode cL_law 506 = .ok (.iconst 1, 1) := by decide +kernel
theorem dL_law_507 : decode cL_law 507 = .ok (.iadd, 1) := by decide +kernel
theorem dL_law_508 : decode cL_law 508 = .ok (.iaload, 1) := by decide +kernel
theorem dL_law_509 : decode cL_law 509 = .ok (.invokevirtual 70, 3) := by decide +kernel
theorem dL_law_512 : decode cL_law 512 = .ok (.aload_n 2, 1) := by decide +kernel
theorem dL_law_513 : decode cL_law 513 = .ok (.aload_n 0, 1) := by decide +kernel
theorem dL_law_514 : decode cL_law 514 = .ok (.iload_n 3, 1) := by decide +kernel
theorem dL_law_515 : decode cL_law 515 = .ok (.iconst 1, 1) := by decide +kernel
theorem dL_law_516 : decode cL_law 516 = .ok (.iadd, 1) := by decide +kernel
theorem dL_law_517 : decode cL_law 517 = .ok (.iaload, 1) := by decide +kernel
theorem dL_law_518 : decode cL_law 518 = .ok (.invokevirtual 73, 3) := by decide +kernel
theorem dL_law_521 : decode cL_law 521 = .ok (.if_icmp .eq 247, 3) := by decide +kernel
theorem dL_law_524 : decode cL_law 524 = .ok (.iconst 0, 1) := by decide +kernel
theorem dL_law_525 : decode cL_law 525 = .ok (.ireturn, 1) := by decide +kernel
theorem dL_law_526 : decode cL_law 526 = .ok (.aload_n 1, 1) := by decide +kernel
theorem dL_law_527 : decode cL_law 527 = .ok (.aload_n 0, 1) := by decide +kernel
theorem dL_law_528 : decode cL_law 528 = .ok (.iload_n 3, 1) := by decide +kernel
theorem dL_law_529 : decode cL_law 529 = .ok (.iconst 1, 1) := by decide +kernel
theorem dL_law_530 : decode cL_law 530 = .ok (.iadd, 1) := by decide +kernel
theorem dL_law_531 : decode cL_law 531 = .ok (.iaload, 1) := by decide +kernel
theorem dL_law_532 : decode cL_law 532 = .ok (.invokevirtual 74, 3) := by decide +kernel
theorem dL_law_535 : decode cL_law 535 = .ok (.aload_n 2, 1) := by decide +kernel
theorem dL_law_536 : decode cL_law 536 = .ok (.aload_n 0, 1) := by decide +kernel
theorem dL_law_537 : decode cL_law 537 = .ok (.iload_n 3, 1) := by decide +kernel
theorem dL_law_538 : decode cL_law 538 = .ok (.iconst 1, 1) := by decide +kernel
theorem dL_law_539 : decode cL_law 539 = .ok (.iadd, 1) := by decide +kernel
theorem dL_law_540 : decode cL_law 540 = .ok (.iaload, 1) := by decide +kernel
theorem dL_law_541 : decode cL_law 541 = .ok (.invokevirtual 77, 3) := by decide +kernel
theorem dL_law_544 : decode cL_law 544 = .ok (.if_icmp .eq 224, 3) := by decide +kernel
theorem dL_law_547 : decode cL_law 547 = .ok (.iconst 0, 1) := by decide +kernel
theorem dL_law_548 : decode cL_law 548 = .ok (.ireturn, 1) := by decide +kernel
theorem dL_law_549 : decode cL_law 549 = .ok (.aload_n 1, 1) := by decide +kernel
theorem dL_law_550 : decode cL_law 550 = .ok (.aload_n 0, 1) := by decide +kernel
theorem dL_law_551 : decode cL_law 551 = .ok (.iload_n 3, 1) := by decide +kernel
theorem dL_law_552 : decode cL_law 552 = .ok (.iconst 1, 1) := by decide +kernel
theorem dL_law_553 : decode cL_law 553 = .ok (.iadd, 1) := by decide +kernel
theorem dL_law_554 : decode cL_law 554 = .ok (.iaload, 1) := by decide +kernel
theorem dL_law_555 : decode cL_law 555 = .ok (.invokevirtual 78, 3) := by decide +kernel
theorem dL_law_558 : decode cL_law 558 = .ok (.aload_n 2, 1) := by decide +kernel
theorem dL_law_559 : decode cL_law 559 = .ok (.aload_n 0, 1) := by decide +kernel
theorem dL_law_560 : decode cL_law 560 = .ok (.iload_n 3, 1) := by decide +kernel
theorem dL_law_561 : decode cL_law 561 = .ok (.iconst 1, 1) := by decide +kernel
theorem dL_law_562 : decode cL_law 562 = .ok (.iadd, 1) := by decide +kernel
theorem dL_law_563 : decode cL_law 563 = .ok (.iaload, 1) := by decide +kernel
theorem dL_law_564 : decode cL_law 564 = .ok (.invokevirtual 81, 3) := by decide +kernel
theorem dL_law_567 : decode cL_law 567 = .ok (.if_icmp .eq 201, 3) := by decide +kernel
theorem dL_law_570 : decode cL_law 570 = .ok (.iconst 0, 1) := by decide +kernel
theorem dL_law_571 : decode cL_law 571 = .ok (.ireturn, 1) := by decide +kernel
theorem dL_law_572 : decode cL_law 572 = .ok (.aload_n 1, 1) := by decide +kernel
theorem dL_law_573 : decode cL_law 573 = .ok (.aload_n 0, 1) := by decide +kernel
theorem dL_law_574 : decode cL_law 574 = .ok (.iload_n 3, 1) := by decide +kernel
theorem dL_law_575 : decode cL_law 575 = .ok (.iconst 1, 1) := by decide +kernel
theorem dL_law_576 : decode cL_law 576 = .ok (.iadd, 1) := by decide +kernel
theorem dL_law_577 : decode cL_law 577 = .ok (.iaload, 1) := by decide +kernel
theorem dL_law_578 : decode cL_law 578 = .ok (.invokevirtual 82, 3) := by decide +kernel
theorem dL_law_581 : decode cL_law 581 = .ok (.aload_n 2, 1) := by decide +kernel
theorem dL_law_582 : decode cL_law 582 = .ok (.aload_n 0, 1) := by decide +kernel
theorem dL_law_583 : decode cL_law 583 = .ok (.iload_n 3, 1) := by decide +kernel
theorem dL_law_584 : decode cL_law 584 = .ok (.iconst 1, 1) := by decide +kernel
theorem dL_law_585 : decode cL_law 585 = .ok (.iadd, 1) := by decide +kernel
theorem dL_law_586 : decode cL_law 586 = .ok (.iaload, 1) := by decide +kernel
theorem dL_law_587 : decode cL_law 587 = .ok (.invokevirtual 86, 3) := by decide +kernel
theorem dL_law_590 : decode cL_law 590 = .ok (.lcmp, 1) := by decide +kernel
theorem dL_law_591 : decode cL_law 591 = .ok (.ifCond .eq 177, 3) := by decide +kernel
theorem dL_law_594 : decode cL_law 594 = .ok (.iconst 0, 1) := by decide +kernel
theorem dL_law_595 : decode cL_law 595 = .ok (.ireturn, 1) := by decide +kernel
theorem dL_law_596 : decode cL_law 596 = .ok (.aload_n 1, 1) := by decide +kernel
theorem dL_law_597 : decode cL_law 597 = .ok (.aload_n 0, 1) := by decide +kernel
theorem dL_law_598 : decode cL_law 598 = .ok (.iload_n 3, 1) := by decide +kernel
theorem dL_law_599 : decode cL_law 599 = .ok (.iconst 1, 1) := by decide +kernel
theorem dL_law_600 : decode cL_law 600 = .ok (.iadd, 1) := by decide +kernel
theorem dL_law_601 : decode cL_law 601 = .ok (.iaload, 1) := by decide +kernel
theorem dL_law_602 : decode cL_law 602 = .ok (.aload_n 0, 1) := by decide +kernel
theorem dL_law_603 : decode cL_law 603 = .ok (.iload_n 3, 1) := by decide +kernel
theorem dL_law_604 : decode cL_law 604 = .ok (.iconst 2, 1) := by decide +kernel
theorem dL_law_605 : decode cL_law 605 = .ok (.iadd, 1) := by decide +kernel
theorem dL_law_606 : decode cL_law 606 = .ok (.iaload, 1) := by decide +kernel
theorem dL_law_607 : decode cL_law 607 = .ok (.aload_n 0, 1) := by decide +kernel
theorem dL_law_608 : decode cL_law 608 = .ok (.iload_n 3, 1) := by decide +kernel
theorem dL_law_609 : decode cL_law 609 = .ok (.iconst 3, 1) := by decide +kernel
theorem dL_law_610 : decode cL_law 610 = .ok (.iadd, 1) := by decide +kernel
theorem dL_law_611 : decode cL_law 611 = .ok (.iaload, 1) := by decide +kernel
theorem dL_law_612 : decode cL_law 612 = .ok (.aload_n 0, 1) := by decide +kernel
theorem dL_law_613 : decode cL_law 613 = .ok (.iload_n 3, 1) := by decide +kernel
theorem dL_law_614 : decode cL_law 614 = .ok (.iconst 4, 1) := by decide +kernel
theorem dL_law_615 : decode cL_law 615 = .ok (.iadd, 1) := by decide +kernel
theorem dL_law_616 : decode cL_law 616 = .ok (.iaload, 1) := by decide +kernel
theorem dL_law_617 : decode cL_law 617 = .ok (.invokevirtual 87, 3) := by decide +kernel
theorem dL_law_620 : decode cL_law 620 = .ok (.aload_n 2, 1) := by decide +kernel
theorem dL_law_621 : decode cL_law 621 = .ok (.aload_n 0, 1) := by decide +kernel
theorem dL_law_622 : decode cL_law 622 = .ok (.iload_n 3, 1) := by decide +kernel
theorem dL_law_623 : decode cL_law 623 = .ok (.iconst 1, 1) := by decide +kernel
theorem dL_law_624 : decode cL_law 624 = .ok (.iadd, 1) := by decide +kernel
theorem dL_law_625 : decode cL_law 625 = .ok (.iaload, 1) := by decide +kernel
theorem dL_law_626 : decode cL_law 626 = .ok (.aload_n 0, 1) := by decide +kernel
theorem dL_law_627 : decode cL_law 627 = .ok (.iload_n 3, 1) := by decide +kernel
theorem dL_law_628 : decode cL_law 628 = .ok (.iconst 2, 1) := by decide +kernel
theorem dL_law_629 : decode cL_law 629 = .ok (.iadd, 1) := by decide +kernel
theorem dL_law_630 : decode cL_law 630 = .ok (.iaload, 1) := by decide +kernel
theorem dL_law_631 : decode cL_law 631 = .ok (.aload_n 0, 1) := by decide +kernel
theorem dL_law_632 : decode cL_law 632 = .ok (.iload_n 3, 1) := by decide +kernel
theorem dL_law_633 : decode cL_law 633 = .ok (.iconst 3, 1) := by decide +kernel
theorem dL_law_634 : decode cL_law 634 = .ok (.iadd, 1) := by decide +kernel
theorem dL_law_635 : decode cL_law 635 = .ok (.iaload, 1) := by decide +kernel
theorem dL_law_636 : decode cL_law 636 = .ok (.aload_n 0, 1) := by decide +kernel
theorem dL_law_637 : decode cL_law 637 = .ok (.iload_n 3, 1) := by decide +kernel
theorem dL_law_638 : decode cL_law 638 = .ok (.iconst 4, 1) := by decide +kernel
theorem dL_law_639 : decode cL_law 639 = .ok (.iadd, 1) := by decide +kernel
theorem dL_law_640 : decode cL_law 640 = .ok (.iaload, 1) := by decide +kernel
theorem dL_law_641 : decode cL_law 641 = .ok (.invokevirtual 90, 3) := by decide +kernel
theorem dL_law_644 : decode cL_law 644 = .ok (.if_icmp .eq 124, 3) := by decide +kernel
theorem dL_law_647 : decode cL_law 647 = .ok (.iconst 0, 1) := by decide +kernel
theorem dL_law_648 : decode cL_law 648 = .ok (.ireturn, 1) := by decide +kernel
theorem dL_law_649 : decode cL_law 649 = .ok (.aload_n 1, 1) := by decide +kernel
theorem dL_law_650 : decode cL_law 650 = .ok (.invokevirtual 91, 3) := by decide +kernel
theorem dL_law_653 : decode cL_law 653 = .ok (.aload_n 2, 1) := by decide +kernel
theorem dL_law_654 : decode cL_law 654 = .ok (.invokevirtual 94, 3) := by decide +kernel
theorem dL_law_657 : decode cL_law 657 = .ok (.if_icmp .eq 111, 3) := by decide +kernel
theorem dL_law_660 : decode cL_law 660 = .ok (.iconst 0, 1) := by decide +kernel
theorem dL_law_661 : decode cL_law 661 = .ok (.ireturn, 1) := by decide +kernel
theorem dL_law_662 : decode cL_law 662 = .ok (.aload_n 1, 1) := by decide +kernel
theorem dL_law_663 : decode cL_law 663 = .ok (.aload_n 0, 1) := by decide +kernel
theorem dL_law_664 : decode cL_law 664 = .ok (.iload_n 3, 1) := by decide +kernel
theorem dL_law_665 : decode cL_law 665 = .ok (.iconst 1, 1) := by decide +kernel
theorem dL_law_666 : decode cL_law 666 = .ok (.iadd, 1) := by decide +kernel
theorem dL_law_667 : decode cL_law 667 = .ok (.iaload, 1) := by decide +kernel
theorem dL_law_668 : decode cL_law 668 = .ok (.aload_n 0, 1) := by decide +kernel
theorem dL_law_669 : decode cL_law 669 = .ok (.iload_n 3, 1) := by decide +kernel
theorem dL_law_670 : decode cL_law 670 = .ok (.iconst 2, 1) := by decide +kernel
theorem dL_law_671 : decode cL_law 671 = .ok (.iadd, 1) := by decide +kernel
theorem dL_law_672 : decode cL_law 672 = .ok (.iaload, 1) := by decide +kernel
theorem dL_law_673 : decode cL_law 673 = .ok (.aload_n 0, 1) := by decide +kernel
theorem dL_law_674 : decode cL_law 674 = .ok (.iload_n 3, 1) := by decide +kernel
theorem dL_law_675 : decode cL_law 675 = .ok (.iconst 3, 1) := by decide +kernel
theorem dL_law_676 : decode cL_law 676 = .ok (.iadd, 1) := by decide +kernel
theorem dL_law_677 : decode cL_law 677 = .ok (.iaload, 1) := by decide +kernel
theorem dL_law_678 : decode cL_law 678 = .ok (.invokevirtual 95, 3) := by decide +kernel
theorem dL_law_681 : decode cL_law 681 = .ok (.aload_n 2, 1) := by decide +kernel
theorem dL_law_682 : decode cL_law 682 = .ok (.aload_n 0, 1) := by decide +kernel
theorem dL_law_683 : decode cL_law 683 = .ok (.iload_n 3, 1) := by decide +kernel
theorem dL_law_684 : decode cL_law 684 = .ok (.iconst 1, 1) := by decide +kernel
theorem dL_law_685 : decode cL_law 685 = .ok (.iadd, 1) := by decide +kernel
theorem dL_law_686 : decode cL_law 686 = .ok (.iaload, 1) := by decide +kernel
theorem dL_law_687 : decode cL_law 687 = .ok (.aload_n 0, 1) := by decide +kernel
theorem dL_law_688 : decode cL_law 688 = .ok (.iload_n 3, 1) := by decide +kernel
theorem dL_law_689 : decode cL_law 689 = .ok (.iconst 2, 1) := by decide +kernel
theorem dL_law_690 : decode cL_law 690 = .ok (.iadd, 1) := by decide +kernel
theorem dL_law_691 : decode cL_law 691 = .ok (.iaload, 1) := by decide +kernel
theorem dL_law_692 : decode cL_law 692 = .ok (.aload_n 0, 1) := by decide +kernel
theorem dL_law_693 : decode cL_law 693 = .ok (.iload_n 3, 1) := by decide +kernel
theorem dL_law_694 : decode cL_law 694 = .ok (.iconst 3, 1) := by decide +kernel
theorem dL_law_695 : decode cL_law 695 = .ok (.iadd, 1) := by decide +kernel
theorem dL_law_696 : decode cL_law 696 = .ok (.iaload, 1) := by decide +kernel
theorem dL_law_697 : decode cL_law 697 = .ok (.invokevirtual 98, 3) := by decide +kernel
theorem dL_law_700 : decode cL_law 700 = .ok (.if_icmp .eq 68, 3) := by decide +kernel
theorem dL_law_703 : decode cL_law 703 = .ok (.iconst 0, 1) := by decide +kernel
theorem dL_law_704 : decode cL_law 704 = .ok (.ireturn, 1) := by decide +kernel
theorem dL_law_705 : decode cL_law 705 = .ok (.aload_n 1, 1) := by decide +kernel
theorem dL_law_706 : decode cL_law 706 = .ok (.invokevirtual 99, 3) := by decide +kernel
theorem dL_law_709 : decode cL_law 709 = .ok (.aload_n 2, 1) := by decide +kernel
theorem dL_law_710 : decode cL_law 710 = .ok (.invokevirtual 102, 3) := by decide +kernel
theorem dL_law_713 : decode cL_law 713 = .ok (.if_icmp .eq 55, 3) := by decide +kernel
theorem dL_law_716 : decode cL_law 716 = .ok (.iconst 0, 1) := by decide +kernel
theorem dL_law_717 : decode cL_law 717 = .ok (.ireturn, 1) := by decide +kernel
theorem dL_law_718 : decode cL_law 718 = .ok (.aload_n 1, 1) := by decide +kernel
theorem dL_law_719 : decode cL_law 719 = .ok (.invokevirtual 103, 3) := by decide +kernel
theorem dL_law_722 : decode cL_law 722 = .ok (.aload_n 2, 1) := by decide +kernel
theorem dL_law_723 : decode cL_law 723 = .ok (.invokevirtual 106, 3) := by decide +kernel
theorem dL_law_726 : decode cL_law 726 = .ok (.if_icmp .eq 42, 3) := by decide +kernel
theorem dL_law_729 : decode cL_law 729 = .ok (.iconst 0, 1) := by decide +kernel
theorem dL_law_730 : decode cL_law 730 = .ok (.ireturn, 1) := by decide +kernel
theorem dL_law_731 : decode cL_law 731 = .ok (.aload_n 1, 1) := by decide +kernel
theorem dL_law_732 : decode cL_law 732 = .ok (.aload_n 0, 1) := by decide +kernel
theorem dL_law_733 : decode cL_law 733 = .ok (.iload_n 3, 1) := by decide +kernel
theorem dL_law_734 : decode cL_law 734 = .ok (.iconst 1, 1) := by decide +kernel
theorem dL_law_735 : decode cL_law 735 = .ok (.iadd, 1) := by decide +kernel
theorem dL_law_736 : decode cL_law 736 = .ok (.iaload, 1) := by decide +kernel
theorem dL_law_737 : decode cL_law 737 = .ok (.invokevirtual 107, 3) := by decide +kernel
theorem dL_law_740 : decode cL_law 740 = .ok (.aload_n 2, 1) := by decide +kernel
theorem dL_law_741 : decode cL_law 741 = .ok (.aload_n 0, 1) := by decide +kernel
theorem dL_law_742 : decode cL_law 742 = .ok (.iload_n 3, 1) := by decide +kernel
theorem dL_law_743 : decode cL_law 743 = .ok (.iconst 1, 1) := by decide +kernel
theorem dL_law_744 : decode cL_law 744 = .ok (.iadd, 1) := by decide +kernel
theorem dL_law_745 : decode cL_law 745 = .ok (.iaload, 1) := by decide +kernel
theorem dL_law_746 : decode cL_law 746 = .ok (.invokevirtual 110, 3) := by decide +kernel
theorem dL_law_749 : decode cL_law 749 = .ok (.if_icmp .eq 19, 3) := by decide +kernel
theorem dL_law_752 : decode cL_law 752 = .ok (.iconst 0, 1) := by decide +kernel
theorem dL_law_753 : decode cL_law 753 = .ok (.ireturn, 1) := by decide +kernel
theorem dL_law_754 : decode cL_law 754 = .ok (.aload_n 1, 1) := by decide +kernel
theorem dL_law_755 : decode cL_law 755 = .ok (.invokevirtual 111, 3) := by decide +kernel
theorem dL_law_758 : decode cL_law 758 = .ok (.aload_n 2, 1) := by decide +kernel
theorem dL_law_759 : decode cL_law 759 = .ok (.invokevirtual 115, 3) := by decide +kernel
theorem dL_law_762 : decode cL_law 762 = .ok (.lcmp, 1) := by decide +kernel
theorem dL_law_763 : decode cL_law 763 = .ok (.ifCond .eq 5, 3) := by decide +kernel
theorem dL_law_766 : decode cL_law 766 = .ok (.iconst 0, 1) := by decide +kernel
theorem dL_law_767 : decode cL_law 767 = .ok (.ireturn, 1) := by decide +kernel
theorem dL_law_768 : decode cL_law 768 = .ok (.iinc 3 5, 3) := by decide +kernel
theorem dL_law_771 : decode cL_law 771 = .ok (.goto (-753), 3) := by decide +kernel
theorem dL_law_774 : decode cL_law 774 = .ok (.iconst 1, 1) := by decide +kernel
theorem dL_law_775 : decode cL_law 775 = .ok (.ireturn, 1) := by decide +kernel
