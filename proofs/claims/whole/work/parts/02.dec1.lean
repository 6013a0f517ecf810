theorem dX7_init_0 : decode cX7_init 0 = .ok (.aload_n 0, 1) := by decide +kernel
theorem dX7_init_1 : decode cX7_init 1 = .ok (.invokespecial 1, 3) := by decide +kernel
theorem dX7_init_4 : decode cX7_init 4 = .ok (.aload_n 0, 1) := by decide +kernel
theorem dX7_init_5 : decode cX7_init 5 = .ok (.bipush 85, 2) := by decide +kernel
theorem dX7_init_7 : decode cX7_init 7 = .ok (.newarray .int, 2) := by decide +kernel
theorem dX7_init_9 : decode cX7_init 9 = .ok (.putfield 7, 3) := by decide +kernel
theorem dX7_init_12 : decode cX7_init 12 = .ok (.aload_n 0, 1) := by decide +kernel
theorem dX7_init_13 : decode cX7_init 13 = .ok (.sipush 255, 3) := by decide +kernel
theorem dX7_init_16 : decode cX7_init 16 = .ok (.newarray .int, 2) := by decide +kernel
theorem dX7_init_18 : decode cX7_init 18 = .ok (.putfield 13, 3) := by decide +kernel
theorem dX7_init_21 : decode cX7_init 21 = .ok (.aload_n 0, 1) := by decide +kernel
theorem dX7_init_22 : decode cX7_init 22 = .ok (.iconst 3, 1) := by decide +kernel
theorem dX7_init_23 : decode cX7_init 23 = .ok (.newarray .boolean, 2) := by decide +kernel
theorem dX7_init_25 : decode cX7_init 25 = .ok (.putfield 16, 3) := by decide +kernel
theorem dX7_init_28 : decode cX7_init 28 = .ok (.aload_n 0, 1) := by decide +kernel
theorem dX7_init_29 : decode cX7_init 29 = .ok (.sipush 240, 3) := by decide +kernel
theorem dX7_init_32 : decode cX7_init 32 = .ok (.newarray .int, 2) := by decide +kernel
theorem dX7_init_34 : decode cX7_init 34 = .ok (.putfield 20, 3) := by decide +kernel
theorem dX7_init_37 : decode cX7_init 37 = .ok (.aload_n 0, 1) := by decide +kernel
theorem dX7_init_38 : decode cX7_init 38 = .ok (.bipush 6, 2) := by decide +kernel
theorem dX7_init_40 : decode cX7_init 40 = .ok (.newarray .int, 2) := by decide +kernel
theorem dX7_init_42 : decode cX7_init 42 = .ok (.putfield 23, 3) := by decide +kernel
theorem dX7_init_45 : decode cX7_init 45 = .ok (.aload_n 0, 1) := by decide +kernel
theorem dX7_init_46 : decode cX7_init 46 = .ok (.sipush 240, 3) := by decide +kernel
theorem dX7_init_49 : decode cX7_init 49 = .ok (.newarray .int, 2) := by decide +kernel
theorem dX7_init_51 : decode cX7_init 51 = .ok (.putfield 26, 3) := by decide +kernel
theorem dX7_init_54 : decode cX7_init 54 = .ok (.aload_n 0, 1) := by decide +kernel
theorem dX7_init_55 : decode cX7_init 55 = .ok (.iconst 4, 1) := by decide +kernel
theorem dX7_init_56 : decode cX7_init 56 = .ok (.newarray .int, 2) := by decide +kernel
theorem dX7_init_58 : decode cX7_init 58 = .ok (.putfield 29, 3) := by decide +kernel
theorem dX7_init_61 : decode cX7_init 61 = .ok (.aload_n 0, 1) := by decide +kernel
theorem dX7_init_62 : decode cX7_init 62 = .ok (.bipush 6, 2) := by decide +kernel
theorem dX7_init_64 : decode cX7_init 64 = .ok (.newarray .int, 2) := by decide +kernel
theorem dX7_init_66 : decode cX7_init 66 = .ok (.putfield 32, 3) := by decide +kernel
theorem dX7_init_69 : decode cX7_init 69 = .ok (.aload_n 0, 1) := by decide +kernel
theorem dX7_init_70 : decode cX7_init 70 = .ok (.lconst 1, 1) := by decide +kernel
theorem dX7_init_71 : decode cX7_init 71 = .ok (.putfield 35, 3) := by decide +kernel
theorem dX7_init_74 : decode cX7_init 74 = .ok (.aload_n 0, 1) := by decide +kernel
theorem dX7_init_75 : decode cX7_init 75 = .ok (.bipush 40, 2) := by decide +kernel
theorem dX7_init_77 : decode cX7_init 77 = .ok (.newarray .int, 2) := by decide +kernel
theorem dX7_init_79 : decode cX7_init 79 = .ok (.putfield 39, 3) := by decide +kernel
theorem dX7_init_82 : decode cX7_init 82 = .ok (.aload_n 0, 1) := by decide +kernel
theorem dX7_init_83 : decode cX7_init 83 = .ok (.bipush 85, 2) := by decide +kernel
theorem dX7_init_85 : decode cX7_init 85 = .ok (.newarray .int, 2) := by decide +kernel
theorem dX7_init_87 : decode cX7_init 87 = .ok (.putfield 42, 3) := by decide +kernel
theorem dX7_init_90 : decode cX7_init 90 = .ok (.aload_n 0, 1) := by decide +kernel
theorem dX7_init_91 : decode cX7_init 91 = .ok (.bipush 85, 2) := by decide +kernel
theorem dX7_init_93 : decode cX7_init 93 = .ok (.newarray .int, 2) := by decide +kernel
theorem dX7_init_95 : decode cX7_init 95 = .ok (.putfield 45, 3) := by decide +kernel
theorem dX7_init_98 : decode cX7_init 98 = .ok (.aload_n 0, 1) := by decide +kernel
theorem dX7_init_99 : decode cX7_init 99 = .ok (.iconst 4, 1) := by decide +kernel
theorem dX7_init_100 : decode cX7_init 100 = .ok (.newarray .int, 2) := by decide +kernel
theorem dX7_init_102 : decode cX7_init 102 = .ok (.putfield 48, 3) := by decide +kernel
theorem dX7_init_105 : decode cX7_init 105 = .ok (.aload_n 0, 1) := by decide +kernel
theorem dX7_init_106 : decode cX7_init 106 = .ok (.bipush 6, 2) := by decide +kernel
theorem dX7_init_108 : decode cX7_init 108 = .ok (.newarray .int, 2) := by decide +kernel
theorem dX7_init_110 : decode cX7_init 110 = .ok (.putfield 51, 3) := by decide +kernel
theorem dX7_init_113 : decode cX7_init 113 = .ok (.aload_n 0, 1) := by decide +kernel
theorem dX7_init_114 : decode cX7_init 114 = .ok (.bipush 6, 2) := by decide +kernel
theorem dX7_init_116 : decode cX7_init 116 = .ok (.newarray .int, 2) := by decide +kernel
theorem dX7_init_118 : decode cX7_init 118 = .ok (.putfield 54, 3) := by decide +kernel
theorem dX7_init_121 : decode cX7_init 121 = .ok (.aload_n 0, 1) := by decide +kernel
theorem dX7_init_122 : decode cX7_init 122 = .ok (.bipush 6, 2) := by decide +kernel
theorem dX7_init_124 : decode cX7_init 124 = .ok (.newarray .int, 2) := by decide +kernel
theorem dX7_init_126 : decode cX7_init 126 = .ok (.putfield 57, 3) := by decide +kernel
theorem dX7_init_129 : decode cX7_init 129 = .ok (.iconst 0, 1) := by decide +kernel
theorem dX7_init_130 : decode cX7_init 130 = .ok (.istore_n 1, 1) := by decide +kernel
theorem dX7_init_131 : decode cX7_init 131 = .ok (.iload_n 1, 1) := by decide +kernel
theorem dX7_init_132 : decode cX7_init 132 = .ok (.bipush 6, 2) := by decide +kernel
theorem dX7_init_134 : decode cX7_init 134 = .ok (.if_icmp .ge 16, 3) := by decide +kernel
theorem dX7_init_137 : decode cX7_init 137 = .ok (.aload_n 0, 1) := by decide +kernel
theorem dX7_init_138 : decode cX7_init 138 = .ok (.getfield 23, 3) := by decide +kernel
theorem dX7_init_141 : decode cX7_init 141 = .ok (.iload_n 1, 1) := by decide +kernel
theorem dX7_init_142 : decode cX7_init 142 = .ok (.iconst (-1), 1) := by decide +kernel
theorem dX7_init_143 : decode cX7_init 143 = .ok (.iastore, 1) := by decide +kernel
theorem dX7_init_144 : decode cX7_init 144 = .ok (.iinc 1 1, 3) := by decide +kernel
theorem dX7_init_147 : decode cX7_init 147 = .ok (.goto (-16), 3) := by decide +kernel
theorem dX7_init_150 : decode cX7_init 150 = .ok (.iconst 0, 1) := by decide +kernel
theorem dX7_init_151 : decode cX7_init 151 = .ok (.istore_n 1, 1) := by decide +kernel
theorem dX7_init_152 : decode cX7_init 152 = .ok (.iload_n 1, 1) := by decide +kernel
theorem dX7_init_153 : decode cX7_init 153 = .ok (.iconst 4, 1) := by decide +kernel
theorem dX7_init_154 : decode cX7_init 154 = .ok (.if_icmp .ge 16, 3) := by decide +kernel
theorem dX7_init_157 : decode cX7_init 157 = .ok (.aload_n 0, 1) := by decide +kernel
theorem dX7_init_158 : decode cX7_init 158 = .ok (.getfield 29, 3) := by decide +kernel
theorem dX7_init_161 : decode cX7_init 161 = .ok (.iload_n 1, 1) := by decide +kernel
theorem dX7_init_162 : decode cX7_init 162 = .ok (.iconst (-1), 1) := by decide +kernel
theorem dX7_init_163 : decode cX7_init 163 = .ok (.iastore, 1) := by decide +kernel
theorem dX7_init_164 : decode cX7_init 164 = .ok (.iinc 1 1, 3) := by decide +kernel
theorem dX7_init_167 : decode cX7_init 167 = .ok (.goto (-15), 3) := by decide +kernel
theorem dX7_init_170 : decode cX7_init 170 = .ok (.return_, 1) := by decide +kernel
theorem dX7_in_0 : decode cX7_in 0 = .ok (.lload_n 0, 1) := by decide +kernel
theorem dX7_in_1 : decode cX7_in 1 = .ok (.lload_n 2, 1) := by decide +kernel
theorem dX7_in_2 : decode cX7_in 2 = .ok (.lcmp, 1) := by decide +kernel
theorem dX7_in_3 : decode cX7_in 3 = .ok (.ifCond .lt 14, 3) := by decide +kernel
theorem dX7_in_6 : decode cX7_in 6 = .ok (.lload_n 0, 1) := by decide +kernel
theorem dX7_in_7 : decode cX7_in 7 = .ok (.lload 4, 2) := by decide +kernel
theorem dX7_in_9 : decode cX7_in 9 = .ok (.lcmp, 1) := by decide +kernel
theorem dX7_in_10 : decode cX7_in 10 = .ok (.ifCond .gt 7, 3) := by decide +kernel
theorem dX7_in_13 : decode cX7_in 13 = .ok (.iconst 1, 1) := by decide +kernel
theorem dX7_in_14 : decode cX7_in 14 = .ok (.goto 4, 3) := by decide +kernel
theorem dX7_in_17 : decode cX7_in 17 = .ok (.iconst 0, 1) := by decide +kernel
theorem dX7_in_18 : decode cX7_in 18 = .ok (.ireturn, 1) := by decide +kernel
theorem dX7_finds_0 : decode cX7_finds 0 = .ok (.aload_n 0, 1) := by decide +kernel
theorem dX7_finds_1 : decode cX7_finds 1 = .ok (.iload_n 1, 1) := by decide +kernel
theorem dX7_finds_2 : decode cX7_finds 2 = .ok (.putfield 60, 3) := by decide +kernel
theorem dX7_finds_5 : decode cX7_finds 5 = .ok (.aload_n 0, 1) := by decide +kernel
theorem dX7_finds_6 : decode cX7_finds 6 = .ok (.getfield 32, 3) := by decide +kernel
theorem dX7_finds_9 : decode cX7_finds 9 = .ok (.iload_n 1, 1) := by decide +kernel
theorem dX7_finds_10 : decode cX7_finds 10 = .ok (.dup2, 1) := by decide +kernel
theorem dX7_finds_11 : decode cX7_finds 11 = .ok (.iaload, 1) := by decide +kernel
theorem dX7_finds_12 : decode cX7_finds 12 = .ok (.iconst 1, 1) := by decide +kernel
theorem dX7_finds_13 : decode cX7_finds 13 = .ok (.iadd, 1) := by decide +kernel
theorem dX7_finds_14 : decode cX7_finds 14 = .ok (.iastore, 1) := by decide +kernel
theorem dX7_finds_15 : decode cX7_finds 15 = .ok (.bipush (-3), 2) := by decide +kernel
theorem dX7_finds_17 : decode cX7_finds 17 = .ok (.ireturn, 1) := by decide +kernel
theorem dX7_asks_0 : decode cX7_asks 0 = .ok (.aload_n 0, 1) := by decide +kernel
theorem dX7_asks_1 : decode cX7_asks 1 = .ok (.iload_n 1, 1) := by decide +kernel
theorem dX7_asks_2 : decode cX7_asks 2 = .ok (.putfield 64, 3) := by decide +kernel
theorem dX7_asks_5 : decode cX7_asks 5 = .ok (.iconst 1, 1) := by decide +kernel
theorem dX7_asks_6 : decode cX7_asks 6 = .ok (.ireturn, 1) := by decide +kernel
theorem dX7_isRow_0 : decode cX7_isRow 0 = .ok (.iload_n 0, 1) := by decide +kernel
theorem dX7_isRow_1 : decode cX7_isRow 1 = .ok (.i2l, 1) := by decide +kernel
theorem dX7_isRow_2 : decode cX7_isRow 2 = .ok (.lconst 0, 1) := by decide +kernel
theorem dX7_isRow_3 : decode cX7_isRow 3 = .ok (.ldc2_w 67, 3) := by decide +kernel
theorem dX7_isRow_6 : decode cX7_isRow 6 = .ok (.invokestatic 69, 3) := by decide +kernel
theorem dX7_isRow_9 : decode cX7_isRow 9 = .ok (.ireturn, 1) := by decide +kernel
theorem dX7_isText_0 : decode cX7_isText 0 = .ok (.iload_n 0, 1) := by decide +kernel
theorem dX7_isText_1 : decode cX7_isText 1 = .ok (.i2l, 1) := by decide +kernel
theorem dX7_isText_2 : decode cX7_isText 2 = .ok (.lconst 0, 1) := by decide +kernel
theorem dX7_isText_3 : decode cX7_isText 3 = .ok (.ldc2_w 73, 3) := by decide +kernel
theorem dX7_isText_6 : decode cX7_isText 6 = .ok (.invokestatic 69, 3) := by decide +kernel
theorem dX7_isText_9 : decode cX7_isText 9 = .ok (.ireturn, 1) := by decide +kernel
theorem dX7_row_0 : decode cX7_row 0 = .ok (.iload_n 1, 1) := by decide +kernel
theorem dX7_row_1 : decode cX7_row 1 = .ok (.invokestatic 75, 3) := by decide +kernel
theorem dX7_row_4 : decode cX7_row 4 = .ok (.ifCond .eq 9, 3) := by decide +kernel
theorem dX7_row_7 : decode cX7_row 7 = .ok (.iload_n 2, 1) := by decide +kernel
theorem dX7_row_8 : decode cX7_row 8 = .ok (.bipush 40, 2) := by decide +kernel
theorem dX7_row_10 : decode cX7_row 10 = .ok (.if_icmp .le 5, 3) := by decide +kernel
theorem dX7_row_13 : decode cX7_row 13 = .ok (.iconst (-1), 1) := by decide +kernel
theorem dX7_row_14 : decode cX7_row 14 = .ok (.ireturn, 1) := by decide +kernel
theorem dX7_row_15 : decode cX7_row 15 = .ok (.iload_n 2, 1) := by decide +kernel
theorem dX7_row_16 : decode cX7_row 16 = .ok (.ifCond .ge 9, 3) := by decide +kernel
theorem dX7_row_19 : decode cX7_row 19 = .ok (.aload_n 0, 1) := by decide +kernel
theorem dX7_row_20 : decode cX7_row 20 = .ok (.iconst 5, 1) := by decide +kernel
theorem dX7_row_21 : decode cX7_row 21 = .ok (.invokevirtual 79, 3) := by decide +kernel
theorem dX7_row_24 : decode cX7_row 24 = .ok (.ireturn, 1) := by decide +kernel
theorem dX7_row_25 : decode cX7_row 25 = .ok (.aload_n 0, 1) := by decide +kernel
theorem dX7_row_26 : decode cX7_row 26 = .ok (.getfield 23, 3) := by decide +kernel
theorem dX7_row_29 : decode cX7_row 29 = .ok (.iload_n 1, 1) := by decide +kernel
theorem dX7_row_30 : decode cX7_row 30 = .ok (.iload_n 2, 1) := by decide +kernel
theorem dX7_row_31 : decode cX7_row 31 = .ok (.iastore, 1) := by decide +kernel
theorem dX7_row_32 : decode cX7_row 32 = .ok (.iconst 0, 1) := by decide +kernel
theorem dX7_row_33 : decode cX7_row 33 = .ok (.istore_n 3, 1) := by decide +kernel
theorem dX7_row_34 : decode cX7_row 34 = .ok (.iload_n 3, 1) := by decide +kernel
theorem dX7_row_35 : decode cX7_row 35 = .ok (.iload_n 2, 1) := by decide +kernel
theorem dX7_row_36 : decode cX7_row 36 = .ok (.if_icmp .ge 21, 3) := by decide +kernel
theorem dX7_row_39 : decode cX7_row 39 = .ok (.aload_n 0, 1) := by decide +kernel
theorem dX7_row_40 : decode cX7_row 40 = .ok (.getfield 20, 3) := by decide +kernel
theorem dX7_row_43 : decode cX7_row 43 = .ok (.bipush 40, 2) := by decide +kernel
theorem dX7_row_45 : decode cX7_row 45 = .ok (.iload_n 1, 1) := by decide +kernel
theorem dX7_row_46 : decode cX7_row 46 = .ok (.imul, 1) := by decide +kernel
theorem dX7_row_47 : decode cX7_row 47 = .ok (.iload_n 3, 1) := by decide +kernel
theorem dX7_row_48 : decode cX7_row 48 = .ok (.iadd, 1) := by decide +kernel
theorem dX7_row_49 : decode cX7_row 49 = .ok (.iconst 0, 1) := by decide +kernel
theorem dX7_row_50 : decode cX7_row 50 = .ok (.iastore, 1) := by decide +kernel
theorem dX7_row_51 : decode cX7_row 51 = .ok (.iinc 3 1, 3) := by decide +kernel
theorem dX7_row_54 : decode cX7_row 54 = .ok (.goto (-20), 3) := by decide +kernel
theorem dX7_row_57 : decode cX7_row 57 = .ok (.iload_n 2, 1) := by decide +kernel
theorem dX7_row_58 : decode cX7_row 58 = .ok (.ireturn, 1) := by decide +kernel
theorem dX7_lay_0 : decode cX7_lay 0 = .ok (.aload_n 0, 1) := by decide +kernel
theorem dX7_lay_1 : decode cX7_lay 1 = .ok (.iload_n 1, 1) := by decide +kernel
theorem dX7_lay_2 : decode cX7_lay 2 = .ok (.iload_n 2, 1) := by decide +kernel
theorem dX7_lay_3 : decode cX7_lay 3 = .ok (.invokevirtual 83, 3) := by decide +kernel
theorem dX7_lay_6 : decode cX7_lay 6 = .ok (.istore 4, 2) := by decide +kernel
theorem dX7_lay_8 : decode cX7_lay 8 = .ok (.iload 4, 2) := by decide +kernel
theorem dX7_lay_10 : decode cX7_lay 10 = .ok (.iconst 1, 1) := by decide +kernel
theorem dX7_lay_11 : decode cX7_lay 11 = .ok (.if_icmp .ne 15, 3) := by decide +kernel
theorem dX7_lay_14 : decode cX7_lay 14 = .ok (.aload_n 0, 1) := by decide +kernel
theorem dX7_lay_15 : decode cX7_lay 15 = .ok (.getfield 20, 3) := by decide +kernel
theorem dX7_lay_18 : decode cX7_lay 18 = .ok (.bipush 40, 2) := by decide +kernel
theorem dX7_lay_20 : decode cX7_lay 20 = .ok (.iload_n 1, 1) := by decide +kernel
theorem dX7_lay_21 : decode cX7_lay 21 = .ok (.imul, 1) := by decide +kernel
theorem dX7_lay_22 : decode cX7_lay 22 = .ok (.iload_n 2, 1) := by decide +kernel
theorem dX7_lay_23 : decode cX7_lay 23 = .ok (.iadd, 1) := by decide +kernel
theorem dX7_lay_24 : decode cX7_lay 24 = .ok (.iload_n 3, 1) := by decide +kernel
theorem dX7_lay_25 : decode cX7_lay 25 = .ok (.iastore, 1) := by decide +kernel
theorem dX7_lay_26 : decode cX7_lay 26 = .ok (.iload 4, 2) := by decide +kernel
theorem dX7_lay_28 : decode cX7_lay 28 = .ok (.ireturn, 1) := by decide +kernel
theorem dX7_at_0 : decode cX7_at 0 = .ok (.iload_n 1, 1) := by decide +kernel
theorem dX7_at_1 : decode cX7_at 1 = .ok (.invokestatic 75, 3) := by decide +kernel
theorem dX7_at_4 : decode cX7_at 4 = .ok (.ifCond .ne 5, 3) := by decide +kernel
theorem dX7_at_7 : decode cX7_at 7 = .ok (.iconst (-1), 1) := by decide +kernel
theorem dX7_at_8 : decode cX7_at 8 = .ok (.ireturn, 1) := by decide +kernel
theorem dX7_at_9 : decode cX7_at 9 = .ok (.aload_n 0, 1) := by decide +kernel
theorem dX7_at_10 : decode cX7_at 10 = .ok (.getfield 23, 3) := by decide +kernel
theorem dX7_at_13 : decode cX7_at 13 = .ok (.iload_n 1, 1) := by decide +kernel
theorem dX7_at_14 : decode cX7_at 14 = .ok (.iaload, 1) := by decide +kernel
theorem dX7_at_15 : decode cX7_at 15 = .ok (.ifCond .ge 9, 3) := by decide +kernel
theorem dX7_at_18 : decode cX7_at 18 = .ok (.aload_n 0, 1) := by decide +kernel
theorem dX7_at_19 : decode cX7_at 19 = .ok (.iconst 1, 1) := by decide +kernel
theorem dX7_at_20 : decode cX7_at 20 = .ok (.invokevirtual 79, 3) := by decide +kernel
theorem dX7_at_23 : decode cX7_at 23 = .ok (.ireturn, 1) := by decide +kernel
theorem dX7_at_24 : decode cX7_at 24 = .ok (.iload_n 2, 1) := by decide +kernel
theorem dX7_at_25 : decode cX7_at 25 = .ok (.i2l, 1) := by decide +kernel
theorem dX7_at_26 : decode cX7_at 26 = .ok (.lconst 0, 1) := by decide +kernel
theorem dX7_at_27 : decode cX7_at 27 = .ok (.aload_n 0, 1) := by decide +kernel
theorem dX7_at_28 : decode cX7_at 28 = .ok (.getfield 23, 3) := by decide +kernel
theorem dX7_at_31 : decode cX7_at 31 = .ok (.iload_n 1, 1) := by decide +kernel
theorem dX7_at_32 : decode cX7_at 32 = .ok (.iaload, 1) := by decide +kernel
theorem dX7_at_33 : decode cX7_at 33 = .ok (.iconst 1, 1) := by decide +kernel
theorem dX7_at_34 : decode cX7_at 34 = .ok (.isub, 1) := by decide +kernel
theorem dX7_at_35 : decode cX7_at 35 = .ok (.i2l, 1) := by decide +kernel
theorem dX7_at_36 : decode cX7_at 36 = .ok (.invokestatic 69, 3) := by decide +kernel
theorem dX7_at_39 : decode cX7_at 39 = .ok (.ifCond .eq 21, 3) := by decide +kernel
theorem dX7_at_42 : decode cX7_at 42 = .ok (.aload_n 0, 1) := by decide +kernel
theorem dX7_at_43 : decode cX7_at 43 = .ok (.aload_n 0, 1) := by decide +kernel
theorem dX7_at_44 : decode cX7_at 44 = .ok (.getfield 20, 3) := by decide +kernel
theorem dX7_at_47 : decode cX7_at 47 = .ok (.bipush 40, 2) := by decide +kernel
theorem dX7_at_49 : decode cX7_at 49 = .ok (.iload_n 1, 1) := by decide +kernel
theorem dX7_at_50 : decode cX7_at 50 = .ok (.imul, 1) := by decide +kernel
theorem dX7_at_51 : decode cX7_at 51 = .ok (.iload_n 2, 1) := by decide +kernel
theorem dX7_at_52 : decode cX7_at 52 = .ok (.iadd, 1) := by decide +kernel
theorem dX7_at_53 : decode cX7_at 53 = .ok (.iaload, 1) := by decide +kernel
theorem dX7_at_54 : decode cX7_at 54 = .ok (.invokevirtual 87, 3) := by decide +kernel
theorem dX7_at_57 : decode cX7_at 57 = .ok (.goto 8, 3) := by decide +kernel
theorem dX7_at_60 : decode cX7_at 60 = .ok (.aload_n 0, 1) := by decide +kernel
theorem dX7_at_61 : decode cX7_at 61 = .ok (.iconst 2, 1) := by decide +kernel
theorem dX7_at_62 : decode cX7_at 62 = .ok (.invokevirtual 79, 3) := by decide +kernel
theorem dX7_at_65 : decode cX7_at 65 = .ok (.ireturn, 1) := by decide +kernel
theorem dX7_tear_0 : decode cX7_tear 0 = .ok (.iload_n 1, 1) := by decide +kernel
theorem dX7_tear_1 : decode cX7_tear 1 = .ok (.invokestatic 75, 3) := by decide +kernel
theorem dX7_tear_4 : decode cX7_tear 4 = .ok (.ifCond .ne 5, 3) := by decide +kernel
theorem dX7_tear_7 : decode cX7_tear 7 = .ok (.iconst (-1), 1) := by decide +kernel
theorem dX7_tear_8 : decode cX7_tear 8 = .ok (.ireturn, 1) := by decide +kernel
theorem dX7_tear_9 : decode cX7_tear 9 = .ok (.aload_n 0, 1) := by decide +kernel
theorem dX7_tear_10 : decode cX7_tear 10 = .ok (.getfield 23, 3) := by decide +kernel
theorem dX7_tear_13 : decode cX7_tear 13 = .ok (.iload_n 1, 1) := by decide +kernel
theorem dX7_tear_14 : decode cX7_tear 14 = .ok (.iaload, 1) := by decide +kernel
theorem dX7_tear_15 : decode cX7_tear 15 = .ok (.ifCond .ge 9, 3) := by decide +kernel
theorem dX7_tear_18 : decode cX7_tear 18 = .ok (.aload_n 0, 1) := by decide +kernel
theorem dX7_tear_19 : decode cX7_tear 19 = .ok (.iconst 1, 1) := by decide +kernel
theorem dX7_tear_20 : decode cX7_tear 20 = .ok (.invokevirtual 79, 3) := by decide +kernel
theorem dX7_tear_23 : decode cX7_tear 23 = .ok (.ireturn, 1) := by decide +kernel
theorem dX7_tear_24 : decode cX7_tear 24 = .ok (.aload_n 0, 1) := by decide +kernel
theorem dX7_tear_25 : decode cX7_tear 25 = .ok (.getfield 23, 3) := by decide +kernel
theorem dX7_tear_28 : decode cX7_tear 28 = .ok (.iload_n 1, 1) := by decide +kernel
theorem dX7_tear_29 : decode cX7_tear 29 = .ok (.iconst (-1), 1) := by decide +kernel
theorem dX7_tear_30 : decode cX7_tear 30 = .ok (.iastore, 1) := by decide +kernel
theorem dX7_tear_31 : decode cX7_tear 31 = .ok (.iconst 1, 1) := by decide +kernel
theorem dX7_tear_32 : decode cX7_tear 32 = .ok (.ireturn, 1) := by decide +kernel
theorem dX7_copy_0 : decode cX7_copy 0 = .ok (.iload_n 1, 1) := by decide +kernel
theorem dX7_copy_1 : decode cX7_copy 1 = .ok (.invokestatic 75, 3) := by decide +kernel
theorem dX7_copy_4 : decode cX7_copy 4 = .ok (.ifCond .eq 10, 3) := by decide +kernel
theorem dX7_copy_7 : decode cX7_copy 7 = .ok (.iload_n 3, 1) := by decide +kernel
theorem dX7_copy_8 : decode cX7_copy 8 = .ok (.invokestatic 75, 3) := by decide +kernel
theorem dX7_copy_11 : decode cX7_copy 11 = .ok (.ifCond .ne 5, 3) := by decide +kernel
theorem dX7_copy_14 : decode cX7_copy 14 = .ok (.iconst (-1), 1) := by decide +kernel
theorem dX7_copy_15 : decode cX7_copy 15 = .ok (.ireturn, 1) := by decide +kernel
theorem dX7_copy_16 : decode cX7_copy 16 = .ok (.iload 5, 2) := by decide +kernel
theorem dX7_copy_18 : decode cX7_copy 18 = .ok (.ifCond .ge 9, 3) := by decide +kernel
theorem dX7_copy_21 : decode cX7_copy 21 = .ok (.aload_n 0, 1) := by decide +kernel
theorem dX7_copy_22 : decode cX7_copy 22 = .ok (.iconst 5, 1) := by decide +kernel
theorem dX7_copy_23 : decode cX7_copy 23 = .ok (.invokevirtual 79, 3) := by decide +kernel
theorem dX7_copy_26 : decode cX7_copy 26 = .ok (.ireturn, 1) := by decide +kernel
theorem dX7_copy_27 : decode cX7_copy 27 = .ok (.aload_n 0, 1) := by decide +kernel
theorem dX7_copy_28 : decode cX7_copy 28 = .ok (.getfield 23, 3) := by decide +kernel
theorem dX7_copy_31 : decode cX7_copy 31 = .ok (.iload_n 1, 1) := by decide +kernel
theorem dX7_copy_32 : decode cX7_copy 32 = .ok (.iaload, 1) := by decide +kernel
theorem dX7_copy_33 : decode cX7_copy 33 = .ok (.ifCond .lt 12, 3) := by decide +kernel
theorem dX7_copy_36 : decode cX7_copy 36 = .ok (.aload_n 0, 1) := by decide +kernel
theorem dX7_copy_37 : decode cX7_copy 37 = .ok (.getfield 23, 3) := by decide +kernel
theorem dX7_copy_40 : decode cX7_copy 40 = .ok (.iload_n 3, 1) := by decide +kernel
theorem dX7_copy_41 : decode cX7_copy 41 = .ok (.iaload, 1) := by decide +kernel
theorem dX7_copy_42 : decode cX7_copy 42 = .ok (.ifCond .ge 9, 3) := by decide +kernel
theorem dX7_copy_45 : decode cX7_copy 45 = .ok (.aload_n 0, 1) := by decide +kernel
theorem dX7_copy_46 : decode cX7_copy 46 = .ok (.iconst 1, 1) := by decide +kernel
theorem dX7_copy_47 : decode cX7_copy 47 = .ok (.invokevirtual 79, 3) := by decide +kernel
theorem dX7_copy_50 : decode cX7_copy 50 = .ok (.ireturn, 1) := by decide +kernel
theorem dX7_copy_51 : decode cX7_copy 51 = .ok (.iload_n 2, 1) := by decide +kernel
theorem dX7_copy_52 : decode cX7_copy 52 = .ok (.i2l, 1) := by decide +kernel
theorem dX7_copy_53 : decode cX7_copy 53 = .ok (.lconst 0, 1) := by decide +kernel
theorem dX7_copy_54 : decode cX7_copy 54 = .ok (.aload_n 0, 1) := by decide +kernel
theorem dX7_copy_55 : decode cX7_copy 55 = .ok (.getfield 23, 3) := by decide +kernel
theorem dX7_copy_58 : decode cX7_copy 58 = .ok (.iload_n 1, 1) := by decide +kernel
theorem dX7_copy_59 : decode cX7_copy 59 = .ok (.iaload, 1) := by decide +kernel
theorem dX7_copy_60 : decode cX7_copy 60 = .ok (.i2l, 1) := by decide +kernel
theorem dX7_copy_61 : decode cX7_copy 61 = .ok (.iload 5, 2) := by decide +kernel
theorem dX7_copy_63 : decode cX7_copy 63 = .ok (.i2l, 1) := by decide +kernel
theorem dX7_copy_64 : decode cX7_copy 64 = .ok (.lsub, 1) := by decide +kernel
theorem dX7_copy_65 : decode cX7_copy 65 = .ok (.invokestatic 69, 3) := by decide +kernel
theorem dX7_copy_68 : decode cX7_copy 68 = .ok (.ifCond .eq 24, 3) := by decide +kernel
theorem dX7_copy_71 : decode cX7_copy 71 = .ok (.iload 4, 2) := by decide +kernel
theorem dX7_copy_73 : decode cX7_copy 73 = .ok (.i2l, 1) := by decide +kernel
theorem dX7_copy_74 : decode cX7_copy 74 = .ok (.lconst 0, 1) := by decide +kernel
theorem dX7_copy_75 : decode cX7_copy 75 = .ok (.aload_n 0, 1) := by decide +kernel
theorem dX7_copy_76 : decode cX7_copy 76 = .ok (.getfield 23, 3) := by decide +kernel
theorem dX7_copy_79 : decode cX7_copy 79 = .ok (.iload_n 3, 1) := by decide +kernel
theorem dX7_copy_80 : decode cX7_copy 80 = .ok (.iaload, 1) := by decide +kernel
theorem dX7_copy_81 : decode cX7_copy 81 = .ok (.i2l, 1) := by decide +kernel
theorem dX7_copy_82 : decode cX7_copy 82 = .ok (.iload 5, 2) := by decide +kernel
theorem dX7_copy_84 : decode cX7_copy 84 = .ok (.i2l, 1) := by decide +kernel
theorem dX7_copy_85 : decode cX7_copy 85 = .ok (.lsub, 1) := by decide +kernel
theorem dX7_copy_86 : decode cX7_copy 86 = .ok (.invokestatic 69, 3) := by decide +kernel
theorem dX7_copy_89 : decode cX7_copy 89 = .ok (.ifCond .ne 9, 3) := by decide +kernel
theorem dX7_copy_92 : decode cX7_copy 92 = .ok (.aload_n 0, 1) := by decide +kernel
theorem dX7_copy_93 : decode cX7_copy 93 = .ok (.iconst 2, 1) := by decide +kernel
theorem dX7_copy_94 : decode cX7_copy 94 = .ok (.invokevirtual 79, 3) := by decide +kernel
theorem dX7_copy_97 : decode cX7_copy 97 = .ok (.ireturn, 1) := by decide +kernel
theorem dX7_copy_98 : decode cX7_copy 98 = .ok (.iconst 0, 1) := by decide +kernel
theorem dX7_copy_99 : decode cX7_copy 99 = .ok (.istore 6, 2) := by decide +kernel
theorem dX7_copy_101 : decode cX7_copy 101 = .ok (.iload 6, 2) := by decide +kernel
theorem dX7_copy_103 : decode cX7_copy 103 = .ok (.iload 5, 2) := by decide +kernel
theorem dX7_copy_105 : decode cX7_copy 105 = .ok (.if_icmp .ge 30, 3) := by decide +kernel
theorem dX7_copy_108 : decode cX7_copy 108 = .ok (.aload_n 0, 1) := by decide +kernel
theorem dX7_copy_109 : decode cX7_copy 109 = .ok (.getfield 39, 3) := by decide +kernel
theorem dX7_copy_112 : decode cX7_copy 112 = .ok (.iload 6, 2) := by decide +kernel
theorem dX7_copy_114 : decode cX7_copy 114 = .ok (.aload_n 0, 1) := by decide +kernel
theorem dX7_copy_115 : decode cX7_copy 115 = .ok (.getfield 20, 3) := by decide +kernel
theorem dX7_copy_118 : decode cX7_copy 118 = .ok (.bipush 40, 2) := by decide +kernel
theorem dX7_copy_120 : decode cX7_copy 120 = .ok (.iload_n 1, 1) := by decide +kernel
theorem dX7_copy_121 : decode cX7_copy 121 = .ok (.imul, 1) := by decide +kernel
theorem dX7_copy_122 : decode cX7_copy 122 = .ok (.iload_n 2, 1) := by decide +kernel
theorem dX7_copy_123 : decode cX7_copy 123 = .ok (.iadd, 1) := by decide +kernel
theorem dX7_copy_124 : decode cX7_copy 124 = .ok (.iload 6, 2) := by decide +kernel
theorem dX7_copy_126 : decode cX7_copy 126 = .ok (.iadd, 1) := by decide +kernel
theorem dX7_copy_127 : decode cX7_copy 127 = .ok (.iaload, 1) := by decide +kernel
theorem dX7_copy_128 : decode cX7_copy 128 = .ok (.iastore, 1) := by decide +kernel
theorem dX7_copy_129 : decode cX7_copy 129 = .ok (.iinc 6 1, 3) := by decide +kernel
theorem dX7_copy_132 : decode cX7_copy 132 = .ok (.goto (-31), 3) := by decide +kernel
theorem dX7_copy_135 : decode cX7_copy 135 = .ok (.iconst 0, 1) := by decide +kernel
theorem dX7_copy_136 : decode cX7_copy 136 = .ok (.istore 6, 2) := by decide +kernel
theorem dX7_copy_138 : decode cX7_copy 138 = .ok (.iload 6, 2) := by decide +kernel
theorem dX7_copy_140 : decode cX7_copy 140 = .ok (.iload 5, 2) := by decide +kernel
theorem dX7_copy_142 : decode cX7_copy 142 = .ok (.if_icmp .ge 31, 3) := by decide +kernel
theorem dX7_copy_145 : decode cX7_copy 145 = .ok (.aload_n 0, 1) := by decide +kernel
theorem dX7_copy_146 : decode cX7_copy 146 = .ok (.getfield 20, 3) := by decide +kernel
theorem dX7_copy_149 : decode cX7_copy 149 = .ok (.bipush 40, 2) := by decide +kernel
theorem dX7_copy_151 : decode cX7_copy 151 = .ok (.iload_n 3, 1) := by decide +kernel
theorem dX7_copy_152 : decode cX7_copy 152 = .ok (.imul, 1) := by decide +kernel
theorem dX7_copy_153 : decode cX7_copy 153 = .ok (.iload 4, 2) := by decide +kernel
theorem dX7_copy_155 : decode cX7_copy 155 = .ok (.iadd, 1) := by decide +kernel
theorem dX7_copy_156 : decode cX7_copy 156 = .ok (.iload 6, 2) := by decide +kernel
theorem dX7_copy_158 : decode cX7_copy 158 = .ok (.iadd, 1) := by decide +kernel
theorem dX7_copy_159 : decode cX7_copy 159 = .ok (.aload_n 0, 1) := by decide +kernel
theorem dX7_copy_160 : decode cX7_copy 160 = .ok (.getfield 39, 3) := by decide +kernel
theorem dX7_copy_163 : decode cX7_copy 163 = .ok (.iload 6, 2) := by decide +kernel
theorem dX7_copy_165 : decode cX7_copy 165 = .ok (.iaload, 1) := by decide +kernel
theorem dX7_copy_166 : decode cX7_copy 166 = .ok (.iastore, 1) := by decide +kernel
theorem dX7_copy_167 : decode cX7_copy 167 = .ok (.iinc 6 1, 3) := by decide +kernel
theorem dX7_copy_170 : decode cX7_copy 170 = .ok (.goto (-32), 3) := by decide +kernel
theorem dX7_copy_173 : decode cX7_copy 173 = .ok (.iconst 1, 1) := by decide +kernel
theorem dX7_copy_174 : decode cX7_copy 174 = .ok (.ireturn, 1) := by decide +kernel
theorem dX7_mean_0 : decode cX7_mean 0 = .ok (.iload_n 1, 1) := by decide +kernel
theorem dX7_mean_1 : decode cX7_mean 1 = .ok (.invokestatic 75, 3) := by decide +kernel
theorem dX7_mean_4 : decode cX7_mean 4 = .ok (.ifCond .ne 5, 3) := by decide +kernel
theorem dX7_mean_7 : decode cX7_mean 7 = .ok (.iconst (-1), 1) := by decide +kernel
theorem dX7_mean_8 : decode cX7_mean 8 = .ok (.ireturn, 1) := by decide +kernel
theorem dX7_mean_9 : decode cX7_mean 9 = .ok (.aload_n 0, 1) := by decide +kernel
theorem dX7_mean_10 : decode cX7_mean 10 = .ok (.getfield 23, 3) := by decide +kernel
theorem dX7_mean_13 : decode cX7_mean 13 = .ok (.iload_n 1, 1) := by decide +kernel
theorem dX7_mean_14 : decode cX7_mean 14 = .ok (.iaload, 1) := by decide +kernel
theorem dX7_mean_15 : decode cX7_mean 15 = .ok (.ifCond .ge 9, 3) := by decide +kernel
theorem dX7_mean_18 : decode cX7_mean 18 = .ok (.aload_n 0, 1) := by decide +kernel
theorem dX7_mean_19 : decode cX7_mean 19 = .ok (.iconst 1, 1) := by decide +kernel
theorem dX7_mean_20 : decode cX7_mean 20 = .ok (.invokevirtual 79, 3) := by decide +kernel
theorem dX7_mean_23 : decode cX7_mean 23 = .ok (.ireturn, 1) := by decide +kernel
theorem dX7_mean_24 : decode cX7_mean 24 = .ok (.aload_n 0, 1) := by decide +kernel
theorem dX7_mean_25 : decode cX7_mean 25 = .ok (.getfield 23, 3) := by decide +kernel
theorem dX7_mean_28 : decode cX7_mean 28 = .ok (.iload_n 1, 1) := by decide +kernel
theorem dX7_mean_29 : decode cX7_mean 29 = .ok (.iaload, 1) := by decide +kernel
theorem dX7_mean_30 : decode cX7_mean 30 = .ok (.ifCond .ne 9, 3) := by decide +kernel
theorem dX7_mean_33 : decode cX7_mean 33 = .ok (.aload_n 0, 1) := by decide +kernel
theorem dX7_mean_34 : decode cX7_mean 34 = .ok (.iconst 4, 1) := by decide +kernel
theorem dX7_mean_35 : decode cX7_mean 35 = .ok (.invokevirtual 79, 3) := by decide +kernel
theorem dX7_mean_38 : decode cX7_mean 38 = .ok (.ireturn, 1) := by decide +kernel
theorem dX7_mean_39 : decode cX7_mean 39 = .ok (.lconst 0, 1) := by decide +kernel
theorem dX7_mean_40 : decode cX7_mean 40 = .ok (.lstore_n 2, 1) := by decide +kernel
theorem dX7_mean_41 : decode cX7_mean 41 = .ok (.iconst 0, 1) := by decide +kernel
theorem dX7_mean_42 : decode cX7_mean 42 = .ok (.istore 4, 2) := by decide +kernel
theorem dX7_mean_44 : decode cX7_mean 44 = .ok (.iload 4, 2) := by decide +kernel
theorem dX7_mean_46 : decode cX7_mean 46 = .ok (.aload_n 0, 1) := by decide +kernel
theorem dX7_mean_47 : decode cX7_mean 47 = .ok (.getfield 23, 3) := by decide +kernel
theorem dX7_mean_50 : decode cX7_mean 50 = .ok (.iload_n 1, 1) := by decide +kernel
theorem dX7_mean_51 : decode cX7_mean 51 = .ok (.iaload, 1) := by decide +kernel
theorem dX7_mean_52 : decode cX7_mean 52 = .ok (.if_icmp .ge 25, 3) := by decide +kernel
theorem dX7_mean_55 : decode cX7_mean 55 = .ok (.lload_n 2, 1) := by decide +kernel
theorem dX7_mean_56 : decode cX7_mean 56 = .ok (.aload_n 0, 1) := by decide +kernel
theorem dX7_mean_57 : decode cX7_mean 57 = .ok (.getfield 20, 3) := by decide +kernel
theorem dX7_mean_60 : decode cX7_mean 60 = .ok (.bipush 40, 2) := by decide +kernel
theorem dX7_mean_62 : decode cX7_mean 62 = .ok (.iload_n 1, 1) := by decide +kernel
theorem dX7_mean_63 : decode cX7_mean 63 = .ok (.imul, 1) := by decide +kernel
theorem dX7_mean_64 : decode cX7_mean 64 = .ok (.iload 4, 2) := by decide +kernel
theorem dX7_mean_66 : decode cX7_mean 66 = .ok (.iadd, 1) := by decide +kernel
theorem dX7_mean_67 : decode cX7_mean 67 = .ok (.iaload, 1) := by decide +kernel
theorem dX7_mean_68 : decode cX7_mean 68 = .ok (.i2l, 1) := by decide +kernel
theorem dX7_mean_69 : decode cX7_mean 69 = .ok (.ladd, 1) := by decide +kernel
theorem dX7_mean_70 : decode cX7_mean 70 = .ok (.lstore_n 2, 1) := by decide +kernel
theorem dX7_mean_71 : decode cX7_mean 71 = .ok (.iinc 4 1, 3) := by decide +kernel
theorem dX7_mean_74 : decode cX7_mean 74 = .ok (.goto (-30), 3) := by decide +kernel
theorem dX7_mean_77 : decode cX7_mean 77 = .ok (.aload_n 0, 1) := by decide +kernel
theorem dX7_mean_78 : decode cX7_mean 78 = .ok (.lload_n 2, 1) := by decide +kernel
theorem dX7_mean_79 : decode cX7_mean 79 = .ok (.aload_n 0, 1) := by decide +kernel
theorem dX7_mean_80 : decode cX7_mean 80 = .ok (.getfield 23, 3) := by decide +kernel
theorem dX7_mean_83 : decode cX7_mean 83 = .ok (.iload_n 1, 1) := by decide +kernel
theorem dX7_mean_84 : decode cX7_mean 84 = .ok (.iaload, 1) := by decide +kernel
theorem dX7_mean_85 : decode cX7_mean 85 = .ok (.i2l, 1) := by decide +kernel
theorem dX7_mean_86 : decode cX7_mean 86 = .ok (.ldiv, 1) := by decide +kernel
theorem dX7_mean_87 : decode cX7_mean 87 = .ok (.l2i, 1) := by decide +kernel
theorem dX7_mean_88 : decode cX7_mean 88 = .ok (.invokevirtual 87, 3) := by decide +kernel
theorem dX7_mean_91 : decode cX7_mean 91 = .ok (.ireturn, 1) := by decide +kernel
theorem dX7_text_0 : decode cX7_text 0 = .ok (.iload_n 1, 1) := by decide +kernel
theorem dX7_text_1 : decode cX7_text 1 = .ok (.invokestatic 90, 3) := by decide +kernel
theorem dX7_text_4 : decode cX7_text 4 = .ok (.ifCond .eq 9, 3) := by decide +kernel
theorem dX7_text_7 : decode cX7_text 7 = .ok (.iload_n 2, 1) := by decide +kernel
theorem dX7_text_8 : decode cX7_text 8 = .ok (.bipush 60, 2) := by decide +kernel
theorem dX7_text_10 : decode cX7_text 10 = .ok (.if_icmp .le 5, 3) := by decide +kernel
theorem dX7_text_13 : decode cX7_text 13 = .ok (.iconst (-1), 1) := by decide +kernel
theorem dX7_text_14 : decode cX7_text 14 = .ok (.ireturn, 1) := by decide +kernel
theorem dX7_text_15 : decode cX7_text 15 = .ok (.iload_n 2, 1) := by decide +kernel
theorem dX7_text_16 : decode cX7_text 16 = .ok (.ifCond .ge 9, 3) := by decide +kernel
theorem dX7_text_19 : decode cX7_text 19 = .ok (.aload_n 0, 1) := by decide +kernel
theorem dX7_text_20 : decode cX7_text 20 = .ok (.iconst 5, 1) := by decide +kernel
theorem dX7_text_21 : decode cX7_text 21 = .ok (.invokevirtual 79, 3) := by decide +kernel
theorem dX7_text_24 : decode cX7_text 24 = .ok (.ireturn, 1) := by decide +kernel
theorem dX7_text_25 : decode cX7_text 25 = .ok (.aload_n 0, 1) := by decide +kernel
theorem dX7_text_26 : decode cX7_text 26 = .ok (.getfield 29, 3) := by decide +kernel
theorem dX7_text_29 : decode cX7_text 29 = .ok (.iload_n 1, 1) := by decide +kernel
theorem dX7_text_30 : decode cX7_text 30 = .ok (.iload_n 2, 1) := by decide +kernel
theorem dX7_text_31 : decode cX7_text 31 = .ok (.iastore, 1) := by decide +kernel
theorem dX7_text_32 : decode cX7_text 32 = .ok (.iconst 0, 1) := by decide +kernel
theorem dX7_text_33 : decode cX7_text 33 = .ok (.istore_n 3, 1) := by decide +kernel
theorem dX7_text_34 : decode cX7_text 34 = .ok (.iload_n 3, 1) := by decide +kernel
theorem dX7_text_35 : decode cX7_text 35 = .ok (.iload_n 2, 1) := by decide +kernel
theorem dX7_text_36 : decode cX7_text 36 = .ok (.if_icmp .ge 22, 3) := by decide +kernel
theorem dX7_text_39 : decode cX7_text 39 = .ok (.aload_n 0, 1) := by decide +kernel
theorem dX7_text_40 : decode cX7_text 40 = .ok (.getfield 26, 3) := by decide +kernel
theorem dX7_text_43 : decode cX7_text 43 = .ok (.bipush 60, 2) := by decide +kernel
theorem dX7_text_45 : decode cX7_text 45 = .ok (.iload_n 1, 1) := by decide +kernel
theorem dX7_text_46 : decode cX7_text 46 = .ok (.imul, 1) := by decide +kernel
theorem dX7_text_47 : decode cX7_text 47 = .ok (.iload_n 3, 1) := by decide +kernel
theorem dX7_text_48 : decode cX7_text 48 = .ok (.iadd, 1) := by decide +kernel
theorem dX7_text_49 : decode cX7_text 49 = .ok (.bipush 32, 2) := by decide +kernel
theorem dX7_text_51 : decode cX7_text 51 = .ok (.iastore, 1) := by decide +kernel
theorem dX7_text_52 : decode cX7_text 52 = .ok (.iinc 3 1, 3) := by decide +kernel
theorem dX7_text_55 : decode cX7_text 55 = .ok (.goto (-21), 3) := by decide +kernel
theorem dX7_text_58 : decode cX7_text 58 = .ok (.iload_n 2, 1) := by decide +kernel
theorem dX7_text_59 : decode cX7_text 59 = .ok (.ireturn, 1) := by decide +kernel
theorem dX7_put_0 : decode cX7_put 0 = .ok (.iload_n 1, 1) := by decide +kernel
theorem dX7_put_1 : decode cX7_put 1 = .ok (.invokestatic 90, 3) := by decide +kernel
theorem dX7_put_4 : decode cX7_put 4 = .ok (.ifCond .ne 5, 3) := by decide +kernel
theorem dX7_put_7 : decode cX7_put 7 = .ok (.iconst (-1), 1) := by decide +kernel
theorem dX7_put_8 : decode cX7_put 8 = .ok (.ireturn, 1) := by decide +kernel
theorem dX7_put_9 : decode cX7_put 9 = .ok (.aload_n 0, 1) := by decide +kernel
theorem dX7_put_10 : decode cX7_put 10 = .ok (.getfield 29, 3) := by decide +kernel
theorem dX7_put_13 : decode cX7_put 13 = .ok (.iload_n 1, 1) := by decide +kernel
theorem dX7_put_14 : decode cX7_put 14 = .ok (.iaload, 1) := by decide +kernel
theorem dX7_put_15 : decode cX7_put 15 = .ok (.ifCond .ge 9, 3) := by decide +kernel
theorem dX7_put_18 : decode cX7_put 18 = .ok (.aload_n 0, 1) := by decide +kernel
theorem dX7_put_19 : decode cX7_put 19 = .ok (.iconst 1, 1) := by decide +kernel
theorem dX7_put_20 : decode cX7_put 20 = .ok (.invokevirtual 79, 3) := by decide +kernel
theorem dX7_put_23 : decode cX7_put 23 = .ok (.ireturn, 1) := by decide +kernel
theorem dX7_put_24 : decode cX7_put 24 = .ok (.iload_n 2, 1) := by decide +kernel
theorem dX7_put_25 : decode cX7_put 25 = .ok (.i2l, 1) := by decide +kernel
theorem dX7_put_26 : decode cX7_put 26 = .ok (.lconst 0, 1) := by decide +kernel
theorem dX7_put_27 : decode cX7_put 27 = .ok (.aload_n 0, 1) := by decide +kernel
theorem dX7_put_28 : decode cX7_put 28 = .ok (.getfield 29, 3) := by decide +kernel
theorem dX7_put_31 : decode cX7_put 31 = .ok (.iload_n 1, 1) := by decide +kernel
theorem dX7_put_32 : decode cX7_put 32 = .ok (.iaload, 1) := by decide +kernel
theorem dX7_put_33 : decode cX7_put 33 = .ok (.iconst 1, 1) := by decide +kernel
theorem dX7_put_34 : decode cX7_put 34 = .ok (.isub, 1) := by decide +kernel
theorem dX7_put_35 : decode cX7_put 35 = .ok (.i2l, 1) := by decide +kernel
theorem dX7_put_36 : decode cX7_put 36 = .ok (.invokestatic 69, 3) := by decide +kernel
theorem dX7_put_39 : decode cX7_put 39 = .ok (.ifCond .ne 9, 3) := by decide +kernel
theorem dX7_put_42 : decode cX7_put 42 = .ok (.aload_n 0, 1) := by decide +kernel
theorem dX7_put_43 : decode cX7_put 43 = .ok (.iconst 2, 1) := by decide +kernel
theorem dX7_put_44 : decode cX7_put 44 = .ok (.invokevirtual 79, 3) := by decide +kernel
theorem dX7_put_47 : decode cX7_put 47 = .ok (.ireturn, 1) := by decide +kernel
theorem dX7_put_48 : decode cX7_put 48 = .ok (.aload_n 0, 1) := by decide +kernel
theorem dX7_put_49 : decode cX7_put 49 = .ok (.getfield 26, 3) := by decide +kernel
theorem dX7_put_52 : decode cX7_put 52 = .ok (.bipush 60, 2) := by decide +kernel
theorem dX7_put_54 : decode cX7_put 54 = .ok (.iload_n 1, 1) := by decide +kernel
theorem dX7_put_55 : decode cX7_put 55 = .ok (.imul, 1) := by decide +kernel
theorem dX7_put_56 : decode cX7_put 56 = .ok (.iload_n 2, 1) := by decide +kernel
theorem dX7_put_57 : decode cX7_put 57 = .ok (.iadd, 1) := by decide +kernel
theorem dX7_put_58 : decode cX7_put 58 = .ok (.iaload, 1) := by decide +kernel
theorem dX7_put_59 : decode cX7_put 59 = .ok (.istore 4, 2) := by decide +kernel
theorem dX7_put_61 : decode cX7_put 61 = .ok (.iload_n 3, 1) := by decide +kernel
theorem dX7_put_62 : decode cX7_put 62 = .ok (.sipush 255, 3) := by decide +kernel
theorem dX7_put_65 : decode cX7_put 65 = .ok (.iand, 1) := by decide +kernel
theorem dX7_put_66 : decode cX7_put 66 = .ok (.istore 5, 2) := by decide +kernel
theorem dX7_put_68 : decode cX7_put 68 = .ok (.aload_n 0, 1) := by decide +kernel
theorem dX7_put_69 : decode cX7_put 69 = .ok (.getfield 26, 3) := by decide +kernel
theorem dX7_put_72 : decode cX7_put 72 = .ok (.bipush 60, 2) := by decide +kernel
theorem dX7_put_74 : decode cX7_put 74 = .ok (.iload_n 1, 1) := by decide +kernel
theorem dX7_put_75 : decode cX7_put 75 = .ok (.imul, 1) := by decide +kernel
theorem dX7_put_76 : decode cX7_put 76 = .ok (.iload_n 2, 1) := by decide +kernel
theorem dX7_put_77 : decode cX7_put 77 = .ok (.iadd, 1) := by decide +kernel
theorem dX7_put_78 : decode cX7_put 78 = .ok (.iload 5, 2) := by decide +kernel
theorem dX7_put_80 : decode cX7_put 80 = .ok (.bipush 127, 2) := by decide +kernel
theorem dX7_put_82 : decode cX7_put 82 = .ok (.if_icmp .le 12, 3) := by decide +kernel
theorem dX7_put_85 : decode cX7_put 85 = .ok (.iload 5, 2) := by decide +kernel
theorem dX7_put_87 : decode cX7_put 87 = .ok (.sipush 256, 3) := by decide +kernel
theorem dX7_put_90 : decode cX7_put 90 = .ok (.isub, 1) := by decide +kernel
theorem dX7_put_91 : decode cX7_put 91 = .ok (.goto 5, 3) := by decide +kernel
theorem dX7_put_94 : decode cX7_put 94 = .ok (.iload 5, 2) := by decide +kernel
theorem dX7_put_96 : decode cX7_put 96 = .ok (.iastore, 1) := by decide +kernel
theorem dX7_put_97 : decode cX7_put 97 = .ok (.iload 4, 2) := by decide +kernel
theorem dX7_put_99 : decode cX7_put 99 = .ok (.sipush 1000, 3) := by decide +kernel
theorem dX7_put_102 : decode cX7_put 102 = .ok (.iadd, 1) := by decide +kernel
theorem dX7_put_103 : decode cX7_put 103 = .ok (.ireturn, 1) := by decide +kernel
theorem dX7_here_0 : decode cX7_here 0 = .ok (.aload_n 0, 1) := by decide +kernel
theorem dX7_here_1 : decode cX7_here 1 = .ok (.getfield 93, 3) := by decide +kernel
theorem dX7_here_4 : decode cX7_here 4 = .ok (.aload_n 0, 1) := by decide +kernel
theorem dX7_here_5 : decode cX7_here 5 = .ok (.getfield 29, 3) := by decide +kernel
theorem dX7_here_8 : decode cX7_here 8 = .ok (.iload_n 1, 1) := by decide +kernel
theorem dX7_here_9 : decode cX7_here 9 = .ok (.iaload, 1) := by decide +kernel
theorem dX7_here_10 : decode cX7_here 10 = .ok (.if_icmp .ge 20, 3) := by decide +kernel
theorem dX7_here_13 : decode cX7_here 13 = .ok (.aload_n 0, 1) := by decide +kernel
theorem dX7_here_14 : decode cX7_here 14 = .ok (.getfield 26, 3) := by decide +kernel
theorem dX7_here_17 : decode cX7_here 17 = .ok (.bipush 60, 2) := by decide +kernel
theorem dX7_here_19 : decode cX7_here 19 = .ok (.iload_n 1, 1) := by decide +kernel
theorem dX7_here_20 : decode cX7_here 20 = .ok (.imul, 1) := by decide +kernel
theorem dX7_here_21 : decode cX7_here 21 = .ok (.aload_n 0, 1) := by decide +kernel
theorem dX7_here_22 : decode cX7_here 22 = .ok (.getfield 93, 3) := by decide +kernel
theorem dX7_here_25 : decode cX7_here 25 = .ok (.iadd, 1) := by decide +kernel
theorem dX7_here_26 : decode cX7_here 26 = .ok (.iaload, 1) := by decide +kernel
theorem dX7_here_27 : decode cX7_here 27 = .ok (.goto 5, 3) := by decide +kernel
theorem dX7_here_30 : decode cX7_here 30 = .ok (.bipush (-9), 2) := by decide +kernel
theorem dX7_here_32 : decode cX7_here 32 = .ok (.ireturn, 1) := by decide +kernel
theorem dX7_skip_0 : decode cX7_skip 0 = .ok (.aload_n 0, 1) := by decide +kernel
theorem dX7_skip_1 : decode cX7_skip 1 = .ok (.iload_n 1, 1) := by decide +kernel
theorem dX7_skip_2 : decode cX7_skip 2 = .ok (.invokevirtual 96, 3) := by decide +kernel
theorem dX7_skip_5 : decode cX7_skip 5 = .ok (.bipush 32, 2) := by decide +kernel
theorem dX7_skip_7 : decode cX7_skip 7 = .ok (.if_icmp .ne 16, 3) := by decide +kernel
theorem dX7_skip_10 : decode cX7_skip 10 = .ok (.aload_n 0, 1) := by decide +kernel
theorem dX7_skip_11 : decode cX7_skip 11 = .ok (.dup, 1) := by decide +kernel
theorem dX7_skip_12 : decode cX7_skip 12 = .ok (.getfield 93, 3) := by decide +kernel
theorem dX7_skip_15 : decode cX7_skip 15 = .ok (.iconst 1, 1) := by decide +kernel
theorem dX7_skip_16 : decode cX7_skip 16 = .ok (.iadd, 1) := by decide +kernel
theorem dX7_skip_17 : decode cX7_skip 17 = .ok (.putfield 93, 3) := by decide +kernel
theorem dX7_skip_20 : decode cX7_skip 20 = .ok (.goto (-20), 3) := by decide +kernel
theorem dX7_skip_23 : decode cX7_skip 23 = .ok (.return_, 1) := by decide +kernel
theorem dX7_takes_0 : decode cX7_takes 0 = .ok (.aload_n 0, 1) := by decide +kernel
theorem dX7_takes_1 : decode cX7_takes 1 = .ok (.iload_n 1, 1) := by decide +kernel
theorem dX7_takes_2 : decode cX7_takes 2 = .ok (.invokevirtual 96, 3) := by decide +kernel
theorem dX7_takes_5 : decode cX7_takes 5 = .ok (.istore 5, 2) := by decide +kernel
theorem dX7_takes_7 : decode cX7_takes 7 = .ok (.iload 5, 2) := by decide +kernel
theorem dX7_takes_9 : decode cX7_takes 9 = .ok (.i2l, 1) := by decide +kernel
theorem dX7_takes_10 : decode cX7_takes 10 = .ok (.bipush 48, 2) := by decide +kernel
theorem dX7_takes_12 : decode cX7_takes 12 = .ok (.iload_n 3, 1) := by decide +kernel
theorem dX7_takes_13 : decode cX7_takes 13 = .ok (.iadd, 1) := by decide +kernel
theorem dX7_takes_14 : decode cX7_takes 14 = .ok (.i2l, 1) := by decide +kernel
theorem dX7_takes_15 : decode cX7_takes 15 = .ok (.bipush 48, 2) := by decide +kernel
theorem dX7_takes_17 : decode cX7_takes 17 = .ok (.iload 4, 2) := by decide +kernel
theorem dX7_takes_19 : decode cX7_takes 19 = .ok (.iadd, 1) := by decide +kernel
theorem dX7_takes_20 : decode cX7_takes 20 = .ok (.i2l, 1) := by decide +kernel
theorem dX7_takes_21 : decode cX7_takes 21 = .ok (.invokestatic 69, 3) := by decide +kernel
theorem dX7_takes_24 : decode cX7_takes 24 = .ok (.ifCond .ne 5, 3) := by decide +kernel
theorem dX7_takes_27 : decode cX7_takes 27 = .ok (.iconst 0, 1) := by decide +kernel
theorem dX7_takes_28 : decode cX7_takes 28 = .ok (.ireturn, 1) := by decide +kernel
theorem dX7_takes_29 : decode cX7_takes 29 = .ok (.aload_n 0, 1) := by decide +kernel
theorem dX7_takes_30 : decode cX7_takes 30 = .ok (.getfield 42, 3) := by decide +kernel
theorem dX7_takes_33 : decode cX7_takes 33 = .ok (.iload_n 2, 1) := by decide +kernel
theorem dX7_takes_34 : decode cX7_takes 34 = .ok (.iload 5, 2) := by decide +kernel
theorem dX7_takes_36 : decode cX7_takes 36 = .ok (.bipush 48, 2) := by decide +kernel
theorem dX7_takes_38 : decode cX7_takes 38 = .ok (.isub, 1) := by decide +kernel
theorem dX7_takes_39 : decode cX7_takes 39 = .ok (.iastore, 1) := by decide +kernel
theorem dX7_takes_40 : decode cX7_takes 40 = .ok (.aload_n 0, 1) := by decide +kernel
theorem dX7_takes_41 : decode cX7_takes 41 = .ok (.dup, 1) := by decide +kernel
theorem dX7_takes_42 : decode cX7_takes 42 = .ok (.getfield 93, 3) := by decide +kernel
theorem dX7_takes_45 : decode cX7_takes 45 = .ok (.iconst 1, 1) := by decide +kernel
theorem dX7_takes_46 : decode cX7_takes 46 = .ok (.iadd, 1) := by decide +kernel
theorem dX7_takes_47 : decode cX7_takes 47 = .ok (.putfield 93, 3) := by decide +kernel
theorem dX7_takes_50 : decode cX7_takes 50 = .ok (.iconst 1, 1) := by decide +kernel
theorem dX7_takes_51 : decode cX7_takes 51 = .ok (.ireturn, 1) := by decide +kernel
theorem dX7_takesSet_0 : decode cX7_takesSet 0 = .ok (.aload_n 0, 1) := by decide +kernel
theorem dX7_takesSet_1 : decode cX7_takesSet 1 = .ok (.getfield 93, 3) := by decide +kernel
theorem dX7_takesSet_4 : decode cX7_takesSet 4 = .ok (.istore_n 3, 1) := by decide +kernel
theorem dX7_takesSet_5 : decode cX7_takesSet 5 = .ok (.aload_n 0, 1) := by decide +kernel
theorem dX7_takesSet_6 : decode cX7_takesSet 6 = .ok (.iload_n 1, 1) := by decide +kernel
theorem dX7_takesSet_7 : decode cX7_takesSet 7 = .ok (.iload_n 2, 1) := by decide +kernel
theorem dX7_takesSet_8 : decode cX7_takesSet 8 = .ok (.iconst 0, 1) := by decide +kernel
theorem dX7_takesSet_9 : decode cX7_takesSet 9 = .ok (.bipush 9, 2) := by decide +kernel
theorem dX7_takesSet_11 : decode cX7_takesSet 11 = .ok (.invokevirtual 99, 3) := by decide +kernel
theorem dX7_takesSet_14 : decode cX7_takesSet 14 = .ok (.ifCond .ne 5, 3) := by decide +kernel
theorem dX7_takesSet_17 : decode cX7_takesSet 17 = .ok (.iconst 0, 1) := by decide +kernel
theorem dX7_takesSet_18 : decode cX7_takesSet 18 = .ok (.ireturn, 1) := by decide +kernel
theorem dX7_takesSet_19 : decode cX7_takesSet 19 = .ok (.aload_n 0, 1) := by decide +kernel
theorem dX7_takesSet_20 : decode cX7_takesSet 20 = .ok (.getfield 42, 3) := by decide +kernel
theorem dX7_takesSet_23 : decode cX7_takesSet 23 = .ok (.iload_n 2, 1) := by decide +kernel
theorem dX7_takesSet_24 : decode cX7_takesSet 24 = .ok (.iaload, 1) := by decide +kernel
theorem dX7_takesSet_25 : decode cX7_takesSet 25 = .ok (.istore 4, 2) := by decide +kernel
theorem dX7_takesSet_27 : decode cX7_takesSet 27 = .ok (.aload_n 0, 1) := by decide +kernel
theorem dX7_takesSet_28 : decode cX7_takesSet 28 = .ok (.iload_n 1, 1) := by decide +kernel
theorem dX7_takesSet_29 : decode cX7_takesSet 29 = .ok (.iload_n 2, 1) := by decide +kernel
theorem dX7_takesSet_30 : decode cX7_takesSet 30 = .ok (.iconst 0, 1) := by decide +kernel
theorem dX7_takesSet_31 : decode cX7_takesSet 31 = .ok (.bipush 9, 2) := by decide +kernel
theorem dX7_takesSet_33 : decode cX7_takesSet 33 = .ok (.invokevirtual 99, 3) := by decide +kernel
theorem dX7_takesSet_36 : decode cX7_takesSet 36 = .ok (.ifCond .ne 5, 3) := by decide +kernel
theorem dX7_takesSet_39 : decode cX7_takesSet 39 = .ok (.iconst 0, 1) := by decide +kernel
theorem dX7_takesSet_40 : decode cX7_takesSet 40 = .ok (.ireturn, 1) := by decide +kernel
theorem dX7_takesSet_41 : decode cX7_takesSet 41 = .ok (.aload_n 0, 1) := by decide +kernel
theorem dX7_takesSet_42 : decode cX7_takesSet 42 = .ok (.getfield 42, 3) := by decide +kernel
theorem dX7_takesSet_45 : decode cX7_takesSet 45 = .ok (.iload_n 2, 1) := by decide +kernel
theorem dX7_takesSet_46 : decode cX7_takesSet 46 = .ok (.dup2, 1) := by decide +kernel
theorem dX7_takesSet_47 : decode cX7_takesSet 47 = .ok (.iaload, 1) := by decide +kernel
theorem dX7_takesSet_48 : decode cX7_takesSet 48 = .ok (.bipush 10, 2) := by decide +kernel
theorem dX7_takesSet_50 : decode cX7_takesSet 50 = .ok (.iload 4, 2) := by decide +kernel
theorem dX7_takesSet_52 : decode cX7_takesSet 52 = .ok (.imul, 1) := by decide +kernel
theorem dX7_takesSet_53 : decode cX7_takesSet 53 = .ok (.iadd, 1) := by decide +kernel
theorem dX7_takesSet_54 : decode cX7_takesSet 54 = .ok (.iastore, 1) := by decide +kernel
theorem dX7_takesSet_55 : decode cX7_takesSet 55 = .ok (.aload_n 0, 1) := by decide +kernel
theorem dX7_takesSet_56 : decode cX7_takesSet 56 = .ok (.aload_n 0, 1) := by decide +kernel
theorem dX7_takesSet_57 : decode cX7_takesSet 57 = .ok (.getfield 42, 3) := by decide +kernel
theorem dX7_takesSet_60 : decode cX7_takesSet 60 = .ok (.iload_n 2, 1) := by decide +kernel
theorem dX7_takesSet_61 : decode cX7_takesSet 61 = .ok (.iaload, 1) := by decide +kernel
theorem dX7_takesSet_62 : decode cX7_takesSet 62 = .ok (.bipush 63, 2) := by decide +kernel
theorem dX7_takesSet_64 : decode cX7_takesSet 64 = .ok (.if_icmp .le 7, 3) := by decide +kernel
theorem dX7_takesSet_67 : decode cX7_takesSet 67 = .ok (.iload_n 3, 1) := by decide +kernel
theorem dX7_takesSet_68 : decode cX7_takesSet 68 = .ok (.goto 7, 3) := by decide +kernel
theorem dX7_takesSet_71 : decode cX7_takesSet 71 = .ok (.aload_n 0, 1) := by decide +kernel
theorem dX7_takesSet_72 : decode cX7_takesSet 72 = .ok (.getfield 93, 3) := by decide +kernel
theorem dX7_takesSet_75 : decode cX7_takesSet 75 = .ok (.putfield 93, 3) := by decide +kernel
theorem dX7_takesSet_78 : decode cX7_takesSet 78 = .ok (.aload_n 0, 1) := by decide +kernel
theorem dX7_takesSet_79 : decode cX7_takesSet 79 = .ok (.getfield 42, 3) := by decide +kernel
theorem dX7_takesSet_82 : decode cX7_takesSet 82 = .ok (.iload_n 2, 1) := by decide +kernel
theorem dX7_takesSet_83 : decode cX7_takesSet 83 = .ok (.iaload, 1) := by decide +kernel
theorem dX7_takesSet_84 : decode cX7_takesSet 84 = .ok (.bipush 63, 2) := by decide +kernel
theorem dX7_takesSet_86 : decode cX7_takesSet 86 = .ok (.if_icmp .gt 7, 3) := by decide +kernel
theorem dX7_takesSet_89 : decode cX7_takesSet 89 = .ok (.iconst 1, 1) := by decide +kernel
theorem dX7_takesSet_90 : decode cX7_takesSet 90 = .ok (.goto 4, 3) := by decide +kernel
theorem dX7_takesSet_93 : decode cX7_takesSet 93 = .ok (.iconst 0, 1) := by decide +kernel
theorem dX7_takesSet_94 : decode cX7_takesSet 94 = .ok (.ireturn, 1) := by decide +kernel
theorem dX7_kindBy_0 : decode cX7_kindBy 0 = .ok (.iload_n 0, 1) := by decide +kernel
theorem dX7_kindBy_1 : decode cX7_kindBy 1 = .ok (.bipush 114, 2) := by decide +kernel
theorem dX7_kindBy_3 : decode cX7_kindBy 3 = .ok (.if_icmp .ne 7, 3) := by decide +kernel
theorem dX7_kindBy_6 : decode cX7_kindBy 6 = .ok (.iconst 0, 1) := by decide +kernel
theorem dX7_kindBy_7 : decode cX7_kindBy 7 = .ok (.goto 55, 3) := by decide +kernel
theorem dX7_kindBy_10 : decode cX7_kindBy 10 = .ok (.iload_n 0, 1) := by decide +kernel
theorem dX7_kindBy_11 : decode cX7_kindBy 11 = .ok (.bipush 115, 2) := by decide +kernel
theorem dX7_kindBy_13 : decode cX7_kindBy 13 = .ok (.if_icmp .ne 7, 3) := by decide +kernel
theorem dX7_kindBy_16 : decode cX7_kindBy 16 = .ok (.iconst 1, 1) := by decide +kernel
theorem dX7_kindBy_17 : decode cX7_kindBy 17 = .ok (.goto 45, 3) := by decide +kernel
theorem dX7_kindBy_20 : decode cX7_kindBy 20 = .ok (.iload_n 0, 1) := by decide +kernel
theorem dX7_kindBy_21 : decode cX7_kindBy 21 = .ok (.bipush 112, 2) := by decide +kernel
theorem dX7_kindBy_23 : decode cX7_kindBy 23 = .ok (.if_icmp .ne 7, 3) := by decide +kernel
theorem dX7_kindBy_26 : decode cX7_kindBy 26 = .ok (.iconst 2, 1) := by decide +kernel
theorem dX7_kindBy_27 : decode cX7_kindBy 27 = .ok (.goto 35, 3) := by decide +kernel
theorem dX7_kindBy_30 : decode cX7_kindBy 30 = .ok (.iload_n 0, 1) := by decide +kernel
theorem dX7_kindBy_31 : decode cX7_kindBy 31 = .ok (.bipush 110, 2) := by decide +kernel
theorem dX7_kindBy_33 : decode cX7_kindBy 33 = .ok (.if_icmp .ne 7, 3) := by decide +kernel
theorem dX7_kindBy_36 : decode cX7_kindBy 36 = .ok (.iconst 3, 1) := by decide +kernel
theorem dX7_kindBy_37 : decode cX7_kindBy 37 = .ok (.goto 25, 3) := by decide +kernel
theorem dX7_kindBy_40 : decode cX7_kindBy 40 = .ok (.iload_n 0, 1) := by decide +kernel
theorem dX7_kindBy_41 : decode cX7_kindBy 41 = .ok (.bipush 116, 2) := by decide +kernel
theorem dX7_kindBy_43 : decode cX7_kindBy 43 = .ok (.if_icmp .ne 7, 3) := by decide +kernel
theorem dX7_kindBy_46 : decode cX7_kindBy 46 = .ok (.iconst 4, 1) := by decide +kernel
theorem dX7_kindBy_47 : decode cX7_kindBy 47 = .ok (.goto 15, 3) := by decide +kernel
theorem dX7_kindBy_50 : decode cX7_kindBy 50 = .ok (.iload_n 0, 1) := by decide +kernel
theorem dX7_kindBy_51 : decode cX7_kindBy 51 = .ok (.bipush 119, 2) := by decide +kernel
theorem dX7_kindBy_53 : decode cX7_kindBy 53 = .ok (.if_icmp .ne 7, 3) := by decide +kernel
theorem dX7_kindBy_56 : decode cX7_kindBy 56 = .ok (.iconst 5, 1) := by decide +kernel
theorem dX7_kindBy_57 : decode cX7_kindBy 57 = .ok (.goto 5, 3) := by decide +kernel
theorem dX7_kindBy_60 : decode cX7_kindBy 60 = .ok (.bipush (-9), 2) := by decide +kernel
theorem dX7_kindBy_62 : decode cX7_kindBy 62 = .ok (.ireturn, 1) := by decide +kernel
theorem dX7_takesFirst_0 : decode cX7_takesFirst 0 = .ok (.aload_n 0, 1) := by decide +kernel
theorem dX7_takesFirst_1 : decode cX7_takesFirst 1 = .ok (.iload_n 1, 1) := by decide +kernel
theorem dX7_takesFirst_2 : decode cX7_takesFirst 2 = .ok (.invokevirtual 103, 3) := by decide +kernel
theorem dX7_takesFirst_5 : decode cX7_takesFirst 5 = .ok (.aload_n 0, 1) := by decide +kernel
theorem dX7_takesFirst_6 : decode cX7_takesFirst 6 = .ok (.iload_n 1, 1) := by decide +kernel
theorem dX7_takesFirst_7 : decode cX7_takesFirst 7 = .ok (.invokevirtual 96, 3) := by decide +kernel
theorem dX7_takesFirst_10 : decode cX7_takesFirst 10 = .ok (.bipush 104, 2) := by decide +kernel
theorem dX7_takesFirst_12 : decode cX7_takesFirst 12 = .ok (.if_icmp .eq 5, 3) := by decide +kernel
theorem dX7_takesFirst_15 : decode cX7_takesFirst 15 = .ok (.iconst 0, 1) := by decide +kernel
theorem dX7_takesFirst_16 : decode cX7_takesFirst 16 = .ok (.ireturn, 1) := by decide +kernel
theorem dX7_takesFirst_17 : decode cX7_takesFirst 17 = .ok (.aload_n 0, 1) := by decide +kernel
theorem dX7_takesFirst_18 : decode cX7_takesFirst 18 = .ok (.dup, 1) := by decide +kernel
theorem dX7_takesFirst_19 : decode cX7_takesFirst 19 = .ok (.getfield 93, 3) := by decide +kernel
theorem dX7_takesFirst_22 : decode cX7_takesFirst 22 = .ok (.iconst 1, 1) := by decide +kernel
theorem dX7_takesFirst_23 : decode cX7_takesFirst 23 = .ok (.iadd, 1) := by decide +kernel
theorem dX7_takesFirst_24 : decode cX7_takesFirst 24 = .ok (.putfield 93, 3) := by decide +kernel
theorem dX7_takesFirst_27 : decode cX7_takesFirst 27 = .ok (.aload_n 0, 1) := by decide +kernel
theorem dX7_takesFirst_28 : decode cX7_takesFirst 28 = .ok (.iload_n 1, 1) := by decide +kernel
theorem dX7_takesFirst_29 : decode cX7_takesFirst 29 = .ok (.bipush 26, 2) := by decide +kernel
theorem dX7_takesFirst_31 : decode cX7_takesFirst 31 = .ok (.iconst 0, 1) := by decide +kernel
theorem dX7_takesFirst_32 : decode cX7_takesFirst 32 = .ok (.iconst 1, 1) := by decide +kernel
theorem dX7_takesFirst_33 : decode cX7_takesFirst 33 = .ok (.invokevirtual 99, 3) := by decide +kernel
theorem dX7_takesFirst_36 : decode cX7_takesFirst 36 = .ok (.ireturn, 1) := by decide +kernel
theorem dX7_takesRope_0 : decode cX7_takesRope 0 = .ok (.aload_n 0, 1) := by decide +kernel
theorem dX7_takesRope_1 : decode cX7_takesRope 1 = .ok (.getfield 42, 3) := by decide +kernel
theorem dX7_takesRope_4 : decode cX7_takesRope 4 = .ok (.iconst 0, 1) := by decide +kernel
theorem dX7_takesRope_5 : decode cX7_takesRope 5 = .ok (.iaload, 1) := by decide +kernel
theorem dX7_takesRope_6 : decode cX7_takesRope 6 = .ok (.istore_n 2, 1) := by decide +kernel
theorem dX7_takesRope_7 : decode cX7_takesRope 7 = .ok (.aload_n 0, 1) := by decide +kernel
theorem dX7_takesRope_8 : decode cX7_takesRope 8 = .ok (.iload_n 1, 1) := by decide +kernel
theorem dX7_takesRope_9 : decode cX7_takesRope 9 = .ok (.invokevirtual 96, 3) := by decide +kernel
theorem dX7_takesRope_12 : decode cX7_takesRope 12 = .ok (.invokestatic 107, 3) := by decide +kernel
theorem dX7_takesRope_15 : decode cX7_takesRope 15 = .ok (.istore_n 3, 1) := by decide +kernel
theorem dX7_takesRope_16 : decode cX7_takesRope 16 = .ok (.iload_n 3, 1) := by decide +kernel
theorem dX7_takesRope_17 : decode cX7_takesRope 17 = .ok (.bipush (-9), 2) := by decide +kernel
theorem dX7_takesRope_19 : decode cX7_takesRope 19 = .ok (.if_icmp .eq 18, 3) := by decide +kernel
theorem dX7_takesRope_22 : decode cX7_takesRope 22 = .ok (.iload_n 2, 1) := by decide +kernel
theorem dX7_takesRope_23 : decode cX7_takesRope 23 = .ok (.bipush 6, 2) := by decide +kernel
theorem dX7_takesRope_25 : decode cX7_takesRope 25 = .ok (.if_icmp .eq 12, 3) := by decide +kernel
theorem dX7_takesRope_28 : decode cX7_takesRope 28 = .ok (.aload_n 0, 1) := by decide +kernel
theorem dX7_takesRope_29 : decode cX7_takesRope 29 = .ok (.getfield 42, 3) := by decide +kernel
theorem dX7_takesRope_32 : decode cX7_takesRope 32 = .ok (.iconst 1, 1) := by decide +kernel
theorem dX7_takesRope_33 : decode cX7_takesRope 33 = .ok (.iaload, 1) := by decide +kernel
theorem dX7_takesRope_34 : decode cX7_takesRope 34 = .ok (.ifCond .le 5, 3) := by decide +kernel
theorem dX7_takesRope_37 : decode cX7_takesRope 37 = .ok (.iconst 0, 1) := by decide +kernel
theorem dX7_takesRope_38 : decode cX7_takesRope 38 = .ok (.ireturn, 1) := by decide +kernel
theorem dX7_takesRope_39 : decode cX7_takesRope 39 = .ok (.aload_n 0, 1) := by decide +kernel
theorem dX7_takesRope_40 : decode cX7_takesRope 40 = .ok (.getfield 42, 3) := by decide +kernel
theorem dX7_takesRope_43 : decode cX7_takesRope 43 = .ok (.iconst 2, 1) := by decide +kernel
theorem dX7_takesRope_44 : decode cX7_takesRope 44 = .ok (.iload_n 2, 1) := by decide +kernel
theorem dX7_takesRope_45 : decode cX7_takesRope 45 = .ok (.iadd, 1) := by decide +kernel
theorem dX7_takesRope_46 : decode cX7_takesRope 46 = .ok (.iload_n 3, 1) := by decide +kernel
theorem dX7_takesRope_47 : decode cX7_takesRope 47 = .ok (.iastore, 1) := by decide +kernel
theorem dX7_takesRope_48 : decode cX7_takesRope 48 = .ok (.aload_n 0, 1) := by decide +kernel
theorem dX7_takesRope_49 : decode cX7_takesRope 49 = .ok (.dup, 1) := by decide +kernel
theorem dX7_takesRope_50 : decode cX7_takesRope 50 = .ok (.getfield 93, 3) := by decide +kernel
theorem dX7_takesRope_53 : decode cX7_takesRope 53 = .ok (.iconst 1, 1) := by decide +kernel
theorem dX7_takesRope_54 : decode cX7_takesRope 54 = .ok (.iadd, 1) := by decide +kernel
theorem dX7_takesRope_55 : decode cX7_takesRope 55 = .ok (.putfield 93, 3) := by decide +kernel
theorem dX7_takesRope_58 : decode cX7_takesRope 58 = .ok (.aload_n 0, 1) := by decide +kernel
theorem dX7_takesRope_59 : decode cX7_takesRope 59 = .ok (.iload_n 1, 1) := by decide +kernel
theorem dX7_takesRope_60 : decode cX7_takesRope 60 = .ok (.bipush 8, 2) := by decide +kernel
theorem dX7_takesRope_62 : decode cX7_takesRope 62 = .ok (.iload_n 2, 1) := by decide +kernel
theorem dX7_takesRope_63 : decode cX7_takesRope 63 = .ok (.iadd, 1) := by decide +kernel
theorem dX7_takesRope_64 : decode cX7_takesRope 64 = .ok (.iconst 1, 1) := by decide +kernel
theorem dX7_takesRope_65 : decode cX7_takesRope 65 = .ok (.bipush 9, 2) := by decide +kernel
theorem dX7_takesRope_67 : decode cX7_takesRope 67 = .ok (.invokevirtual 99, 3) := by decide +kernel
theorem dX7_takesRope_70 : decode cX7_takesRope 70 = .ok (.ifCond .eq 39, 3) := by decide +kernel
theorem dX7_takesRope_73 : decode cX7_takesRope 73 = .ok (.aload_n 0, 1) := by decide +kernel
theorem dX7_takesRope_74 : decode cX7_takesRope 74 = .ok (.iload_n 1, 1) := by decide +kernel
theorem dX7_takesRope_75 : decode cX7_takesRope 75 = .ok (.bipush 14, 2) := by decide +kernel
theorem dX7_takesRope_77 : decode cX7_takesRope 77 = .ok (.iload_n 2, 1) := by decide +kernel
theorem dX7_takesRope_78 : decode cX7_takesRope 78 = .ok (.iadd, 1) := by decide +kernel
theorem dX7_takesRope_79 : decode cX7_takesRope 79 = .ok (.iconst 0, 1) := by decide +kernel
theorem dX7_takesRope_80 : decode cX7_takesRope 80 = .ok (.iconst 5, 1) := by decide +kernel
theorem dX7_takesRope_81 : decode cX7_takesRope 81 = .ok (.invokevirtual 99, 3) := by decide +kernel
theorem dX7_takesRope_84 : decode cX7_takesRope 84 = .ok (.ifCond .eq 25, 3) := by decide +kernel
theorem dX7_takesRope_87 : decode cX7_takesRope 87 = .ok (.aload_n 0, 1) := by decide +kernel
theorem dX7_takesRope_88 : decode cX7_takesRope 88 = .ok (.iload_n 1, 1) := by decide +kernel
theorem dX7_takesRope_89 : decode cX7_takesRope 89 = .ok (.bipush 20, 2) := by decide +kernel
theorem dX7_takesRope_91 : decode cX7_takesRope 91 = .ok (.iload_n 2, 1) := by decide +kernel
theorem dX7_takesRope_92 : decode cX7_takesRope 92 = .ok (.iadd, 1) := by decide +kernel
theorem dX7_takesRope_93 : decode cX7_takesRope 93 = .ok (.iconst 0, 1) := by decide +kernel
theorem dX7_takesRope_94 : decode cX7_takesRope 94 = .ok (.aload_n 0, 1) := by decide +kernel
theorem dX7_takesRope_95 : decode cX7_takesRope 95 = .ok (.getfield 42, 3) := by decide +kernel
theorem dX7_takesRope_98 : decode cX7_takesRope 98 = .ok (.bipush 8, 2) := by decide +kernel
theorem dX7_takesRope_100 : decode cX7_takesRope 100 = .ok (.iload_n 2, 1) := by decide +kernel
theorem dX7_takesRope_101 : decode cX7_takesRope 101 = .ok (.iadd, 1) := by decide +kernel
theorem dX7_takesRope_102 : decode cX7_takesRope 102 = .ok (.iaload, 1) := by decide +kernel
theorem dX7_takesRope_103 : decode cX7_takesRope 103 = .ok (.invokevirtual 99, 3) := by decide +kernel
theorem dX7_takesRope_106 : decode cX7_takesRope 106 = .ok (.ifCond .ne 5, 3) := by decide +kernel
theorem dX7_takesRope_109 : decode cX7_takesRope 109 = .ok (.iconst 0, 1) := by decide +kernel
theorem dX7_takesRope_110 : decode cX7_takesRope 110 = .ok (.ireturn, 1) := by decide +kernel
theorem dX7_takesRope_111 : decode cX7_takesRope 111 = .ok (.aload_n 0, 1) := by decide +kernel
theorem dX7_takesRope_112 : decode cX7_takesRope 112 = .ok (.getfield 42, 3) := by decide +kernel
theorem dX7_takesRope_115 : decode cX7_takesRope 115 = .ok (.iconst 0, 1) := by decide +kernel
theorem dX7_takesRope_116 : decode cX7_takesRope 116 = .ok (.dup2, 1) := by decide +kernel
theorem dX7_takesRope_117 : decode cX7_takesRope 117 = .ok (.iaload, 1) := by decide +kernel
theorem dX7_takesRope_118 : decode cX7_takesRope 118 = .ok (.iconst 1, 1) := by decide +kernel
theorem dX7_takesRope_119 : decode cX7_takesRope 119 = .ok (.iadd, 1) := by decide +kernel
theorem dX7_takesRope_120 : decode cX7_takesRope 120 = .ok (.iastore, 1) := by decide +kernel
theorem dX7_takesRope_121 : decode cX7_takesRope 121 = .ok (.iconst 1, 1) := by decide +kernel
theorem dX7_takesRope_122 : decode cX7_takesRope 122 = .ok (.ireturn, 1) := by decide +kernel
theorem dX7_takesAct_0 : decode cX7_takesAct 0 = .ok (.aload_n 0, 1) := by decide +kernel
theorem dX7_takesAct_1 : decode cX7_takesAct 1 = .ok (.getfield 42, 3) := by decide +kernel
theorem dX7_takesAct_4 : decode cX7_takesAct 4 = .ok (.iconst 1, 1) := by decide +kernel
theorem dX7_takesAct_5 : decode cX7_takesAct 5 = .ok (.iaload, 1) := by decide +kernel
theorem dX7_takesAct_6 : decode cX7_takesAct 6 = .ok (.istore_n 2, 1) := by decide +kernel
theorem dX7_takesAct_7 : decode cX7_takesAct 7 = .ok (.iload_n 2, 1) := by decide +kernel
theorem dX7_takesAct_8 : decode cX7_takesAct 8 = .ok (.iconst 4, 1) := by decide +kernel
theorem dX7_takesAct_9 : decode cX7_takesAct 9 = .ok (.if_icmp .eq 12, 3) := by decide +kernel
theorem dX7_takesAct_12 : decode cX7_takesAct 12 = .ok (.aload_n 0, 1) := by decide +kernel
theorem dX7_takesAct_13 : decode cX7_takesAct 13 = .ok (.getfield 42, 3) := by decide +kernel
theorem dX7_takesAct_16 : decode cX7_takesAct 16 = .ok (.iconst 0, 1) := by decide +kernel
theorem dX7_takesAct_17 : decode cX7_takesAct 17 = .ok (.iaload, 1) := by decide +kernel
theorem dX7_takesAct_18 : decode cX7_takesAct 18 = .ok (.ifCond .ne 5, 3) := by decide +kernel
theorem dX7_takesAct_21 : decode cX7_takesAct 21 = .ok (.iconst 0, 1) := by decide +kernel
theorem dX7_takesAct_22 : decode cX7_takesAct 22 = .ok (.ireturn, 1) := by decide +kernel
theorem dX7_takesAct_23 : decode cX7_takesAct 23 = .ok (.aload_n 0, 1) := by decide +kernel
theorem dX7_takesAct_24 : decode cX7_takesAct 24 = .ok (.dup, 1) := by decide +kernel
theorem dX7_takesAct_25 : decode cX7_takesAct 25 = .ok (.getfield 93, 3) := by decide +kernel
theorem dX7_takesAct_28 : decode cX7_takesAct 28 = .ok (.iconst 1, 1) := by decide +kernel
theorem dX7_takesAct_29 : decode cX7_takesAct 29 = .ok (.iadd, 1) := by decide +kernel
theorem dX7_takesAct_30 : decode cX7_takesAct 30 = .ok (.putfield 93, 3) := by decide +kernel
theorem dX7_takesAct_33 : decode cX7_takesAct 33 = .ok (.aload_n 0, 1) := by decide +kernel
theorem dX7_takesAct_34 : decode cX7_takesAct 34 = .ok (.iload_n 1, 1) := by decide +kernel
theorem dX7_takesAct_35 : decode cX7_takesAct 35 = .ok (.bipush 27, 2) := by decide +kernel
theorem dX7_takesAct_37 : decode cX7_takesAct 37 = .ok (.iload_n 2, 1) := by decide +kernel
theorem dX7_takesAct_38 : decode cX7_takesAct 38 = .ok (.iadd, 1) := by decide +kernel
theorem dX7_takesAct_39 : decode cX7_takesAct 39 = .ok (.invokevirtual 110, 3) := by decide +kernel
theorem dX7_takesAct_42 : decode cX7_takesAct 42 = .ok (.ifCond .eq 15, 3) := by decide +kernel
theorem dX7_takesAct_45 : decode cX7_takesAct 45 = .ok (.aload_n 0, 1) := by decide +kernel
theorem dX7_takesAct_46 : decode cX7_takesAct 46 = .ok (.iload_n 1, 1) := by decide +kernel
theorem dX7_takesAct_47 : decode cX7_takesAct 47 = .ok (.bipush 31, 2) := by decide +kernel
theorem dX7_takesAct_49 : decode cX7_takesAct 49 = .ok (.iload_n 2, 1) := by decide +kernel
theorem dX7_takesAct_50 : decode cX7_takesAct 50 = .ok (.iadd, 1) := by decide +kernel
theorem dX7_takesAct_51 : decode cX7_takesAct 51 = .ok (.invokevirtual 110, 3) := by decide +kernel
theorem dX7_takesAct_54 : decode cX7_takesAct 54 = .ok (.ifCond .ne 5, 3) := by decide +kernel
theorem dX7_takesAct_57 : decode cX7_takesAct 57 = .ok (.iconst 0, 1) := by decide +kernel
theorem dX7_takesAct_58 : decode cX7_takesAct 58 = .ok (.ireturn, 1) := by decide +kernel
theorem dX7_takesAct_59 : decode cX7_takesAct 59 = .ok (.aload_n 0, 1) := by decide +kernel
theorem dX7_takesAct_60 : decode cX7_takesAct 60 = .ok (.getfield 42, 3) := by decide +kernel
theorem dX7_takesAct_63 : decode cX7_takesAct 63 = .ok (.iconst 1, 1) := by decide +kernel
theorem dX7_takesAct_64 : decode cX7_takesAct 64 = .ok (.dup2, 1) := by decide +kernel
theorem dX7_takesAct_65 : decode cX7_takesAct 65 = .ok (.iaload, 1) := by decide +kernel
theorem dX7_takesAct_66 : decode cX7_takesAct 66 = .ok (.iconst 1, 1) := by decide +kernel
theorem dX7_takesAct_67 : decode cX7_takesAct 67 = .ok (.iadd, 1) := by decide +kernel
theorem dX7_takesAct_68 : decode cX7_takesAct 68 = .ok (.iastore, 1) := by decide +kernel
theorem dX7_takesAct_69 : decode cX7_takesAct 69 = .ok (.iconst 1, 1) := by decide +kernel
theorem dX7_takesAct_70 : decode cX7_takesAct 70 = .ok (.ireturn, 1) := by decide +kernel
theorem dX7_faultOf_0 : decode cX7_faultOf 0 = .ok (.aload_n 0, 1) := by decide +kernel
theorem dX7_faultOf_1 : decode cX7_faultOf 1 = .ok (.iconst 0, 1) := by decide +kernel
theorem dX7_faultOf_2 : decode cX7_faultOf 2 = .ok (.putfield 93, 3) := by decide +kernel
theorem dX7_faultOf_5 : decode cX7_faultOf 5 = .ok (.aload_n 0, 1) := by decide +kernel
theorem dX7_faultOf_6 : decode cX7_faultOf 6 = .ok (.getfield 42, 3) := by decide +kernel
theorem dX7_faultOf_9 : decode cX7_faultOf 9 = .ok (.iconst 0, 1) := by decide +kernel
theorem dX7_faultOf_10 : decode cX7_faultOf 10 = .ok (.iconst 0, 1) := by decide +kernel
theorem dX7_faultOf_11 : decode cX7_faultOf 11 = .ok (.iastore, 1) := by decide +kernel
theorem dX7_faultOf_12 : decode cX7_faultOf 12 = .ok (.aload_n 0, 1) := by decide +kernel
theorem dX7_faultOf_13 : decode cX7_faultOf 13 = .ok (.getfield 42, 3) := by decide +kernel
theorem dX7_faultOf_16 : decode cX7_faultOf 16 = .ok (.iconst 1, 1) := by decide +kernel
theorem dX7_faultOf_17 : decode cX7_faultOf 17 = .ok (.iconst 0, 1) := by decide +kernel
theorem dX7_faultOf_18 : decode cX7_faultOf 18 = .ok (.iastore, 1) := by decide +kernel
theorem dX7_faultOf_19 : decode cX7_faultOf 19 = .ok (.aload_n 0, 1) := by decide +kernel
theorem dX7_faultOf_20 : decode cX7_faultOf 20 = .ok (.iload_n 1, 1) := by decide +kernel
theorem dX7_faultOf_21 : decode cX7_faultOf 21 = .ok (.invokevirtual 114, 3) := by decide +kernel
theorem dX7_faultOf_24 : decode cX7_faultOf 24 = .ok (.istore_n 2, 1) := by decide +kernel
theorem dX7_faultOf_25 : decode cX7_faultOf 25 = .ok (.iload_n 2, 1) := by decide +kernel
theorem dX7_faultOf_26 : decode cX7_faultOf 26 = .ok (.ifCond .eq 8, 3) := by decide +kernel
theorem dX7_faultOf_29 : decode cX7_faultOf 29 = .ok (.aload_n 0, 1) := by decide +kernel
theorem dX7_faultOf_30 : decode cX7_faultOf 30 = .ok (.iload_n 1, 1) := by decide +kernel
theorem dX7_faultOf_31 : decode cX7_faultOf 31 = .ok (.invokevirtual 103, 3) := by decide +kernel
theorem dX7_faultOf_34 : decode cX7_faultOf 34 = .ok (.iload_n 2, 1) := by decide +kernel
theorem dX7_faultOf_35 : decode cX7_faultOf 35 = .ok (.ifCond .eq 52, 3) := by decide +kernel
theorem dX7_faultOf_38 : decode cX7_faultOf 38 = .ok (.aload_n 0, 1) := by decide +kernel
theorem dX7_faultOf_39 : decode cX7_faultOf 39 = .ok (.getfield 93, 3) := by decide +kernel
theorem dX7_faultOf_42 : decode cX7_faultOf 42 = .ok (.aload_n 0, 1) := by decide +kernel
theorem dX7_faultOf_43 : decode cX7_faultOf 43 = .ok (.getfield 29, 3) := by decide +kernel
theorem dX7_faultOf_46 : decode cX7_faultOf 46 = .ok (.iload_n 1, 1) := by decide +kernel
theorem dX7_faultOf_47 : decode cX7_faultOf 47 = .ok (.iaload, 1) := by decide +kernel
theorem dX7_faultOf_48 : decode cX7_faultOf 48 = .ok (.if_icmp .ge 39, 3) := by decide +kernel
theorem dX7_faultOf_51 : decode cX7_faultOf 51 = .ok (.aload_n 0, 1) := by decide +kernel
theorem dX7_faultOf_52 : decode cX7_faultOf 52 = .ok (.iload_n 1, 1) := by decide +kernel
theorem dX7_faultOf_53 : decode cX7_faultOf 53 = .ok (.invokevirtual 96, 3) := by decide +kernel
theorem dX7_faultOf_56 : decode cX7_faultOf 56 = .ok (.bipush 97, 2) := by decide +kernel
theorem dX7_faultOf_58 : decode cX7_faultOf 58 = .ok (.if_icmp .ne 11, 3) := by decide +kernel
theorem dX7_faultOf_61 : decode cX7_faultOf 61 = .ok (.aload_n 0, 1) := by decide +kernel
theorem dX7_faultOf_62 : decode cX7_faultOf 62 = .ok (.iload_n 1, 1) := by decide +kernel
theorem dX7_faultOf_63 : decode cX7_faultOf 63 = .ok (.invokevirtual 117, 3) := by decide +kernel
theorem dX7_faultOf_66 : decode cX7_faultOf 66 = .ok (.goto 8, 3) := by decide +kernel
theorem dX7_faultOf_69 : decode cX7_faultOf 69 = .ok (.aload_n 0, 1) := by decide +kernel
theorem dX7_faultOf_70 : decode cX7_faultOf 70 = .ok (.iload_n 1, 1) := by decide +kernel
theorem dX7_faultOf_71 : decode cX7_faultOf 71 = .ok (.invokevirtual 120, 3) := by decide +kernel
theorem dX7_faultOf_74 : decode cX7_faultOf 74 = .ok (.istore_n 2, 1) := by decide +kernel
theorem dX7_faultOf_75 : decode cX7_faultOf 75 = .ok (.iload_n 2, 1) := by decide +kernel
theorem dX7_faultOf_76 : decode cX7_faultOf 76 = .ok (.ifCond .eq (-42), 3) := by decide +kernel
theorem dX7_faultOf_79 : decode cX7_faultOf 79 = .ok (.aload_n 0, 1) := by decide +kernel
theorem dX7_faultOf_80 : decode cX7_faultOf 80 = .ok (.iload_n 1, 1) := by decide +kernel
theorem dX7_faultOf_81 : decode cX7_faultOf 81 = .ok (.invokevirtual 103, 3) := by decide +kernel
theorem dX7_faultOf_84 : decode cX7_faultOf 84 = .ok (.goto (-50), 3) := by decide +kernel
theorem dX7_faultOf_87 : decode cX7_faultOf 87 = .ok (.iload_n 2, 1) := by decide +kernel
theorem dX7_faultOf_88 : decode cX7_faultOf 88 = .ok (.ifCond .eq 17, 3) := by decide +kernel
theorem dX7_faultOf_91 : decode cX7_faultOf 91 = .ok (.aload_n 0, 1) := by decide +kernel
theorem dX7_faultOf_92 : decode cX7_faultOf 92 = .ok (.getfield 42, 3) := by decide +kernel
theorem dX7_faultOf_95 : decode cX7_faultOf 95 = .ok (.iconst 1, 1) := by decide +kernel
theorem dX7_faultOf_96 : decode cX7_faultOf 96 = .ok (.iaload, 1) := by decide +kernel
theorem dX7_faultOf_97 : decode cX7_faultOf 97 = .ok (.ifCond .le 8, 3) := by decide +kernel
theorem dX7_faultOf_100 : decode cX7_faultOf 100 = .ok (.bipush (-9), 2) := by decide +kernel
theorem dX7_faultOf_102 : decode cX7_faultOf 102 = .ok (.goto 7, 3) := by decide +kernel
theorem dX7_faultOf_105 : decode cX7_faultOf 105 = .ok (.aload_n 0, 1) := by decide +kernel
theorem dX7_faultOf_106 : decode cX7_faultOf 106 = .ok (.getfield 93, 3) := by decide +kernel
theorem dX7_faultOf_109 : decode cX7_faultOf 109 = .ok (.ireturn, 1) := by decide +kernel
theorem dX7_fault_0 : decode cX7_fault 0 = .ok (.iload_n 1, 1) := by decide +kernel
theorem dX7_fault_1 : decode cX7_fault 1 = .ok (.invokestatic 90, 3) := by decide +kernel
theorem dX7_fault_4 : decode cX7_fault 4 = .ok (.ifCond .ne 5, 3) := by decide +kernel
theorem dX7_fault_7 : decode cX7_fault 7 = .ok (.iconst (-1), 1) := by decide +kernel
theorem dX7_fault_8 : decode cX7_fault 8 = .ok (.ireturn, 1) := by decide +kernel
theorem dX7_fault_9 : decode cX7_fault 9 = .ok (.aload_n 0, 1) := by decide +kernel
theorem dX7_fault_10 : decode cX7_fault 10 = .ok (.getfield 29, 3) := by decide +kernel
theorem dX7_fault_13 : decode cX7_fault 13 = .ok (.iload_n 1, 1) := by decide +kernel
theorem dX7_fault_14 : decode cX7_fault 14 = .ok (.iaload, 1) := by decide +kernel
theorem dX7_fault_15 : decode cX7_fault 15 = .ok (.ifCond .ge 11, 3) := by decide +kernel
theorem dX7_fault_18 : decode cX7_fault 18 = .ok (.aload_n 0, 1) := by decide +kernel
theorem dX7_fault_19 : decode cX7_fault 19 = .ok (.iconst 1, 1) := by decide +kernel
theorem dX7_fault_20 : decode cX7_fault 20 = .ok (.invokevirtual 79, 3) := by decide +kernel
theorem dX7_fault_23 : decode cX7_fault 23 = .ok (.goto 8, 3) := by decide +kernel
theorem dX7_fault_26 : decode cX7_fault 26 = .ok (.aload_n 0, 1) := by decide +kernel
theorem dX7_fault_27 : decode cX7_fault 27 = .ok (.iload_n 1, 1) := by decide +kernel
theorem dX7_fault_28 : decode cX7_fault 28 = .ok (.invokevirtual 123, 3) := by decide +kernel
theorem dX7_fault_31 : decode cX7_fault 31 = .ok (.ireturn, 1) := by decide +kernel
theorem dX7_court_0 : decode cX7_court 0 = .ok (.iload_n 1, 1) := by decide +kernel
theorem dX7_court_1 : decode cX7_court 1 = .ok (.invokestatic 90, 3) := by decide +kernel
theorem dX7_court_4 : decode cX7_court 4 = .ok (.ifCond .ne 5, 3) := by decide +kernel
theorem dX7_court_7 : decode cX7_court 7 = .ok (.iconst (-1), 1) := by decide +kernel
theorem dX7_court_8 : decode cX7_court 8 = .ok (.ireturn, 1) := by decide +kernel
theorem dX7_court_9 : decode cX7_court 9 = .ok (.aload_n 0, 1) := by decide +kernel
theorem dX7_court_10 : decode cX7_court 10 = .ok (.getfield 29, 3) := by decide +kernel
theorem dX7_court_13 : decode cX7_court 13 = .ok (.iload_n 1, 1) := by decide +kernel
theorem dX7_court_14 : decode cX7_court 14 = .ok (.iaload, 1) := by decide +kernel
theorem dX7_court_15 : decode cX7_court 15 = .ok (.ifCond .ge 9, 3) := by decide +kernel
theorem dX7_court_18 : decode cX7_court 18 = .ok (.aload_n 0, 1) := by decide +kernel
theorem dX7_court_19 : decode cX7_court 19 = .ok (.iconst 1, 1) := by decide +kernel
theorem dX7_court_20 : decode cX7_court 20 = .ok (.invokevirtual 79, 3) := by decide +kernel
theorem dX7_court_23 : decode cX7_court 23 = .ok (.ireturn, 1) := by decide +kernel
theorem dX7_court_24 : decode cX7_court 24 = .ok (.aload_n 0, 1) := by decide +kernel
theorem dX7_court_25 : decode cX7_court 25 = .ok (.iload_n 1, 1) := by decide +kernel
theorem dX7_court_26 : decode cX7_court 26 = .ok (.invokevirtual 123, 3) := by decide +kernel
theorem dX7_court_29 : decode cX7_court 29 = .ok (.bipush (-9), 2) := by decide +kernel
theorem dX7_court_31 : decode cX7_court 31 = .ok (.if_icmp .eq 6, 3) := by decide +kernel
theorem dX7_court_34 : decode cX7_court 34 = .ok (.bipush (-4), 2) := by decide +kernel
theorem dX7_court_36 : decode cX7_court 36 = .ok (.ireturn, 1) := by decide +kernel
theorem dX7_court_37 : decode cX7_court 37 = .ok (.iconst 0, 1) := by decide +kernel
theorem dX7_court_38 : decode cX7_court 38 = .ok (.istore_n 2, 1) := by decide +kernel
theorem dX7_court_39 : decode cX7_court 39 = .ok (.iload_n 2, 1) := by decide +kernel
theorem dX7_court_40 : decode cX7_court 40 = .ok (.bipush 35, 2) := by decide +kernel
theorem dX7_court_42 : decode cX7_court 42 = .ok (.if_icmp .ge 21, 3) := by decide +kernel
theorem dX7_court_45 : decode cX7_court 45 = .ok (.aload_n 0, 1) := by decide +kernel
theorem dX7_court_46 : decode cX7_court 46 = .ok (.getfield 7, 3) := by decide +kernel
theorem dX7_court_49 : decode cX7_court 49 = .ok (.iload_n 2, 1) := by decide +kernel
theorem dX7_court_50 : decode cX7_court 50 = .ok (.aload_n 0, 1) := by decide +kernel
theorem dX7_court_51 : decode cX7_court 51 = .ok (.getfield 42, 3) := by decide +kernel
theorem dX7_court_54 : decode cX7_court 54 = .ok (.iload_n 2, 1) := by decide +kernel
theorem dX7_court_55 : decode cX7_court 55 = .ok (.iaload, 1) := by decide +kernel
theorem dX7_court_56 : decode cX7_court 56 = .ok (.iastore, 1) := by decide +kernel
theorem dX7_court_57 : decode cX7_court 57 = .ok (.iinc 2 1, 3) := by decide +kernel
theorem dX7_court_60 : decode cX7_court 60 = .ok (.goto (-21), 3) := by decide +kernel
theorem dX7_court_63 : decode cX7_court 63 = .ok (.iconst 0, 1) := by decide +kernel
theorem dX7_court_64 : decode cX7_court 64 = .ok (.istore_n 2, 1) := by decide +kernel
theorem dX7_court_65 : decode cX7_court 65 = .ok (.iload_n 2, 1) := by decide +kernel
theorem dX7_court_66 : decode cX7_court 66 = .ok (.aload_n 0, 1) := by decide +kernel
theorem dX7_court_67 : decode cX7_court 67 = .ok (.getfield 7, 3) := by decide +kernel
theorem dX7_court_70 : decode cX7_court 70 = .ok (.iconst 0, 1) := by decide +kernel
theorem dX7_court_71 : decode cX7_court 71 = .ok (.iaload, 1) := by decide +kernel
theorem dX7_court_72 : decode cX7_court 72 = .ok (.if_icmp .ge 73, 3) := by decide +kernel
theorem dX7_court_75 : decode cX7_court 75 = .ok (.aload_n 0, 1) := by decide +kernel
theorem dX7_court_76 : decode cX7_court 76 = .ok (.getfield 7, 3) := by decide +kernel
theorem dX7_court_79 : decode cX7_court 79 = .ok (.bipush 14, 2) := by decide +kernel
theorem dX7_court_81 : decode cX7_court 81 = .ok (.iload_n 2, 1) := by decide +kernel
theorem dX7_court_82 : decode cX7_court 82 = .ok (.iadd, 1) := by decide +kernel
theorem dX7_court_83 : decode cX7_court 83 = .ok (.iaload, 1) := by decide +kernel
theorem dX7_court_84 : decode cX7_court 84 = .ok (.aload_n 0, 1) := by decide +kernel
theorem dX7_court_85 : decode cX7_court 85 = .ok (.getfield 7, 3) := by decide +kernel
theorem dX7_court_88 : decode cX7_court 88 = .ok (.iconst 0, 1) := by decide +kernel
theorem dX7_court_89 : decode cX7_court 89 = .ok (.iaload, 1) := by decide +kernel
theorem dX7_court_90 : decode cX7_court 90 = .ok (.if_icmp .ge 20, 3) := by decide +kernel
theorem dX7_court_93 : decode cX7_court 93 = .ok (.aload_n 0, 1) := by decide +kernel
theorem dX7_court_94 : decode cX7_court 94 = .ok (.getfield 7, 3) := by decide +kernel
theorem dX7_court_97 : decode cX7_court 97 = .ok (.bipush 14, 2) := by decide +kernel
theorem dX7_court_99 : decode cX7_court 99 = .ok (.iload_n 2, 1) := by decide +kernel
theorem dX7_court_100 : decode cX7_court 100 = .ok (.iadd, 1) := by decide +kernel
theorem dX7_court_101 : decode cX7_court 101 = .ok (.iaload, 1) := by decide +kernel
theorem dX7_court_102 : decode cX7_court 102 = .ok (.iload_n 2, 1) := by decide +kernel
theorem dX7_court_103 : decode cX7_court 103 = .ok (.if_icmp .eq 7, 3) := by decide +kernel
theorem dX7_court_106 : decode cX7_court 106 = .ok (.iconst 1, 1) := by decide +kernel
theorem dX7_court_107 : decode cX7_court 107 = .ok (.goto 4, 3) := by decide +kernel
theorem dX7_court_110 : decode cX7_court 110 = .ok (.iconst 0, 1) := by decide +kernel
theorem dX7_court_111 : decode cX7_court 111 = .ok (.istore_n 3, 1) := by decide +kernel
theorem dX7_court_112 : decode cX7_court 112 = .ok (.aload_n 0, 1) := by decide +kernel
theorem dX7_court_113 : decode cX7_court 113 = .ok (.getfield 7, 3) := by decide +kernel
theorem dX7_court_116 : decode cX7_court 116 = .ok (.bipush 14, 2) := by decide +kernel
theorem dX7_court_118 : decode cX7_court 118 = .ok (.iload_n 2, 1) := by decide +kernel
theorem dX7_court_119 : decode cX7_court 119 = .ok (.iadd, 1) := by decide +kernel
theorem dX7_court_120 : decode cX7_court 120 = .ok (.iload_n 3, 1) := by decide +kernel
theorem dX7_court_121 : decode cX7_court 121 = .ok (.ifCond .eq 15, 3) := by decide +kernel
theorem dX7_court_124 : decode cX7_court 124 = .ok (.aload_n 0, 1) := by decide +kernel
theorem dX7_court_125 : decode cX7_court 125 = .ok (.getfield 7, 3) := by decide +kernel
theorem dX7_court_128 : decode cX7_court 128 = .ok (.bipush 14, 2) := by decide +kernel
theorem dX7_court_130 : decode cX7_court 130 = .ok (.iload_n 2, 1) := by decide +kernel
theorem dX7_court_131 : decode cX7_court 131 = .ok (.iadd, 1) := by decide +kernel
theorem dX7_court_132 : decode cX7_court 132 = .ok (.iaload, 1) := by decide +kernel
theorem dX7_court_133 : decode cX7_court 133 = .ok (.goto 5, 3) := by decide +kernel
theorem dX7_court_136 : decode cX7_court 136 = .ok (.bipush (-9), 2) := by decide +kernel
theorem dX7_court_138 : decode cX7_court 138 = .ok (.iastore, 1) := by decide +kernel
theorem dX7_court_139 : decode cX7_court 139 = .ok (.iinc 2 1, 3) := by decide +kernel
theorem dX7_court_142 : decode cX7_court 142 = .ok (.goto (-77), 3) := by decide +kernel
theorem dX7_court_145 : decode cX7_court 145 = .ok (.aload_n 0, 1) := by decide +kernel
theorem dX7_court_146 : decode cX7_court 146 = .ok (.getfield 7, 3) := by decide +kernel
theorem dX7_court_149 : decode cX7_court 149 = .ok (.bipush 35, 2) := by decide +kernel
theorem dX7_court_151 : decode cX7_court 151 = .ok (.iconst 0, 1) := by decide +kernel
theorem dX7_court_152 : decode cX7_court 152 = .ok (.iastore, 1) := by decide +kernel
theorem dX7_court_153 : decode cX7_court 153 = .ok (.aload_n 0, 1) := by decide +kernel
theorem dX7_court_154 : decode cX7_court 154 = .ok (.getfield 7, 3) := by decide +kernel
theorem dX7_court_157 : decode cX7_court 157 = .ok (.invokestatic 126, 3) := by decide +kernel
theorem dX7_court_160 : decode cX7_court 160 = .ok (.iconst 0, 1) := by decide +kernel
theorem dX7_court_161 : decode cX7_court 161 = .ok (.istore_n 2, 1) := by decide +kernel
theorem dX7_court_162 : decode cX7_court 162 = .ok (.iload_n 2, 1) := by decide +kernel
theorem dX7_court_163 : decode cX7_court 163 = .ok (.iconst 3, 1) := by decide +kernel
theorem dX7_court_164 : decode cX7_court 164 = .ok (.if_icmp .ge 16, 3) := by decide +kernel
theorem dX7_court_167 : decode cX7_court 167 = .ok (.aload_n 0, 1) := by decide +kernel
theorem dX7_court_168 : decode cX7_court 168 = .ok (.getfield 16, 3) := by decide +kernel
theorem dX7_court_171 : decode cX7_court 171 = .ok (.iload_n 2, 1) := by decide +kernel
theorem dX7_court_172 : decode cX7_court 172 = .ok (.iconst 0, 1) := by decide +kernel
theorem dX7_court_173 : decode cX7_court 173 = .ok (.bastore, 1) := by decide +kernel
theorem dX7_court_174 : decode cX7_court 174 = .ok (.iinc 2 1, 3) := by decide +kernel
theorem dX7_court_177 : decode cX7_court 177 = .ok (.goto (-15), 3) := by decide +kernel
theorem dX7_court_180 : decode cX7_court 180 = .ok (.aload_n 0, 1) := by decide +kernel
theorem dX7_court_181 : decode cX7_court 181 = .ok (.getfield 7, 3) := by decide +kernel
theorem dX7_court_184 : decode cX7_court 184 = .ok (.iconst 0, 1) := by decide +kernel
theorem dX7_court_185 : decode cX7_court 185 = .ok (.iaload, 1) := by decide +kernel
theorem dX7_court_186 : decode cX7_court 186 = .ok (.ireturn, 1) := by decide +kernel
theorem dX7_begin_0 : decode cX7_begin 0 = .ok (.iconst 0, 1) := by decide +kernel
theorem dX7_begin_1 : decode cX7_begin 1 = .ok (.istore_n 1, 1) := by decide +kernel
theorem dX7_begin_2 : decode cX7_begin 2 = .ok (.iload_n 1, 1) := by decide +kernel
theorem dX7_begin_3 : decode cX7_begin 3 = .ok (.bipush 6, 2) := by decide +kernel
theorem dX7_begin_5 : decode cX7_begin 5 = .ok (.if_icmp .ge 21, 3) := by decide +kernel
theorem dX7_begin_8 : decode cX7_begin 8 = .ok (.aload_n 0, 1) := by decide +kernel
theorem dX7_begin_9 : decode cX7_begin 9 = .ok (.bipush 76, 2) := by decide +kernel
theorem dX7_begin_11 : decode cX7_begin 11 = .ok (.iload_n 1, 1) := by decide +kernel
theorem dX7_begin_12 : decode cX7_begin 12 = .ok (.iadd, 1) := by decide +kernel
theorem dX7_begin_13 : decode cX7_begin 13 = .ok (.aload_n 0, 1) := by decide +kernel
theorem dX7_begin_14 : decode cX7_begin 14 = .ok (.bipush 20, 2) := by decide +kernel
theorem dX7_begin_16 : decode cX7_begin 16 = .ok (.iload_n 1, 1) := by decide +kernel
theorem dX7_begin_17 : decode cX7_begin 17 = .ok (.iadd, 1) := by decide +kernel
theorem dX7_begin_18 : decode cX7_begin 18 = .ok (.iaload, 1) := by decide +kernel
theorem dX7_begin_19 : decode cX7_begin 19 = .ok (.iastore, 1) := by decide +kernel
theorem dX7_begin_20 : decode cX7_begin 20 = .ok (.iinc 1 1, 3) := by decide +kernel
theorem dX7_begin_23 : decode cX7_begin 23 = .ok (.goto (-21), 3) := by decide +kernel
theorem dX7_begin_26 : decode cX7_begin 26 = .ok (.aload_n 0, 1) := by decide +kernel
theorem dX7_begin_27 : decode cX7_begin 27 = .ok (.bipush 82, 2) := by decide +kernel
theorem dX7_begin_29 : decode cX7_begin 29 = .ok (.iconst 0, 1) := by decide +kernel
theorem dX7_begin_30 : decode cX7_begin 30 = .ok (.iastore, 1) := by decide +kernel
theorem dX7_begin_31 : decode cX7_begin 31 = .ok (.aload_n 0, 1) := by decide +kernel
theorem dX7_begin_32 : decode cX7_begin 32 = .ok (.bipush 83, 2) := by decide +kernel
theorem dX7_begin_34 : decode cX7_begin 34 = .ok (.iconst 0, 1) := by decide +kernel
theorem dX7_begin_35 : decode cX7_begin 35 = .ok (.iastore, 1) := by decide +kernel
theorem dX7_begin_36 : decode cX7_begin 36 = .ok (.aload_n 0, 1) := by decide +kernel
theorem dX7_begin_37 : decode cX7_begin 37 = .ok (.bipush 84, 2) := by decide +kernel
theorem dX7_begin_39 : decode cX7_begin 39 = .ok (.aload_n 0, 1) := by decide +kernel
theorem dX7_begin_40 : decode cX7_begin 40 = .ok (.bipush 26, 2) := by decide +kernel
theorem dX7_begin_42 : decode cX7_begin 42 = .ok (.iaload, 1) := by decide +kernel
theorem dX7_begin_43 : decode cX7_begin 43 = .ok (.iastore, 1) := by decide +kernel
theorem dX7_begin_44 : decode cX7_begin 44 = .ok (.return_, 1) := by decide +kernel
theorem dX7_has_0 : decode cX7_has 0 = .ok (.iload_n 0, 1) := by decide +kernel
theorem dX7_has_1 : decode cX7_has 1 = .ok (.iload_n 1, 1) := by decide +kernel
theorem dX7_has_2 : decode cX7_has 2 = .ok (.ishr, 1) := by decide +kernel
theorem dX7_has_3 : decode cX7_has 3 = .ok (.iconst 1, 1) := by decide +kernel
theorem dX7_has_4 : decode cX7_has 4 = .ok (.iand, 1) := by decide +kernel
theorem dX7_has_5 : decode cX7_has 5 = .ok (.iconst 1, 1) := by decide +kernel
theorem dX7_has_6 : decode cX7_has 6 = .ok (.if_icmp .ne 7, 3) := by decide +kernel
theorem dX7_has_9 : decode cX7_has 9 = .ok (.iconst 1, 1) := by decide +kernel
theorem dX7_has_10 : decode cX7_has 10 = .ok (.goto 4, 3) := by decide +kernel
theorem dX7_has_13 : decode cX7_has 13 = .ok (.iconst 0, 1) := by decide +kernel
theorem dX7_has_14 : decode cX7_has 14 = .ok (.ireturn, 1) := by decide +kernel
theorem dX7_bits_0 : decode cX7_bits 0 = .ok (.iconst 0, 1) := by decide +kernel
theorem dX7_bits_1 : decode cX7_bits 1 = .ok (.istore_n 1, 1) := by decide +kernel
theorem dX7_bits_2 : decode cX7_bits 2 = .ok (.iload_n 0, 1) := by decide +kernel
theorem dX7_bits_3 : decode cX7_bits 3 = .ok (.istore_n 2, 1) := by decide +kernel
theorem dX7_bits_4 : decode cX7_bits 4 = .ok (.iload_n 2, 1) := by decide +kernel
theorem dX7_bits_5 : decode cX7_bits 5 = .ok (.ifCond .le 16, 3) := by decide +kernel
theorem dX7_bits_8 : decode cX7_bits 8 = .ok (.iload_n 1, 1) := by decide +kernel
theorem dX7_bits_9 : decode cX7_bits 9 = .ok (.iload_n 2, 1) := by decide +kernel
theorem dX7_bits_10 : decode cX7_bits 10 = .ok (.iconst 1, 1) := by decide +kernel
theorem dX7_bits_11 : decode cX7_bits 11 = .ok (.iand, 1) := by decide +kernel
theorem dX7_bits_12 : decode cX7_bits 12 = .ok (.iadd, 1) := by decide +kernel
theorem dX7_bits_13 : decode cX7_bits 13 = .ok (.istore_n 1, 1) := by decide +kernel
theorem dX7_bits_14 : decode cX7_bits 14 = .ok (.iload_n 2, 1) := by decide +kernel
theorem dX7_bits_15 : decode cX7_bits 15 = .ok (.iconst 1, 1) := by decide +kernel
theorem dX7_bits_16 : decode cX7_bits 16 = .ok (.ishr, 1) := by decide +kernel
theorem dX7_bits_17 : decode cX7_bits 17 = .ok (.istore_n 2, 1) := by decide +kernel
theorem dX7_bits_18 : decode cX7_bits 18 = .ok (.goto (-14), 3) := by decide +kernel
theorem dX7_bits_21 : decode cX7_bits 21 = .ok (.iload_n 1, 1) := by decide +kernel
theorem dX7_bits_22 : decode cX7_bits 22 = .ok (.ireturn, 1) := by decide +kernel
theorem dX7_passesAs_0 : decode cX7_passesAs 0 = .ok (.iload_n 1, 1) := by decide +kernel
theorem dX7_passesAs_1 : decode cX7_passesAs 1 = .ok (.ifCond .le 9, 3) := by decide +kernel
theorem dX7_passesAs_4 : decode cX7_passesAs 4 = .ok (.iload_n 1, 1) := by decide +kernel
theorem dX7_passesAs_5 : decode cX7_passesAs 5 = .ok (.iconst 1, 1) := by decide +kernel
theorem dX7_passesAs_6 : decode cX7_passesAs 6 = .ok (.isub, 1) := by decide +kernel
theorem dX7_passesAs_7 : decode cX7_passesAs 7 = .ok (.goto 4, 3) := by decide +kernel
theorem dX7_passesAs_10 : decode cX7_passesAs 10 = .ok (.iconst 0, 1) := by decide +kernel
theorem dX7_passesAs_11 : decode cX7_passesAs 11 = .ok (.istore_n 2, 1) := by decide +kernel
theorem dX7_passesAs_12 : decode cX7_passesAs 12 = .ok (.iload_n 0, 1) := by decide +kernel
theorem dX7_passesAs_13 : decode cX7_passesAs 13 = .ok (.tableswitch 45 1 5 #[35, 37, 39, 35, 41], 35) := by decide +kernel
theorem dX7_passesAs_48 : decode cX7_passesAs 48 = .ok (.iconst 0, 1) := by decide +kernel
theorem dX7_passesAs_49 : decode cX7_passesAs 49 = .ok (.ireturn, 1) := by decide +kernel
theorem dX7_passesAs_50 : decode cX7_passesAs 50 = .ok (.iload_n 1, 1) := by decide +kernel
theorem dX7_passesAs_51 : decode cX7_passesAs 51 = .ok (.ireturn, 1) := by decide +kernel
theorem dX7_passesAs_52 : decode cX7_passesAs 52 = .ok (.iload_n 2, 1) := by decide +kernel
theorem dX7_passesAs_53 : decode cX7_passesAs 53 = .ok (.ireturn, 1) := by decide +kernel
theorem dX7_passesAs_54 : decode cX7_passesAs 54 = .ok (.iload_n 2, 1) := by decide +kernel
theorem dX7_passesAs_55 : decode cX7_passesAs 55 = .ok (.iconst 2, 1) := by decide +kernel
theorem dX7_passesAs_56 : decode cX7_passesAs 56 = .ok (.idiv, 1) := by decide +kernel
theorem dX7_passesAs_57 : decode cX7_passesAs 57 = .ok (.ireturn, 1) := by decide +kernel
theorem dX7_passesAs_58 : decode cX7_passesAs 58 = .ok (.iload_n 1, 1) := by decide +kernel
theorem dX7_passesAs_59 : decode cX7_passesAs 59 = .ok (.iconst 2, 1) := by decide +kernel
theorem dX7_passesAs_60 : decode cX7_passesAs 60 = .ok (.idiv, 1) := by decide +kernel
theorem dX7_passesAs_61 : decode cX7_passesAs 61 = .ok (.ireturn, 1) := by decide +kernel
theorem dX7_holdsOf_0 : decode cX7_holdsOf 0 = .ok (.aload_n 0, 1) := by decide +kernel
theorem dX7_holdsOf_1 : decode cX7_holdsOf 1 = .ok (.iconst 2, 1) := by decide +kernel
theorem dX7_holdsOf_2 : decode cX7_holdsOf 2 = .ok (.iload_n 1, 1) := by decide +kernel
theorem dX7_holdsOf_3 : decode cX7_holdsOf 3 = .ok (.iadd, 1) := by decide +kernel
theorem dX7_holdsOf_4 : decode cX7_holdsOf 4 = .ok (.iaload, 1) := by decide +kernel
theorem dX7_holdsOf_5 : decode cX7_holdsOf 5 = .ok (.iconst 2, 1) := by decide +kernel
theorem dX7_holdsOf_6 : decode cX7_holdsOf 6 = .ok (.if_icmp .ne 14, 3) := by decide +kernel
theorem dX7_holdsOf_9 : decode cX7_holdsOf 9 = .ok (.aload_n 0, 1) := by decide +kernel
theorem dX7_holdsOf_10 : decode cX7_holdsOf 10 = .ok (.bipush 8, 2) := by decide +kernel
theorem dX7_holdsOf_12 : decode cX7_holdsOf 12 = .ok (.iload_n 1, 1) := by decide +kernel
theorem dX7_holdsOf_13 : decode cX7_holdsOf 13 = .ok (.iadd, 1) := by decide +kernel
theorem dX7_holdsOf_14 : decode cX7_holdsOf 14 = .ok (.iaload, 1) := by decide +kernel
theorem dX7_holdsOf_15 : decode cX7_holdsOf 15 = .ok (.iconst 1, 1) := by decide +kernel
theorem dX7_holdsOf_16 : decode cX7_holdsOf 16 = .ok (.isub, 1) := by decide +kernel
theorem dX7_holdsOf_17 : decode cX7_holdsOf 17 = .ok (.goto 9, 3) := by decide +kernel
theorem dX7_holdsOf_20 : decode cX7_holdsOf 20 = .ok (.aload_n 0, 1) := by decide +kernel
theorem dX7_holdsOf_21 : decode cX7_holdsOf 21 = .ok (.bipush 8, 2) := by decide +kernel
theorem dX7_holdsOf_23 : decode cX7_holdsOf 23 = .ok (.iload_n 1, 1) := by decide +kernel
theorem dX7_holdsOf_24 : decode cX7_holdsOf 24 = .ok (.iadd, 1) := by decide +kernel
theorem dX7_holdsOf_25 : decode cX7_holdsOf 25 = .ok (.iaload, 1) := by decide +kernel
theorem dX7_holdsOf_26 : decode cX7_holdsOf 26 = .ok (.ireturn, 1) := by decide +kernel
theorem dX7_isFast_0 : decode cX7_isFast 0 = .ok (.aload_n 0, 1) := by decide +kernel
theorem dX7_isFast_1 : decode cX7_isFast 1 = .ok (.bipush 82, 2) := by decide +kernel
theorem dX7_isFast_3 : decode cX7_isFast 3 = .ok (.iaload, 1) := by decide +kernel
theorem dX7_isFast_4 : decode cX7_isFast 4 = .ok (.iload_n 1, 1) := by decide +kernel
theorem dX7_isFast_5 : decode cX7_isFast 5 = .ok (.invokestatic 130, 3) := by decide +kernel
theorem dX7_isFast_8 : decode cX7_isFast 8 = .ok (.ifCond .ne 18, 3) := by decide +kernel
theorem dX7_isFast_11 : decode cX7_isFast 11 = .ok (.aload_n 0, 1) := by decide +kernel
theorem dX7_isFast_12 : decode cX7_isFast 12 = .ok (.bipush 83, 2) := by decide +kernel
theorem dX7_isFast_14 : decode cX7_isFast 14 = .ok (.iaload, 1) := by decide +kernel
theorem dX7_isFast_15 : decode cX7_isFast 15 = .ok (.iload_n 1, 1) := by decide +kernel
theorem dX7_isFast_16 : decode cX7_isFast 16 = .ok (.invokestatic 130, 3) := by decide +kernel
theorem dX7_isFast_19 : decode cX7_isFast 19 = .ok (.ifCond .ne 7, 3) := by decide +kernel
theorem dX7_isFast_22 : decode cX7_isFast 22 = .ok (.iconst 1, 1) := by decide +kernel
theorem dX7_isFast_23 : decode cX7_isFast 23 = .ok (.goto 4, 3) := by decide +kernel
theorem dX7_isFast_26 : decode cX7_isFast 26 = .ok (.iconst 0, 1) := by decide +kernel
theorem dX7_isFast_27 : decode cX7_isFast 27 = .ok (.ireturn, 1) := by decide +kernel
theorem dX7_goHaul_0 : decode cX7_goHaul 0 = .ok (.iload_n 2, 1) := by decide +kernel
theorem dX7_goHaul_1 : decode cX7_goHaul 1 = .ok (.istore 4, 2) := by decide +kernel
theorem dX7_goHaul_3 : decode cX7_goHaul 3 = .ok (.iload_n 3, 1) := by decide +kernel
theorem dX7_goHaul_4 : decode cX7_goHaul 4 = .ok (.aload_n 1, 1) := by decide +kernel
theorem dX7_goHaul_5 : decode cX7_goHaul 5 = .ok (.bipush 84, 2) := by decide +kernel
theorem dX7_goHaul_7 : decode cX7_goHaul 7 = .ok (.iaload, 1) := by decide +kernel
theorem dX7_goHaul_8 : decode cX7_goHaul 8 = .ok (.iconst 1, 1) := by decide +kernel
theorem dX7_goHaul_9 : decode cX7_goHaul 9 = .ok (.if_icmp .ne 17, 3) := by decide +kernel
theorem dX7_goHaul_12 : decode cX7_goHaul 12 = .ok (.aload_n 1, 1) := by decide +kernel
theorem dX7_goHaul_13 : decode cX7_goHaul 13 = .ok (.iconst 2, 1) := by decide +kernel
theorem dX7_goHaul_14 : decode cX7_goHaul 14 = .ok (.iload 4, 2) := by decide +kernel
theorem dX7_goHaul_16 : decode cX7_goHaul 16 = .ok (.iadd, 1) := by decide +kernel
theorem dX7_goHaul_17 : decode cX7_goHaul 17 = .ok (.iaload, 1) := by decide +kernel
theorem dX7_goHaul_18 : decode cX7_goHaul 18 = .ok (.iconst 4, 1) := by decide +kernel
theorem dX7_goHaul_19 : decode cX7_goHaul 19 = .ok (.if_icmp .eq 7, 3) := by decide +kernel
theorem dX7_goHaul_22 : decode cX7_goHaul 22 = .ok (.iconst 1, 1) := by decide +kernel
theorem dX7_goHaul_23 : decode cX7_goHaul 23 = .ok (.goto 4, 3) := by decide +kernel
theorem dX7_goHaul_26 : decode cX7_goHaul 26 = .ok (.iconst 0, 1) := by decide +kernel
theorem dX7_goHaul_27 : decode cX7_goHaul 27 = .ok (.iadd, 1) := by decide +kernel
theorem dX7_goHaul_28 : decode cX7_goHaul 28 = .ok (.istore 5, 2) := by decide +kernel
theorem dX7_goHaul_30 : decode cX7_goHaul 30 = .ok (.iconst 0, 1) := by decide +kernel
theorem dX7_goHaul_31 : decode cX7_goHaul 31 = .ok (.istore 6, 2) := by decide +kernel
theorem dX7_goHaul_33 : decode cX7_goHaul 33 = .ok (.aload_n 0, 1) := by decide +kernel
theorem dX7_goHaul_34 : decode cX7_goHaul 34 = .ok (.bipush (-9), 2) := by decide +kernel
theorem dX7_goHaul_36 : decode cX7_goHaul 36 = .ok (.putfield 133, 3) := by decide +kernel
theorem dX7_goHaul_39 : decode cX7_goHaul 39 = .ok (.iload 4, 2) := by decide +kernel
theorem dX7_goHaul_41 : decode cX7_goHaul 41 = .ok (.bipush (-9), 2) := by decide +kernel
theorem dX7_goHaul_43 : decode cX7_goHaul 43 = .ok (.if_icmp .eq 134, 3) := by decide +kernel
theorem dX7_goHaul_46 : decode cX7_goHaul 46 = .ok (.iload 6, 2) := by decide +kernel
theorem dX7_goHaul_48 : decode cX7_goHaul 48 = .ok (.iconst 1, 1) := by decide +kernel
theorem dX7_goHaul_49 : decode cX7_goHaul 49 = .ok (.iload 4, 2) := by decide +kernel
theorem dX7_goHaul_51 : decode cX7_goHaul 51 = .ok (.ishl, 1) := by decide +kernel
theorem dX7_goHaul_52 : decode cX7_goHaul 52 = .ok (.ior, 1) := by decide +kernel
theorem dX7_goHaul_53 : decode cX7_goHaul 53 = .ok (.istore 6, 2) := by decide +kernel
theorem dX7_goHaul_55 : decode cX7_goHaul 55 = .ok (.aload_n 1, 1) := by decide +kernel
theorem dX7_goHaul_56 : decode cX7_goHaul 56 = .ok (.bipush 76, 2) := by decide +kernel
theorem dX7_goHaul_58 : decode cX7_goHaul 58 = .ok (.iload 4, 2) := by decide +kernel
theorem dX7_goHaul_60 : decode cX7_goHaul 60 = .ok (.iadd, 1) := by decide +kernel
theorem dX7_goHaul_61 : decode cX7_goHaul 61 = .ok (.dup2, 1) := by decide +kernel
theorem dX7_goHaul_62 : decode cX7_goHaul 62 = .ok (.iaload, 1) := by decide +kernel
theorem dX7_goHaul_63 : decode cX7_goHaul 63 = .ok (.iload 5, 2) := by decide +kernel
theorem dX7_goHaul_65 : decode cX7_goHaul 65 = .ok (.iadd, 1) := by decide +kernel
theorem dX7_goHaul_66 : decode cX7_goHaul 66 = .ok (.iastore, 1) := by decide +kernel
theorem dX7_goHaul_67 : decode cX7_goHaul 67 = .ok (.aload_n 1, 1) := by decide +kernel
theorem dX7_goHaul_68 : decode cX7_goHaul 68 = .ok (.bipush 14, 2) := by decide +kernel
theorem dX7_goHaul_70 : decode cX7_goHaul 70 = .ok (.iload 4, 2) := by decide +kernel
theorem dX7_goHaul_72 : decode cX7_goHaul 72 = .ok (.iadd, 1) := by decide +kernel
theorem dX7_goHaul_73 : decode cX7_goHaul 73 = .ok (.iaload, 1) := by decide +kernel
theorem dX7_goHaul_74 : decode cX7_goHaul 74 = .ok (.istore 7, 2) := by decide +kernel
theorem dX7_goHaul_76 : decode cX7_goHaul 76 = .ok (.aload_n 1, 1) := by decide +kernel
theorem dX7_goHaul_77 : decode cX7_goHaul 77 = .ok (.bipush 76, 2) := by decide +kernel
theorem dX7_goHaul_79 : decode cX7_goHaul 79 = .ok (.iload 4, 2) := by decide +kernel
theorem dX7_goHaul_81 : decode cX7_goHaul 81 = .ok (.iadd, 1) := by decide +kernel
theorem dX7_goHaul_82 : decode cX7_goHaul 82 = .ok (.iaload, 1) := by decide +kernel
theorem dX7_goHaul_83 : decode cX7_goHaul 83 = .ok (.aload_n 1, 1) := by decide +kernel
theorem dX7_goHaul_84 : decode cX7_goHaul 84 = .ok (.iload 4, 2) := by decide +kernel
theorem dX7_goHaul_86 : decode cX7_goHaul 86 = .ok (.invokestatic 136, 3) := by decide +kernel
theorem dX7_goHaul_89 : decode cX7_goHaul 89 = .ok (.if_icmp .le 32, 3) := by decide +kernel
theorem dX7_goHaul_92 : decode cX7_goHaul 92 = .ok (.aload_n 1, 1) := by decide +kernel
theorem dX7_goHaul_93 : decode cX7_goHaul 93 = .ok (.bipush 76, 2) := by decide +kernel
theorem dX7_goHaul_95 : decode cX7_goHaul 95 = .ok (.iload 4, 2) := by decide +kernel
theorem dX7_goHaul_97 : decode cX7_goHaul 97 = .ok (.iadd, 1) := by decide +kernel
theorem dX7_goHaul_98 : decode cX7_goHaul 98 = .ok (.iconst 0, 1) := by decide +kernel
theorem dX7_goHaul_99 : decode cX7_goHaul 99 = .ok (.iastore, 1) := by decide +kernel
theorem dX7_goHaul_100 : decode cX7_goHaul 100 = .ok (.aload_n 1, 1) := by decide +kernel
theorem dX7_goHaul_101 : decode cX7_goHaul 101 = .ok (.bipush 83, 2) := by decide +kernel
theorem dX7_goHaul_103 : decode cX7_goHaul 103 = .ok (.dup2, 1) := by decide +kernel
theorem dX7_goHaul_104 : decode cX7_goHaul 104 = .ok (.iaload, 1) := by decide +kernel
theorem dX7_goHaul_105 : decode cX7_goHaul 105 = .ok (.iconst 1, 1) := by decide +kernel
theorem dX7_goHaul_106 : decode cX7_goHaul 106 = .ok (.iload 4, 2) := by decide +kernel
theorem dX7_goHaul_108 : decode cX7_goHaul 108 = .ok (.ishl, 1) := by decide +kernel
theorem dX7_goHaul_109 : decode cX7_goHaul 109 = .ok (.ior, 1) := by decide +kernel
theorem dX7_goHaul_110 : decode cX7_goHaul 110 = .ok (.iastore, 1) := by decide +kernel
theorem dX7_goHaul_111 : decode cX7_goHaul 111 = .ok (.aload_n 0, 1) := by decide +kernel
theorem dX7_goHaul_112 : decode cX7_goHaul 112 = .ok (.iload 4, 2) := by decide +kernel
theorem dX7_goHaul_114 : decode cX7_goHaul 114 = .ok (.putfield 133, 3) := by decide +kernel
theorem dX7_goHaul_117 : decode cX7_goHaul 117 = .ok (.bipush (-9), 2) := by decide +kernel
theorem dX7_goHaul_119 : decode cX7_goHaul 119 = .ok (.istore 7, 2) := by decide +kernel
theorem dX7_goHaul_121 : decode cX7_goHaul 121 = .ok (.aload_n 1, 1) := by decide +kernel
theorem dX7_goHaul_122 : decode cX7_goHaul 122 = .ok (.iconst 2, 1) := by decide +kernel
theorem dX7_goHaul_123 : decode cX7_goHaul 123 = .ok (.iload 4, 2) := by decide +kernel
theorem dX7_goHaul_125 : decode cX7_goHaul 125 = .ok (.iadd, 1) := by decide +kernel
theorem dX7_goHaul_126 : decode cX7_goHaul 126 = .ok (.iaload, 1) := by decide +kernel
theorem dX7_goHaul_127 : decode cX7_goHaul 127 = .ok (.iload 5, 2) := by decide +kernel
theorem dX7_goHaul_129 : decode cX7_goHaul 129 = .ok (.invokestatic 140, 3) := by decide +kernel
theorem dX7_goHaul_132 : decode cX7_goHaul 132 = .ok (.istore 5, 2) := by decide +kernel
theorem dX7_goHaul_134 : decode cX7_goHaul 134 = .ok (.iload 7, 2) := by decide +kernel
theorem dX7_goHaul_136 : decode cX7_goHaul 136 = .ok (.bipush (-9), 2) := by decide +kernel
theorem dX7_goHaul_138 : decode cX7_goHaul 138 = .ok (.if_icmp .eq 32, 3) := by decide +kernel
theorem dX7_goHaul_141 : decode cX7_goHaul 141 = .ok (.iload 5, 2) := by decide +kernel
theorem dX7_goHaul_143 : decode cX7_goHaul 143 = .ok (.ifCond .le 27, 3) := by decide +kernel
theorem dX7_goHaul_146 : decode cX7_goHaul 146 = .ok (.aload_n 1, 1) := by decide +kernel
theorem dX7_goHaul_147 : decode cX7_goHaul 147 = .ok (.iload 7, 2) := by decide +kernel
theorem dX7_goHaul_149 : decode cX7_goHaul 149 = .ok (.invokestatic 143, 3) := by decide +kernel
theorem dX7_goHaul_152 : decode cX7_goHaul 152 = .ok (.ifCond .eq 18, 3) := by decide +kernel
theorem dX7_goHaul_155 : decode cX7_goHaul 155 = .ok (.iload 6, 2) := by decide +kernel
theorem dX7_goHaul_157 : decode cX7_goHaul 157 = .ok (.iload 7, 2) := by decide +kernel
theorem dX7_goHaul_159 : decode cX7_goHaul 159 = .ok (.invokestatic 130, 3) := by decide +kernel
theorem dX7_goHaul_162 : decode cX7_goHaul 162 = .ok (.ifCond .ne 8, 3) := by decide +kernel
theorem dX7_goHaul_165 : decode cX7_goHaul 165 = .ok (.iload 7, 2) := by decide +kernel
theorem dX7_goHaul_167 : decode cX7_goHaul 167 = .ok (.goto 5, 3) := by decide +kernel
theorem dX7_goHaul_170 : decode cX7_goHaul 170 = .ok (.bipush (-9), 2) := by decide +kernel
theorem dX7_goHaul_172 : decode cX7_goHaul 172 = .ok (.istore 4, 2) := by decide +kernel
theorem dX7_goHaul_174 : decode cX7_goHaul 174 = .ok (.goto (-135), 3) := by decide +kernel
theorem dX7_goHaul_177 : decode cX7_goHaul 177 = .ok (.iload 6, 2) := by decide +kernel
theorem dX7_goHaul_179 : decode cX7_goHaul 179 = .ok (.ireturn, 1) := by decide +kernel
theorem dX7_goDeed_0 : decode cX7_goDeed 0 = .ok (.iload_n 2, 1) := by decide +kernel
theorem dX7_goDeed_1 : decode cX7_goDeed 1 = .ok (.bipush 10, 2) := by decide +kernel
theorem dX7_goDeed_3 : decode cX7_goDeed 3 = .ok (.irem, 1) := by decide +kernel
theorem dX7_goDeed_4 : decode cX7_goDeed 4 = .ok (.istore_n 3, 1) := by decide +kernel
theorem dX7_goDeed_5 : decode cX7_goDeed 5 = .ok (.iload_n 2, 1) := by decide +kernel
theorem dX7_goDeed_6 : decode cX7_goDeed 6 = .ok (.sipush 600, 3) := by decide +kernel
theorem dX7_goDeed_9 : decode cX7_goDeed 9 = .ok (.if_icmp .lt 11, 3) := by decide +kernel
theorem dX7_goDeed_12 : decode cX7_goDeed 12 = .ok (.aload_n 1, 1) := by decide +kernel
theorem dX7_goDeed_13 : decode cX7_goDeed 13 = .ok (.bipush 84, 2) := by decide +kernel
theorem dX7_goDeed_15 : decode cX7_goDeed 15 = .ok (.iload_n 3, 1) := by decide +kernel
theorem dX7_goDeed_16 : decode cX7_goDeed 16 = .ok (.iastore, 1) := by decide +kernel
theorem dX7_goDeed_17 : decode cX7_goDeed 17 = .ok (.goto 141, 3) := by decide +kernel
theorem dX7_goDeed_20 : decode cX7_goDeed 20 = .ok (.iload_n 2, 1) := by decide +kernel
theorem dX7_goDeed_21 : decode cX7_goDeed 21 = .ok (.sipush 500, 3) := by decide +kernel
theorem dX7_goDeed_24 : decode cX7_goDeed 24 = .ok (.if_icmp .lt 37, 3) := by decide +kernel
theorem dX7_goDeed_27 : decode cX7_goDeed 27 = .ok (.aload_n 1, 1) := by decide +kernel
theorem dX7_goDeed_28 : decode cX7_goDeed 28 = .ok (.bipush 83, 2) := by decide +kernel
theorem dX7_goDeed_30 : decode cX7_goDeed 30 = .ok (.dup2, 1) := by decide +kernel
theorem dX7_goDeed_31 : decode cX7_goDeed 31 = .ok (.iaload, 1) := by decide +kernel
theorem dX7_goDeed_32 : decode cX7_goDeed 32 = .ok (.iconst 1, 1) := by decide +kernel
theorem dX7_goDeed_33 : decode cX7_goDeed 33 = .ok (.iload_n 3, 1) := by decide +kernel
theorem dX7_goDeed_34 : decode cX7_goDeed 34 = .ok (.ishl, 1) := by decide +kernel
theorem dX7_goDeed_35 : decode cX7_goDeed 35 = .ok (.iconst (-1), 1) := by decide +kernel
theorem dX7_goDeed_36 : decode cX7_goDeed 36 = .ok (.ixor, 1) := by decide +kernel
theorem dX7_goDeed_37 : decode cX7_goDeed 37 = .ok (.iand, 1) := by decide +kernel
theorem dX7_goDeed_38 : decode cX7_goDeed 38 = .ok (.iastore, 1) := by decide +kernel
theorem dX7_goDeed_39 : decode cX7_goDeed 39 = .ok (.aload_n 1, 1) := by decide +kernel
theorem dX7_goDeed_40 : decode cX7_goDeed 40 = .ok (.bipush 82, 2) := by decide +kernel
theorem dX7_goDeed_42 : decode cX7_goDeed 42 = .ok (.dup2, 1) := by decide +kernel
theorem dX7_goDeed_43 : decode cX7_goDeed 43 = .ok (.iaload, 1) := by decide +kernel
theorem dX7_goDeed_44 : decode cX7_goDeed 44 = .ok (.iconst 1, 1) := by decide +kernel
theorem dX7_goDeed_45 : decode cX7_goDeed 45 = .ok (.iload_n 3, 1) := by decide +kernel
theorem dX7_goDeed_46 : decode cX7_goDeed 46 = .ok (.ishl, 1) := by decide +kernel
theorem dX7_goDeed_47 : decode cX7_goDeed 47 = .ok (.iconst (-1), 1) := by decide +kernel
theorem dX7_goDeed_48 : decode cX7_goDeed 48 = .ok (.ixor, 1) := by decide +kernel
theorem dX7_goDeed_49 : decode cX7_goDeed 49 = .ok (.iand, 1) := by decide +kernel
theorem dX7_goDeed_50 : decode cX7_goDeed 50 = .ok (.iastore, 1) := by decide +kernel
theorem dX7_goDeed_51 : decode cX7_goDeed 51 = .ok (.aload_n 1, 1) := by decide +kernel
theorem dX7_goDeed_52 : decode cX7_goDeed 52 = .ok (.bipush 76, 2) := by decide +kernel
theorem dX7_goDeed_54 : decode cX7_goDeed 54 = .ok (.iload_n 3, 1) := by decide +kernel
theorem dX7_goDeed_55 : decode cX7_goDeed 55 = .ok (.iadd, 1) := by decide +kernel
theorem dX7_goDeed_56 : decode cX7_goDeed 56 = .ok (.iconst 0, 1) := by decide +kernel
theorem dX7_goDeed_57 : decode cX7_goDeed 57 = .ok (.iastore, 1) := by decide +kernel
theorem dX7_goDeed_58 : decode cX7_goDeed 58 = .ok (.goto 100, 3) := by decide +kernel
theorem dX7_goDeed_61 : decode cX7_goDeed 61 = .ok (.iload_n 2, 1) := by decide +kernel
theorem dX7_goDeed_62 : decode cX7_goDeed 62 = .ok (.sipush 400, 3) := by decide +kernel
theorem dX7_goDeed_65 : decode cX7_goDeed 65 = .ok (.if_icmp .lt 23, 3) := by decide +kernel
theorem dX7_goDeed_68 : decode cX7_goDeed 68 = .ok (.aload_n 1, 1) := by decide +kernel
theorem dX7_goDeed_69 : decode cX7_goDeed 69 = .ok (.bipush 83, 2) := by decide +kernel
theorem dX7_goDeed_71 : decode cX7_goDeed 71 = .ok (.dup2, 1) := by decide +kernel
theorem dX7_goDeed_72 : decode cX7_goDeed 72 = .ok (.iaload, 1) := by decide +kernel
theorem dX7_goDeed_73 : decode cX7_goDeed 73 = .ok (.iconst 1, 1) := by decide +kernel
theorem dX7_goDeed_74 : decode cX7_goDeed 74 = .ok (.iload_n 3, 1) := by decide +kernel
theorem dX7_goDeed_75 : decode cX7_goDeed 75 = .ok (.ishl, 1) := by decide +kernel
theorem dX7_goDeed_76 : decode cX7_goDeed 76 = .ok (.ior, 1) := by decide +kernel
theorem dX7_goDeed_77 : decode cX7_goDeed 77 = .ok (.iastore, 1) := by decide +kernel
theorem dX7_goDeed_78 : decode cX7_goDeed 78 = .ok (.aload_n 1, 1) := by decide +kernel
theorem dX7_goDeed_79 : decode cX7_goDeed 79 = .ok (.bipush 76, 2) := by decide +kernel
theorem dX7_goDeed_81 : decode cX7_goDeed 81 = .ok (.iload_n 3, 1) := by decide +kernel
theorem dX7_goDeed_82 : decode cX7_goDeed 82 = .ok (.iadd, 1) := by decide +kernel
theorem dX7_goDeed_83 : decode cX7_goDeed 83 = .ok (.iconst 0, 1) := by decide +kernel
theorem dX7_goDeed_84 : decode cX7_goDeed 84 = .ok (.iastore, 1) := by decide +kernel
theorem dX7_goDeed_85 : decode cX7_goDeed 85 = .ok (.goto 73, 3) := by decide +kernel
theorem dX7_goDeed_88 : decode cX7_goDeed 88 = .ok (.iload_n 2, 1) := by decide +kernel
theorem dX7_goDeed_89 : decode cX7_goDeed 89 = .ok (.sipush 300, 3) := by decide +kernel
theorem dX7_goDeed_92 : decode cX7_goDeed 92 = .ok (.if_icmp .lt 18, 3) := by decide +kernel
theorem dX7_goDeed_95 : decode cX7_goDeed 95 = .ok (.aload_n 1, 1) := by decide +kernel
theorem dX7_goDeed_96 : decode cX7_goDeed 96 = .ok (.bipush 82, 2) := by decide +kernel
theorem dX7_goDeed_98 : decode cX7_goDeed 98 = .ok (.dup2, 1) := by decide +kernel
theorem dX7_goDeed_99 : decode cX7_goDeed 99 = .ok (.iaload, 1) := by decide +kernel
theorem dX7_goDeed_100 : decode cX7_goDeed 100 = .ok (.iconst 1, 1) := by decide +kernel
theorem dX7_goDeed_101 : decode cX7_goDeed 101 = .ok (.iload_n 3, 1) := by decide +kernel
theorem dX7_goDeed_102 : decode cX7_goDeed 102 = .ok (.ishl, 1) := by decide +kernel
theorem dX7_goDeed_103 : decode cX7_goDeed 103 = .ok (.iconst (-1), 1) := by decide +kernel
theorem dX7_goDeed_104 : decode cX7_goDeed 104 = .ok (.ixor, 1) := by decide +kernel
theorem dX7_goDeed_105 : decode cX7_goDeed 105 = .ok (.iand, 1) := by decide +kernel
theorem dX7_goDeed_106 : decode cX7_goDeed 106 = .ok (.iastore, 1) := by decide +kernel
theorem dX7_goDeed_107 : decode cX7_goDeed 107 = .ok (.goto 51, 3) := by decide +kernel
theorem dX7_goDeed_110 : decode cX7_goDeed 110 = .ok (.iload_n 2, 1) := by decide +kernel
theorem dX7_goDeed_111 : decode cX7_goDeed 111 = .ok (.sipush 200, 3) := by decide +kernel
theorem dX7_goDeed_114 : decode cX7_goDeed 114 = .ok (.if_icmp .lt 23, 3) := by decide +kernel
theorem dX7_goDeed_117 : decode cX7_goDeed 117 = .ok (.aload_n 1, 1) := by decide +kernel
theorem dX7_goDeed_118 : decode cX7_goDeed 118 = .ok (.bipush 82, 2) := by decide +kernel
theorem dX7_goDeed_120 : decode cX7_goDeed 120 = .ok (.dup2, 1) := by decide +kernel
theorem dX7_goDeed_121 : decode cX7_goDeed 121 = .ok (.iaload, 1) := by decide +kernel
theorem dX7_goDeed_122 : decode cX7_goDeed 122 = .ok (.iconst 1, 1) := by decide +kernel
theorem dX7_goDeed_123 : decode cX7_goDeed 123 = .ok (.iload_n 3, 1) := by decide +kernel
theorem dX7_goDeed_124 : decode cX7_goDeed 124 = .ok (.ishl, 1) := by decide +kernel
theorem dX7_goDeed_125 : decode cX7_goDeed 125 = .ok (.ior, 1) := by decide +kernel
theorem dX7_goDeed_126 : decode cX7_goDeed 126 = .ok (.iastore, 1) := by decide +kernel
theorem dX7_goDeed_127 : decode cX7_goDeed 127 = .ok (.aload_n 1, 1) := by decide +kernel
theorem dX7_goDeed_128 : decode cX7_goDeed 128 = .ok (.bipush 76, 2) := by decide +kernel
theorem dX7_goDeed_130 : decode cX7_goDeed 130 = .ok (.iload_n 3, 1) := by decide +kernel
theorem dX7_goDeed_131 : decode cX7_goDeed 131 = .ok (.iadd, 1) := by decide +kernel
theorem dX7_goDeed_132 : decode cX7_goDeed 132 = .ok (.iconst 0, 1) := by decide +kernel
theorem dX7_goDeed_133 : decode cX7_goDeed 133 = .ok (.iastore, 1) := by decide +kernel
theorem dX7_goDeed_134 : decode cX7_goDeed 134 = .ok (.goto 24, 3) := by decide +kernel
theorem dX7_goDeed_137 : decode cX7_goDeed 137 = .ok (.iload_n 2, 1) := by decide +kernel
theorem dX7_goDeed_138 : decode cX7_goDeed 138 = .ok (.bipush 100, 2) := by decide +kernel
theorem dX7_goDeed_140 : decode cX7_goDeed 140 = .ok (.if_icmp .lt 18, 3) := by decide +kernel
theorem dX7_goDeed_143 : decode cX7_goDeed 143 = .ok (.aload_n 0, 1) := by decide +kernel
theorem dX7_goDeed_144 : decode cX7_goDeed 144 = .ok (.aload_n 1, 1) := by decide +kernel
theorem dX7_goDeed_145 : decode cX7_goDeed 145 = .ok (.iload_n 3, 1) := by decide +kernel
theorem dX7_goDeed_146 : decode cX7_goDeed 146 = .ok (.iload_n 2, 1) := by decide +kernel
theorem dX7_goDeed_147 : decode cX7_goDeed 147 = .ok (.bipush 10, 2) := by decide +kernel
theorem dX7_goDeed_149 : decode cX7_goDeed 149 = .ok (.idiv, 1) := by decide +kernel
theorem dX7_goDeed_150 : decode cX7_goDeed 150 = .ok (.bipush 10, 2) := by decide +kernel
theorem dX7_goDeed_152 : decode cX7_goDeed 152 = .ok (.irem, 1) := by decide +kernel
theorem dX7_goDeed_153 : decode cX7_goDeed 153 = .ok (.invokevirtual 147, 3) := by decide +kernel
theorem dX7_goDeed_156 : decode cX7_goDeed 156 = .ok (.istore 4, 2) := by decide +kernel
theorem dX7_goDeed_158 : decode cX7_goDeed 158 = .ok (.return_, 1) := by decide +kernel
theorem dX7_does_0 : decode cX7_does 0 = .ok (.aload_n 0, 1) := by decide +kernel
theorem dX7_does_1 : decode cX7_does 1 = .ok (.getfield 7, 3) := by decide +kernel
theorem dX7_does_4 : decode cX7_does 4 = .ok (.bipush 36, 2) := by decide +kernel
theorem dX7_does_6 : decode cX7_does 6 = .ok (.aload_n 0, 1) := by decide +kernel
theorem dX7_does_7 : decode cX7_does 7 = .ok (.getfield 7, 3) := by decide +kernel
theorem dX7_does_10 : decode cX7_does 10 = .ok (.bipush 35, 2) := by decide +kernel
theorem dX7_does_12 : decode cX7_does 12 = .ok (.iaload, 1) := by decide +kernel
theorem dX7_does_13 : decode cX7_does 13 = .ok (.iadd, 1) := by decide +kernel
theorem dX7_does_14 : decode cX7_does 14 = .ok (.iload_n 1, 1) := by decide +kernel
theorem dX7_does_15 : decode cX7_does 15 = .ok (.iastore, 1) := by decide +kernel
theorem dX7_does_16 : decode cX7_does 16 = .ok (.aload_n 0, 1) := by decide +kernel
theorem dX7_does_17 : decode cX7_does 17 = .ok (.getfield 7, 3) := by decide +kernel
theorem dX7_does_20 : decode cX7_does 20 = .ok (.bipush 35, 2) := by decide +kernel
theorem dX7_does_22 : decode cX7_does 22 = .ok (.dup2, 1) := by decide +kernel
theorem dX7_does_23 : decode cX7_does 23 = .ok (.iaload, 1) := by decide +kernel
theorem dX7_does_24 : decode cX7_does 24 = .ok (.iconst 1, 1) := by decide +kernel
theorem dX7_does_25 : decode cX7_does 25 = .ok (.iadd, 1) := by decide +kernel
theorem dX7_does_26 : decode cX7_does 26 = .ok (.iastore, 1) := by decide +kernel
theorem dX7_does_27 : decode cX7_does 27 = .ok (.aload_n 0, 1) := by decide +kernel
theorem dX7_does_28 : decode cX7_does 28 = .ok (.aload_n 0, 1) := by decide +kernel
theorem dX7_does_29 : decode cX7_does 29 = .ok (.getfield 7, 3) := by decide +kernel
theorem dX7_does_32 : decode cX7_does 32 = .ok (.iload_n 1, 1) := by decide +kernel
theorem dX7_does_33 : decode cX7_does 33 = .ok (.invokevirtual 151, 3) := by decide +kernel
theorem dX7_does_36 : decode cX7_does 36 = .ok (.return_, 1) := by decide +kernel
theorem dX7_isRope_0 : decode cX7_isRope 0 = .ok (.iload_n 1, 1) := by decide +kernel
theorem dX7_isRope_1 : decode cX7_isRope 1 = .ok (.i2l, 1) := by decide +kernel
theorem dX7_isRope_2 : decode cX7_isRope 2 = .ok (.lconst 0, 1) := by decide +kernel
theorem dX7_isRope_3 : decode cX7_isRope 3 = .ok (.aload_n 0, 1) := by decide +kernel
theorem dX7_isRope_4 : decode cX7_isRope 4 = .ok (.getfield 7, 3) := by decide +kernel
theorem dX7_isRope_7 : decode cX7_isRope 7 = .ok (.iconst 0, 1) := by decide +kernel
theorem dX7_isRope_8 : decode cX7_isRope 8 = .ok (.iaload, 1) := by decide +kernel
theorem dX7_isRope_9 : decode cX7_isRope 9 = .ok (.iconst 1, 1) := by decide +kernel
theorem dX7_isRope_10 : decode cX7_isRope 10 = .ok (.isub, 1) := by decide +kernel
theorem dX7_isRope_11 : decode cX7_isRope 11 = .ok (.i2l, 1) := by decide +kernel
theorem dX7_isRope_12 : decode cX7_isRope 12 = .ok (.invokestatic 69, 3) := by decide +kernel
theorem dX7_isRope_15 : decode cX7_isRope 15 = .ok (.ireturn, 1) := by decide +kernel
theorem dX7_toldOf_0 : decode cX7_toldOf 0 = .ok (.iload_n 2, 1) := by decide +kernel
theorem dX7_toldOf_1 : decode cX7_toldOf 1 = .ok (.tableswitch 93 0 4 #[35, 44, 53, 63, 73], 35) := by decide +kernel
theorem dX7_toldOf_36 : decode cX7_toldOf 36 = .ok (.aload_n 0, 1) := by decide +kernel
theorem dX7_toldOf_37 : decode cX7_toldOf 37 = .ok (.getfield 7, 3) := by decide +kernel
theorem dX7_toldOf_40 : decode cX7_toldOf 40 = .ok (.iconst 2, 1) := by decide +kernel
theorem dX7_toldOf_41 : decode cX7_toldOf 41 = .ok (.iload_n 1, 1) := by decide +kernel
theorem dX7_toldOf_42 : decode cX7_toldOf 42 = .ok (.iadd, 1) := by decide +kernel
theorem dX7_toldOf_43 : decode cX7_toldOf 43 = .ok (.iaload, 1) := by decide +kernel
theorem dX7_toldOf_44 : decode cX7_toldOf 44 = .ok (.ireturn, 1) := by decide +kernel
theorem dX7_toldOf_45 : decode cX7_toldOf 45 = .ok (.aload_n 0, 1) := by decide +kernel
theorem dX7_toldOf_46 : decode cX7_toldOf 46 = .ok (.getfield 7, 3) := by decide +kernel
theorem dX7_toldOf_49 : decode cX7_toldOf 49 = .ok (.iload_n 1, 1) := by decide +kernel
theorem dX7_toldOf_50 : decode cX7_toldOf 50 = .ok (.invokestatic 136, 3) := by decide +kernel
theorem dX7_toldOf_53 : decode cX7_toldOf 53 = .ok (.ireturn, 1) := by decide +kernel
theorem dX7_toldOf_54 : decode cX7_toldOf 54 = .ok (.aload_n 0, 1) := by decide +kernel
theorem dX7_toldOf_55 : decode cX7_toldOf 55 = .ok (.getfield 7, 3) := by decide +kernel
theorem dX7_toldOf_58 : decode cX7_toldOf 58 = .ok (.bipush 14, 2) := by decide +kernel
theorem dX7_toldOf_60 : decode cX7_toldOf 60 = .ok (.iload_n 1, 1) := by decide +kernel
theorem dX7_toldOf_61 : decode cX7_toldOf 61 = .ok (.iadd, 1) := by decide +kernel
theorem dX7_toldOf_62 : decode cX7_toldOf 62 = .ok (.iaload, 1) := by decide +kernel
theorem dX7_toldOf_63 : decode cX7_toldOf 63 = .ok (.ireturn, 1) := by decide +kernel
theorem dX7_toldOf_64 : decode cX7_toldOf 64 = .ok (.aload_n 0, 1) := by decide +kernel
theorem dX7_toldOf_65 : decode cX7_toldOf 65 = .ok (.getfield 7, 3) := by decide +kernel
theorem dX7_toldOf_68 : decode cX7_toldOf 68 = .ok (.bipush 76, 2) := by decide +kernel
theorem dX7_toldOf_70 : decode cX7_toldOf 70 = .ok (.iload_n 1, 1) := by decide +kernel
theorem dX7_toldOf_71 : decode cX7_toldOf 71 = .ok (.iadd, 1) := by decide +kernel
theorem dX7_toldOf_72 : decode cX7_toldOf 72 = .ok (.iaload, 1) := by decide +kernel
theorem dX7_toldOf_73 : decode cX7_toldOf 73 = .ok (.ireturn, 1) := by decide +kernel
theorem dX7_toldOf_74 : decode cX7_toldOf 74 = .ok (.aload_n 0, 1) := by decide +kernel
theorem dX7_toldOf_75 : decode cX7_toldOf 75 = .ok (.getfield 7, 3) := by decide +kernel
theorem dX7_toldOf_78 : decode cX7_toldOf 78 = .ok (.bipush 82, 2) := by decide +kernel
theorem dX7_toldOf_80 : decode cX7_toldOf 80 = .ok (.iaload, 1) := by decide +kernel
theorem dX7_toldOf_81 : decode cX7_toldOf 81 = .ok (.iload_n 1, 1) := by decide +kernel
theorem dX7_toldOf_82 : decode cX7_toldOf 82 = .ok (.invokestatic 130, 3) := by decide +kernel
theorem dX7_toldOf_85 : decode cX7_toldOf 85 = .ok (.ifCond .eq 7, 3) := by decide +kernel
theorem dX7_toldOf_88 : decode cX7_toldOf 88 = .ok (.iconst 0, 1) := by decide +kernel
theorem dX7_toldOf_89 : decode cX7_toldOf 89 = .ok (.goto 4, 3) := by decide +kernel
theorem dX7_toldOf_92 : decode cX7_toldOf 92 = .ok (.iconst 1, 1) := by decide +kernel
theorem dX7_toldOf_93 : decode cX7_toldOf 93 = .ok (.ireturn, 1) := by decide +kernel
theorem dX7_toldOf_94 : decode cX7_toldOf 94 = .ok (.aload_n 0, 1) := by decide +kernel
theorem dX7_toldOf_95 : decode cX7_toldOf 95 = .ok (.getfield 7, 3) := by decide +kernel
theorem dX7_toldOf_98 : decode cX7_toldOf 98 = .ok (.bipush 83, 2) := by decide +kernel
theorem dX7_toldOf_100 : decode cX7_toldOf 100 = .ok (.iaload, 1) := by decide +kernel
theorem dX7_toldOf_101 : decode cX7_toldOf 101 = .ok (.iload_n 1, 1) := by decide +kernel
theorem dX7_toldOf_102 : decode cX7_toldOf 102 = .ok (.invokestatic 130, 3) := by decide +kernel
theorem dX7_toldOf_105 : decode cX7_toldOf 105 = .ok (.ifCond .eq 7, 3) := by decide +kernel
theorem dX7_toldOf_108 : decode cX7_toldOf 108 = .ok (.iconst 1, 1) := by decide +kernel
theorem dX7_toldOf_109 : decode cX7_toldOf 109 = .ok (.goto 4, 3) := by decide +kernel
theorem dX7_toldOf_112 : decode cX7_toldOf 112 = .ok (.iconst 0, 1) := by decide +kernel
theorem dX7_toldOf_113 : decode cX7_toldOf 113 = .ok (.ireturn, 1) := by decide +kernel
theorem dX7_rope_0 : decode cX7_rope 0 = .ok (.aload_n 0, 1) := by decide +kernel
theorem dX7_rope_1 : decode cX7_rope 1 = .ok (.iload_n 1, 1) := by decide +kernel
theorem dX7_rope_2 : decode cX7_rope 2 = .ok (.invokevirtual 155, 3) := by decide +kernel
theorem dX7_rope_5 : decode cX7_rope 5 = .ok (.ifCond .eq 28, 3) := by decide +kernel
theorem dX7_rope_8 : decode cX7_rope 8 = .ok (.iload_n 2, 1) := by decide +kernel
theorem dX7_rope_9 : decode cX7_rope 9 = .ok (.i2l, 1) := by decide +kernel
theorem dX7_rope_10 : decode cX7_rope 10 = .ok (.lconst 0, 1) := by decide +kernel
theorem dX7_rope_11 : decode cX7_rope 11 = .ok (.ldc2_w 67, 3) := by decide +kernel
theorem dX7_rope_14 : decode cX7_rope 14 = .ok (.invokestatic 69, 3) := by decide +kernel
theorem dX7_rope_17 : decode cX7_rope 17 = .ok (.ifCond .eq 16, 3) := by decide +kernel
theorem dX7_rope_20 : decode cX7_rope 20 = .ok (.aload_n 0, 1) := by decide +kernel
theorem dX7_rope_21 : decode cX7_rope 21 = .ok (.aload_n 0, 1) := by decide +kernel
theorem dX7_rope_22 : decode cX7_rope 22 = .ok (.iload_n 1, 1) := by decide +kernel
theorem dX7_rope_23 : decode cX7_rope 23 = .ok (.iload_n 2, 1) := by decide +kernel
theorem dX7_rope_24 : decode cX7_rope 24 = .ok (.invokevirtual 158, 3) := by decide +kernel
theorem dX7_rope_27 : decode cX7_rope 27 = .ok (.invokevirtual 87, 3) := by decide +kernel
theorem dX7_rope_30 : decode cX7_rope 30 = .ok (.goto 4, 3) := by decide +kernel
theorem dX7_rope_33 : decode cX7_rope 33 = .ok (.iconst (-1), 1) := by decide +kernel
theorem dX7_rope_34 : decode cX7_rope 34 = .ok (.ireturn, 1) := by decide +kernel
theorem dX7_isOf_0 : decode cX7_isOf 0 = .ok (.iload_n 0, 1) := by decide +kernel
theorem dX7_isOf_1 : decode cX7_isOf 1 = .ok (.iload_n 1, 1) := by decide +kernel
theorem dX7_isOf_2 : decode cX7_isOf 2 = .ok (.if_icmp .eq 23, 3) := by decide +kernel
theorem dX7_isOf_5 : decode cX7_isOf 5 = .ok (.iload_n 1, 1) := by decide +kernel
theorem dX7_isOf_6 : decode cX7_isOf 6 = .ok (.iconst 1, 1) := by decide +kernel
theorem dX7_isOf_7 : decode cX7_isOf 7 = .ok (.if_icmp .ne 8, 3) := by decide +kernel
theorem dX7_isOf_10 : decode cX7_isOf 10 = .ok (.iload_n 0, 1) := by decide +kernel
theorem dX7_isOf_11 : decode cX7_isOf 11 = .ok (.iconst 4, 1) := by decide +kernel
theorem dX7_isOf_12 : decode cX7_isOf 12 = .ok (.if_icmp .eq 13, 3) := by decide +kernel
theorem dX7_isOf_15 : decode cX7_isOf 15 = .ok (.iload_n 1, 1) := by decide +kernel
theorem dX7_isOf_16 : decode cX7_isOf 16 = .ok (.iconst 3, 1) := by decide +kernel
theorem dX7_isOf_17 : decode cX7_isOf 17 = .ok (.if_icmp .ne 12, 3) := by decide +kernel
theorem dX7_isOf_20 : decode cX7_isOf 20 = .ok (.iload_n 0, 1) := by decide +kernel
theorem dX7_isOf_21 : decode cX7_isOf 21 = .ok (.iconst 5, 1) := by decide +kernel
theorem dX7_isOf_22 : decode cX7_isOf 22 = .ok (.if_icmp .ne 7, 3) := by decide +kernel
theorem dX7_isOf_25 : decode cX7_isOf 25 = .ok (.iconst 1, 1) := by decide +kernel
theorem dX7_isOf_26 : decode cX7_isOf 26 = .ok (.goto 4, 3) := by decide +kernel
theorem dX7_isOf_29 : decode cX7_isOf 29 = .ok (.iconst 0, 1) := by decide +kernel
theorem dX7_isOf_30 : decode cX7_isOf 30 = .ok (.ireturn, 1) := by decide +kernel
theorem dX7_othersThatMove_0 : decode cX7_othersThatMove 0 = .ok (.iconst 0, 1) := by decide +kernel
theorem dX7_othersThatMove_1 : decode cX7_othersThatMove 1 = .ok (.istore_n 3, 1) := by decide +kernel
theorem dX7_othersThatMove_2 : decode cX7_othersThatMove 2 = .ok (.iconst 0, 1) := by decide +kernel
theorem dX7_othersThatMove_3 : decode cX7_othersThatMove 3 = .ok (.istore 4, 2) := by decide +kernel
theorem dX7_othersThatMove_5 : decode cX7_othersThatMove 5 = .ok (.iload 4, 2) := by decide +kernel
theorem dX7_othersThatMove_7 : decode cX7_othersThatMove 7 = .ok (.aload_n 0, 1) := by decide +kernel
theorem dX7_othersThatMove_8 : decode cX7_othersThatMove 8 = .ok (.getfield 7, 3) := by decide +kernel
theorem dX7_othersThatMove_11 : decode cX7_othersThatMove 11 = .ok (.iconst 0, 1) := by decide +kernel
theorem dX7_othersThatMove_12 : decode cX7_othersThatMove 12 = .ok (.iaload, 1) := by decide +kernel
theorem dX7_othersThatMove_13 : decode cX7_othersThatMove 13 = .ok (.if_icmp .ge 43, 3) := by decide +kernel
theorem dX7_othersThatMove_16 : decode cX7_othersThatMove 16 = .ok (.iload_n 3, 1) := by decide +kernel
theorem dX7_othersThatMove_17 : decode cX7_othersThatMove 17 = .ok (.iload 4, 2) := by decide +kernel
theorem dX7_othersThatMove_19 : decode cX7_othersThatMove 19 = .ok (.iload_n 1, 1) := by decide +kernel
theorem dX7_othersThatMove_20 : decode cX7_othersThatMove 20 = .ok (.if_icmp .eq 27, 3) := by decide +kernel
theorem dX7_othersThatMove_23 : decode cX7_othersThatMove 23 = .ok (.iload_n 2, 1) := by decide +kernel
theorem dX7_othersThatMove_24 : decode cX7_othersThatMove 24 = .ok (.bipush (-9), 2) := by decide +kernel
theorem dX7_othersThatMove_26 : decode cX7_othersThatMove 26 = .ok (.if_icmp .eq 21, 3) := by decide +kernel
theorem dX7_othersThatMove_29 : decode cX7_othersThatMove 29 = .ok (.aload_n 0, 1) := by decide +kernel
theorem dX7_othersThatMove_30 : decode cX7_othersThatMove 30 = .ok (.getfield 7, 3) := by decide +kernel
theorem dX7_othersThatMove_33 : decode cX7_othersThatMove 33 = .ok (.bipush 14, 2) := by decide +kernel
theorem dX7_othersThatMove_35 : decode cX7_othersThatMove 35 = .ok (.iload 4, 2) := by decide +kernel
theorem dX7_othersThatMove_37 : decode cX7_othersThatMove 37 = .ok (.iadd, 1) := by decide +kernel
theorem dX7_othersThatMove_38 : decode cX7_othersThatMove 38 = .ok (.iaload, 1) := by decide +kernel
theorem dX7_othersThatMove_39 : decode cX7_othersThatMove 39 = .ok (.iload_n 2, 1) := by decide +kernel
theorem dX7_othersThatMove_40 : decode cX7_othersThatMove 40 = .ok (.if_icmp .ne 7, 3) := by decide +kernel
theorem dX7_othersThatMove_43 : decode cX7_othersThatMove 43 = .ok (.iconst 1, 1) := by decide +kernel
theorem dX7_othersThatMove_44 : decode cX7_othersThatMove 44 = .ok (.goto 4, 3) := by decide +kernel
theorem dX7_othersThatMove_47 : decode cX7_othersThatMove 47 = .ok (.iconst 0, 1) := by decide +kernel
theorem dX7_othersThatMove_48 : decode cX7_othersThatMove 48 = .ok (.iadd, 1) := by decide +kernel
theorem dX7_othersThatMove_49 : decode cX7_othersThatMove 49 = .ok (.istore_n 3, 1) := by decide +kernel
theorem dX7_othersThatMove_50 : decode cX7_othersThatMove 50 = .ok (.iinc 4 1, 3) := by decide +kernel
theorem dX7_othersThatMove_53 : decode cX7_othersThatMove 53 = .ok (.goto (-48), 3) := by decide +kernel
theorem dX7_othersThatMove_56 : decode cX7_othersThatMove 56 = .ok (.iload_n 3, 1) := by decide +kernel
theorem dX7_othersThatMove_57 : decode cX7_othersThatMove 57 = .ok (.ireturn, 1) := by decide +kernel
theorem dX7_taut_0 : decode cX7_taut 0 = .ok (.iconst 0, 1) := by decide +kernel
theorem dX7_taut_1 : decode cX7_taut 1 = .ok (.istore_n 1, 1) := by decide +kernel
theorem dX7_taut_2 : decode cX7_taut 2 = .ok (.iconst 0, 1) := by decide +kernel
theorem dX7_taut_3 : decode cX7_taut 3 = .ok (.istore_n 2, 1) := by decide +kernel
theorem dX7_taut_4 : decode cX7_taut 4 = .ok (.iload_n 2, 1) := by decide +kernel
theorem dX7_taut_5 : decode cX7_taut 5 = .ok (.aload_n 0, 1) := by decide +kernel
theorem dX7_taut_6 : decode cX7_taut 6 = .ok (.iconst 0, 1) := by decide +kernel
theorem dX7_taut_7 : decode cX7_taut 7 = .ok (.iaload, 1) := by decide +kernel
theorem dX7_taut_8 : decode cX7_taut 8 = .ok (.if_icmp .ge 28, 3) := by decide +kernel
theorem dX7_taut_11 : decode cX7_taut 11 = .ok (.iload_n 1, 1) := by decide +kernel
theorem dX7_taut_12 : decode cX7_taut 12 = .ok (.aload_n 0, 1) := by decide +kernel
theorem dX7_taut_13 : decode cX7_taut 13 = .ok (.bipush 76, 2) := by decide +kernel
theorem dX7_taut_15 : decode cX7_taut 15 = .ok (.iload_n 2, 1) := by decide +kernel
theorem dX7_taut_16 : decode cX7_taut 16 = .ok (.iadd, 1) := by decide +kernel
theorem dX7_taut_17 : decode cX7_taut 17 = .ok (.iaload, 1) := by decide +kernel
theorem dX7_taut_18 : decode cX7_taut 18 = .ok (.ifCond .le 9, 3) := by decide +kernel
theorem dX7_taut_21 : decode cX7_taut 21 = .ok (.iconst 1, 1) := by decide +kernel
theorem dX7_taut_22 : decode cX7_taut 22 = .ok (.iload_n 2, 1) := by decide +kernel
theorem dX7_taut_23 : decode cX7_taut 23 = .ok (.ishl, 1) := by decide +kernel
theorem dX7_taut_24 : decode cX7_taut 24 = .ok (.goto 4, 3) := by decide +kernel
theorem dX7_taut_27 : decode cX7_taut 27 = .ok (.iconst 0, 1) := by decide +kernel
theorem dX7_taut_28 : decode cX7_taut 28 = .ok (.ior, 1) := by decide +kernel
theorem dX7_taut_29 : decode cX7_taut 29 = .ok (.istore_n 1, 1) := by decide +kernel
theorem dX7_taut_30 : decode cX7_taut 30 = .ok (.iinc 2 1, 3) := by decide +kernel
theorem dX7_taut_33 : decode cX7_taut 33 = .ok (.goto (-29), 3) := by decide +kernel
theorem dX7_taut_36 : decode cX7_taut 36 = .ok (.iload_n 1, 1) := by decide +kernel
theorem dX7_taut_37 : decode cX7_taut 37 = .ok (.ireturn, 1) := by decide +kernel
theorem dX7_mark_0 : decode cX7_mark 0 = .ok (.aload_n 0, 1) := by decide +kernel
theorem dX7_mark_1 : decode cX7_mark 1 = .ok (.iload_n 1, 1) := by decide +kernel
theorem dX7_mark_2 : decode cX7_mark 2 = .ok (.invokevirtual 155, 3) := by decide +kernel
theorem dX7_mark_5 : decode cX7_mark 5 = .ok (.ifCond .eq 15, 3) := by decide +kernel
theorem dX7_mark_8 : decode cX7_mark 8 = .ok (.iload_n 2, 1) := by decide +kernel
theorem dX7_mark_9 : decode cX7_mark 9 = .ok (.i2l, 1) := by decide +kernel
theorem dX7_mark_10 : decode cX7_mark 10 = .ok (.lconst 1, 1) := by decide +kernel
theorem dX7_mark_11 : decode cX7_mark 11 = .ok (.ldc2_w 67, 3) := by decide +kernel
theorem dX7_mark_14 : decode cX7_mark 14 = .ok (.invokestatic 69, 3) := by decide +kernel
theorem dX7_mark_17 : decode cX7_mark 17 = .ok (.ifCond .ne 5, 3) := by decide +kernel
theorem dX7_mark_20 : decode cX7_mark 20 = .ok (.iconst (-1), 1) := by decide +kernel
theorem dX7_mark_21 : decode cX7_mark 21 = .ok (.ireturn, 1) := by decide +kernel
theorem dX7_mark_22 : decode cX7_mark 22 = .ok (.aload_n 0, 1) := by decide +kernel
theorem dX7_mark_23 : decode cX7_mark 23 = .ok (.getfield 7, 3) := by decide +kernel
theorem dX7_mark_26 : decode cX7_mark 26 = .ok (.iconst 2, 1) := by decide +kernel
theorem dX7_mark_27 : decode cX7_mark 27 = .ok (.iload_n 1, 1) := by decide +kernel
theorem dX7_mark_28 : decode cX7_mark 28 = .ok (.iadd, 1) := by decide +kernel
theorem dX7_mark_29 : decode cX7_mark 29 = .ok (.iaload, 1) := by decide +kernel
theorem dX7_mark_30 : decode cX7_mark 30 = .ok (.iload_n 2, 1) := by decide +kernel
theorem dX7_mark_31 : decode cX7_mark 31 = .ok (.invokestatic 161, 3) := by decide +kernel
theorem dX7_mark_34 : decode cX7_mark 34 = .ok (.ifCond .ne 9, 3) := by decide +kernel
theorem dX7_mark_37 : decode cX7_mark 37 = .ok (.aload_n 0, 1) := by decide +kernel
theorem dX7_mark_38 : decode cX7_mark 38 = .ok (.iconst 3, 1) := by decide +kernel
theorem dX7_mark_39 : decode cX7_mark 39 = .ok (.invokevirtual 79, 3) := by decide +kernel
theorem dX7_mark_42 : decode cX7_mark 42 = .ok (.ireturn, 1) := by decide +kernel
theorem dX7_mark_43 : decode cX7_mark 43 = .ok (.iload_n 2, 1) := by decide +kernel
theorem dX7_mark_44 : decode cX7_mark 44 = .ok (.tableswitch 94 1 4 #[32, 51, 66, 87], 32) := by decide +kernel
theorem dX7_mark_76 : decode cX7_mark 76 = .ok (.aload_n 0, 1) := by decide +kernel
theorem dX7_mark_77 : decode cX7_mark 77 = .ok (.getfield 7, 3) := by decide +kernel
theorem dX7_mark_80 : decode cX7_mark 80 = .ok (.iload_n 1, 1) := by decide +kernel
theorem dX7_mark_81 : decode cX7_mark 81 = .ok (.invokestatic 136, 3) := by decide +kernel
theorem dX7_mark_84 : decode cX7_mark 84 = .ok (.aload_n 0, 1) := by decide +kernel
theorem dX7_mark_85 : decode cX7_mark 85 = .ok (.getfield 7, 3) := by decide +kernel
theorem dX7_mark_88 : decode cX7_mark 88 = .ok (.bipush 76, 2) := by decide +kernel
theorem dX7_mark_90 : decode cX7_mark 90 = .ok (.iload_n 1, 1) := by decide +kernel
theorem dX7_mark_91 : decode cX7_mark 91 = .ok (.iadd, 1) := by decide +kernel
theorem dX7_mark_92 : decode cX7_mark 92 = .ok (.iaload, 1) := by decide +kernel
theorem dX7_mark_93 : decode cX7_mark 93 = .ok (.isub, 1) := by decide +kernel
theorem dX7_mark_94 : decode cX7_mark 94 = .ok (.ireturn, 1) := by decide +kernel
theorem dX7_mark_95 : decode cX7_mark 95 = .ok (.aload_n 0, 1) := by decide +kernel
theorem dX7_mark_96 : decode cX7_mark 96 = .ok (.iload_n 1, 1) := by decide +kernel
theorem dX7_mark_97 : decode cX7_mark 97 = .ok (.aload_n 0, 1) := by decide +kernel
theorem dX7_mark_98 : decode cX7_mark 98 = .ok (.getfield 7, 3) := by decide +kernel
theorem dX7_mark_101 : decode cX7_mark 101 = .ok (.bipush 14, 2) := by decide +kernel
theorem dX7_mark_103 : decode cX7_mark 103 = .ok (.iload_n 1, 1) := by decide +kernel
theorem dX7_mark_104 : decode cX7_mark 104 = .ok (.iadd, 1) := by decide +kernel
theorem dX7_mark_105 : decode cX7_mark 105 = .ok (.iaload, 1) := by decide +kernel
theorem dX7_mark_106 : decode cX7_mark 106 = .ok (.invokevirtual 164, 3) := by decide +kernel
theorem dX7_mark_109 : decode cX7_mark 109 = .ok (.ireturn, 1) := by decide +kernel
theorem dX7_mark_110 : decode cX7_mark 110 = .ok (.aload_n 0, 1) := by decide +kernel
theorem dX7_mark_111 : decode cX7_mark 111 = .ok (.getfield 7, 3) := by decide +kernel
theorem dX7_mark_114 : decode cX7_mark 114 = .ok (.iconst 2, 1) := by decide +kernel
theorem dX7_mark_115 : decode cX7_mark 115 = .ok (.iload_n 1, 1) := by decide +kernel
theorem dX7_mark_116 : decode cX7_mark 116 = .ok (.iadd, 1) := by decide +kernel
theorem dX7_mark_117 : decode cX7_mark 117 = .ok (.iaload, 1) := by decide +kernel
theorem dX7_mark_118 : decode cX7_mark 118 = .ok (.aload_n 0, 1) := by decide +kernel
theorem dX7_mark_119 : decode cX7_mark 119 = .ok (.getfield 7, 3) := by decide +kernel
theorem dX7_mark_122 : decode cX7_mark 122 = .ok (.bipush 76, 2) := by decide +kernel
theorem dX7_mark_124 : decode cX7_mark 124 = .ok (.iload_n 1, 1) := by decide +kernel
theorem dX7_mark_125 : decode cX7_mark 125 = .ok (.iadd, 1) := by decide +kernel
theorem dX7_mark_126 : decode cX7_mark 126 = .ok (.iaload, 1) := by decide +kernel
theorem dX7_mark_127 : decode cX7_mark 127 = .ok (.invokestatic 140, 3) := by decide +kernel
theorem dX7_mark_130 : decode cX7_mark 130 = .ok (.ireturn, 1) := by decide +kernel
theorem dX7_mark_131 : decode cX7_mark 131 = .ok (.aload_n 0, 1) := by decide +kernel
theorem dX7_mark_132 : decode cX7_mark 132 = .ok (.iload_n 1, 1) := by decide +kernel
theorem dX7_mark_133 : decode cX7_mark 133 = .ok (.iload_n 1, 1) := by decide +kernel
theorem dX7_mark_134 : decode cX7_mark 134 = .ok (.invokevirtual 164, 3) := by decide +kernel
theorem dX7_mark_137 : decode cX7_mark 137 = .ok (.ireturn, 1) := by decide +kernel
theorem dX7_mark_138 : decode cX7_mark 138 = .ok (.aload_n 0, 1) := by decide +kernel
theorem dX7_mark_139 : decode cX7_mark 139 = .ok (.getfield 7, 3) := by decide +kernel
theorem dX7_mark_142 : decode cX7_mark 142 = .ok (.invokestatic 167, 3) := by decide +kernel
theorem dX7_mark_145 : decode cX7_mark 145 = .ok (.iconst 1, 1) := by decide +kernel
theorem dX7_mark_146 : decode cX7_mark 146 = .ok (.iload_n 1, 1) := by decide +kernel
theorem dX7_mark_147 : decode cX7_mark 147 = .ok (.ishl, 1) := by decide +kernel
theorem dX7_mark_148 : decode cX7_mark 148 = .ok (.iconst (-1), 1) := by decide +kernel
theorem dX7_mark_149 : decode cX7_mark 149 = .ok (.ixor, 1) := by decide +kernel
theorem dX7_mark_150 : decode cX7_mark 150 = .ok (.iand, 1) := by decide +kernel
theorem dX7_mark_151 : decode cX7_mark 151 = .ok (.invokestatic 171, 3) := by decide +kernel
theorem dX7_mark_154 : decode cX7_mark 154 = .ok (.ireturn, 1) := by decide +kernel
theorem dX7_is_0 : decode cX7_is 0 = .ok (.aload_n 0, 1) := by decide +kernel
theorem dX7_is_1 : decode cX7_is 1 = .ok (.getfield 7, 3) := by decide +kernel
theorem dX7_is_4 : decode cX7_is 4 = .ok (.bipush 83, 2) := by decide +kernel
theorem dX7_is_6 : decode cX7_is 6 = .ok (.iaload, 1) := by decide +kernel
theorem dX7_is_7 : decode cX7_is 7 = .ok (.iload_n 1, 1) := by decide +kernel
theorem dX7_is_8 : decode cX7_is 8 = .ok (.invokestatic 130, 3) := by decide +kernel
theorem dX7_is_11 : decode cX7_is 11 = .ok (.istore_n 3, 1) := by decide +kernel
theorem dX7_is_12 : decode cX7_is 12 = .ok (.iload_n 2, 1) := by decide +kernel
theorem dX7_is_13 : decode cX7_is 13 = .ok (.iconst 2, 1) := by decide +kernel
theorem dX7_is_14 : decode cX7_is 14 = .ok (.if_icmp .ne 7, 3) := by decide +kernel
theorem dX7_is_17 : decode cX7_is 17 = .ok (.iload_n 3, 1) := by decide +kernel
theorem dX7_is_18 : decode cX7_is 18 = .ok (.goto 36, 3) := by decide +kernel
theorem dX7_is_21 : decode cX7_is 21 = .ok (.iload_n 3, 1) := by decide +kernel
theorem dX7_is_22 : decode cX7_is 22 = .ok (.ifCond .ne 31, 3) := by decide +kernel
theorem dX7_is_25 : decode cX7_is 25 = .ok (.aload_n 0, 1) := by decide +kernel
theorem dX7_is_26 : decode cX7_is 26 = .ok (.getfield 7, 3) := by decide +kernel
theorem dX7_is_29 : decode cX7_is 29 = .ok (.bipush 82, 2) := by decide +kernel
theorem dX7_is_31 : decode cX7_is 31 = .ok (.iaload, 1) := by decide +kernel
theorem dX7_is_32 : decode cX7_is 32 = .ok (.iload_n 1, 1) := by decide +kernel
theorem dX7_is_33 : decode cX7_is 33 = .ok (.invokestatic 130, 3) := by decide +kernel
theorem dX7_is_36 : decode cX7_is 36 = .ok (.iload_n 2, 1) := by decide +kernel
theorem dX7_is_37 : decode cX7_is 37 = .ok (.iconst 1, 1) := by decide +kernel
theorem dX7_is_38 : decode cX7_is 38 = .ok (.if_icmp .ne 7, 3) := by decide +kernel
theorem dX7_is_41 : decode cX7_is 41 = .ok (.iconst 1, 1) := by decide +kernel
theorem dX7_is_42 : decode cX7_is 42 = .ok (.goto 4, 3) := by decide +kernel
theorem dX7_is_45 : decode cX7_is 45 = .ok (.iconst 0, 1) := by decide +kernel
theorem dX7_is_46 : decode cX7_is 46 = .ok (.if_icmp .ne 7, 3) := by decide +kernel
theorem dX7_is_49 : decode cX7_is 49 = .ok (.iconst 1, 1) := by decide +kernel
theorem dX7_is_50 : decode cX7_is 50 = .ok (.goto 4, 3) := by decide +kernel
theorem dX7_is_53 : decode cX7_is 53 = .ok (.iconst 0, 1) := by decide +kernel
theorem dX7_is_54 : decode cX7_is 54 = .ok (.ireturn, 1) := by decide +kernel
theorem dX7_doesAt_0 : decode cX7_doesAt 0 = .ok (.aload_n 0, 1) := by decide +kernel
theorem dX7_doesAt_1 : decode cX7_doesAt 1 = .ok (.iload_n 1, 1) := by decide +kernel
theorem dX7_doesAt_2 : decode cX7_doesAt 2 = .ok (.iload_n 2, 1) := by decide +kernel
theorem dX7_doesAt_3 : decode cX7_doesAt 3 = .ok (.invokevirtual 174, 3) := by decide +kernel
theorem dX7_doesAt_6 : decode cX7_doesAt 6 = .ok (.ifCond .ne 6, 3) := by decide +kernel
theorem dX7_doesAt_9 : decode cX7_doesAt 9 = .ok (.bipush (-4), 2) := by decide +kernel
theorem dX7_doesAt_11 : decode cX7_doesAt 11 = .ok (.ireturn, 1) := by decide +kernel
theorem dX7_doesAt_12 : decode cX7_doesAt 12 = .ok (.aload_n 0, 1) := by decide +kernel
theorem dX7_doesAt_13 : decode cX7_doesAt 13 = .ok (.getfield 7, 3) := by decide +kernel
theorem dX7_doesAt_16 : decode cX7_doesAt 16 = .ok (.bipush 35, 2) := by decide +kernel
theorem dX7_doesAt_18 : decode cX7_doesAt 18 = .ok (.iaload, 1) := by decide +kernel
theorem dX7_doesAt_19 : decode cX7_doesAt 19 = .ok (.bipush 40, 2) := by decide +kernel
theorem dX7_doesAt_21 : decode cX7_doesAt 21 = .ok (.if_icmp .ne 6, 3) := by decide +kernel
theorem dX7_doesAt_24 : decode cX7_doesAt 24 = .ok (.bipush (-2), 2) := by decide +kernel
theorem dX7_doesAt_26 : decode cX7_doesAt 26 = .ok (.ireturn, 1) := by decide +kernel
theorem dX7_doesAt_27 : decode cX7_doesAt 27 = .ok (.aload_n 0, 1) := by decide +kernel
theorem dX7_doesAt_28 : decode cX7_doesAt 28 = .ok (.iload_n 3, 1) := by decide +kernel
theorem dX7_doesAt_29 : decode cX7_doesAt 29 = .ok (.iload_n 1, 1) := by decide +kernel
theorem dX7_doesAt_30 : decode cX7_doesAt 30 = .ok (.iadd, 1) := by decide +kernel
theorem dX7_doesAt_31 : decode cX7_doesAt 31 = .ok (.invokevirtual 177, 3) := by decide +kernel
theorem dX7_doesAt_34 : decode cX7_doesAt 34 = .ok (.iconst 0, 1) := by decide +kernel
theorem dX7_doesAt_35 : decode cX7_doesAt 35 = .ok (.ireturn, 1) := by decide +kernel
theorem dX7_haul_0 : decode cX7_haul 0 = .ok (.aload_n 0, 1) := by decide +kernel
theorem dX7_haul_1 : decode cX7_haul 1 = .ok (.iload_n 1, 1) := by decide +kernel
theorem dX7_haul_2 : decode cX7_haul 2 = .ok (.invokevirtual 155, 3) := by decide +kernel
theorem dX7_haul_5 : decode cX7_haul 5 = .ok (.ifCond .eq 15, 3) := by decide +kernel
theorem dX7_haul_8 : decode cX7_haul 8 = .ok (.iload_n 2, 1) := by decide +kernel
theorem dX7_haul_9 : decode cX7_haul 9 = .ok (.i2l, 1) := by decide +kernel
theorem dX7_haul_10 : decode cX7_haul 10 = .ok (.lconst 1, 1) := by decide +kernel
theorem dX7_haul_11 : decode cX7_haul 11 = .ok (.ldc2_w 180, 3) := by decide +kernel
theorem dX7_haul_14 : decode cX7_haul 14 = .ok (.invokestatic 69, 3) := by decide +kernel
theorem dX7_haul_17 : decode cX7_haul 17 = .ok (.ifCond .ne 5, 3) := by decide +kernel
theorem dX7_haul_20 : decode cX7_haul 20 = .ok (.iconst (-1), 1) := by decide +kernel
theorem dX7_haul_21 : decode cX7_haul 21 = .ok (.ireturn, 1) := by decide +kernel
theorem dX7_haul_22 : decode cX7_haul 22 = .ok (.aload_n 0, 1) := by decide +kernel
theorem dX7_haul_23 : decode cX7_haul 23 = .ok (.iload_n 1, 1) := by decide +kernel
theorem dX7_haul_24 : decode cX7_haul 24 = .ok (.iconst 0, 1) := by decide +kernel
theorem dX7_haul_25 : decode cX7_haul 25 = .ok (.bipush 100, 2) := by decide +kernel
theorem dX7_haul_27 : decode cX7_haul 27 = .ok (.bipush 10, 2) := by decide +kernel
theorem dX7_haul_29 : decode cX7_haul 29 = .ok (.iload_n 2, 1) := by decide +kernel
theorem dX7_haul_30 : decode cX7_haul 30 = .ok (.imul, 1) := by decide +kernel
theorem dX7_haul_31 : decode cX7_haul 31 = .ok (.iadd, 1) := by decide +kernel
theorem dX7_haul_32 : decode cX7_haul 32 = .ok (.invokevirtual 182, 3) := by decide +kernel
theorem dX7_haul_35 : decode cX7_haul 35 = .ok (.istore_n 3, 1) := by decide +kernel
theorem dX7_haul_36 : decode cX7_haul 36 = .ok (.iload_n 3, 1) := by decide +kernel
theorem dX7_haul_37 : decode cX7_haul 37 = .ok (.ifCond .eq 7, 3) := by decide +kernel
theorem dX7_haul_40 : decode cX7_haul 40 = .ok (.iload_n 3, 1) := by decide +kernel
theorem dX7_haul_41 : decode cX7_haul 41 = .ok (.goto 17, 3) := by decide +kernel
theorem dX7_haul_44 : decode cX7_haul 44 = .ok (.aload_n 0, 1) := by decide +kernel
theorem dX7_haul_45 : decode cX7_haul 45 = .ok (.getfield 133, 3) := by decide +kernel
theorem dX7_haul_48 : decode cX7_haul 48 = .ok (.bipush (-9), 2) := by decide +kernel
theorem dX7_haul_50 : decode cX7_haul 50 = .ok (.if_icmp .ne 7, 3) := by decide +kernel
theorem dX7_haul_53 : decode cX7_haul 53 = .ok (.iconst 0, 1) := by decide +kernel
theorem dX7_haul_54 : decode cX7_haul 54 = .ok (.goto 4, 3) := by decide +kernel
theorem dX7_haul_57 : decode cX7_haul 57 = .ok (.iconst 1, 1) := by decide +kernel
theorem dX7_haul_58 : decode cX7_haul 58 = .ok (.ireturn, 1) := by decide +kernel
theorem dX7_slack_0 : decode cX7_slack 0 = .ok (.aload_n 0, 1) := by decide +kernel
theorem dX7_slack_1 : decode cX7_slack 1 = .ok (.iload_n 1, 1) := by decide +kernel
theorem dX7_slack_2 : decode cX7_slack 2 = .ok (.invokevirtual 155, 3) := by decide +kernel
theorem dX7_slack_5 : decode cX7_slack 5 = .ok (.ifCond .ne 5, 3) := by decide +kernel
theorem dX7_slack_8 : decode cX7_slack 8 = .ok (.iconst (-1), 1) := by decide +kernel
theorem dX7_slack_9 : decode cX7_slack 9 = .ok (.ireturn, 1) := by decide +kernel
theorem dX7_slack_10 : decode cX7_slack 10 = .ok (.aload_n 0, 1) := by decide +kernel
theorem dX7_slack_11 : decode cX7_slack 11 = .ok (.getfield 7, 3) := by decide +kernel
theorem dX7_slack_14 : decode cX7_slack 14 = .ok (.bipush 76, 2) := by decide +kernel
theorem dX7_slack_16 : decode cX7_slack 16 = .ok (.iload_n 1, 1) := by decide +kernel
theorem dX7_slack_17 : decode cX7_slack 17 = .ok (.iadd, 1) := by decide +kernel
theorem dX7_slack_18 : decode cX7_slack 18 = .ok (.iaload, 1) := by decide +kernel
theorem dX7_slack_19 : decode cX7_slack 19 = .ok (.istore_n 2, 1) := by decide +kernel
theorem dX7_slack_20 : decode cX7_slack 20 = .ok (.aload_n 0, 1) := by decide +kernel
theorem dX7_slack_21 : decode cX7_slack 21 = .ok (.iload_n 1, 1) := by decide +kernel
theorem dX7_slack_22 : decode cX7_slack 22 = .ok (.iconst 0, 1) := by decide +kernel
theorem dX7_slack_23 : decode cX7_slack 23 = .ok (.sipush 200, 3) := by decide +kernel
theorem dX7_slack_26 : decode cX7_slack 26 = .ok (.invokevirtual 182, 3) := by decide +kernel
theorem dX7_slack_29 : decode cX7_slack 29 = .ok (.istore_n 3, 1) := by decide +kernel
theorem dX7_slack_30 : decode cX7_slack 30 = .ok (.iload_n 3, 1) := by decide +kernel
theorem dX7_slack_31 : decode cX7_slack 31 = .ok (.ifCond .eq 7, 3) := by decide +kernel
theorem dX7_slack_34 : decode cX7_slack 34 = .ok (.iload_n 3, 1) := by decide +kernel
theorem dX7_slack_35 : decode cX7_slack 35 = .ok (.goto 4, 3) := by decide +kernel
theorem dX7_slack_38 : decode cX7_slack 38 = .ok (.iload_n 2, 1) := by decide +kernel
theorem dX7_slack_39 : decode cX7_slack 39 = .ok (.ireturn, 1) := by decide +kernel
theorem dX7_belay_0 : decode cX7_belay 0 = .ok (.aload_n 0, 1) := by decide +kernel
theorem dX7_belay_1 : decode cX7_belay 1 = .ok (.iload_n 1, 1) := by decide +kernel
theorem dX7_belay_2 : decode cX7_belay 2 = .ok (.invokevirtual 155, 3) := by decide +kernel
theorem dX7_belay_5 : decode cX7_belay 5 = .ok (.ifCond .ne 5, 3) := by decide +kernel
theorem dX7_belay_8 : decode cX7_belay 8 = .ok (.iconst (-1), 1) := by decide +kernel
theorem dX7_belay_9 : decode cX7_belay 9 = .ok (.ireturn, 1) := by decide +kernel
theorem dX7_belay_10 : decode cX7_belay 10 = .ok (.aload_n 0, 1) := by decide +kernel
theorem dX7_belay_11 : decode cX7_belay 11 = .ok (.iload_n 1, 1) := by decide +kernel
theorem dX7_belay_12 : decode cX7_belay 12 = .ok (.iconst 1, 1) := by decide +kernel
theorem dX7_belay_13 : decode cX7_belay 13 = .ok (.sipush 300, 3) := by decide +kernel
theorem dX7_belay_16 : decode cX7_belay 16 = .ok (.invokevirtual 182, 3) := by decide +kernel
theorem dX7_belay_19 : decode cX7_belay 19 = .ok (.istore_n 2, 1) := by decide +kernel
theorem dX7_belay_20 : decode cX7_belay 20 = .ok (.iload_n 2, 1) := by decide +kernel
theorem dX7_belay_21 : decode cX7_belay 21 = .ok (.ifCond .eq 7, 3) := by decide +kernel
theorem dX7_belay_24 : decode cX7_belay 24 = .ok (.iload_n 2, 1) := by decide +kernel
theorem dX7_belay_25 : decode cX7_belay 25 = .ok (.goto 13, 3) := by decide +kernel
theorem dX7_belay_28 : decode cX7_belay 28 = .ok (.aload_n 0, 1) := by decide +kernel
theorem dX7_belay_29 : decode cX7_belay 29 = .ok (.getfield 7, 3) := by decide +kernel
theorem dX7_belay_32 : decode cX7_belay 32 = .ok (.bipush 82, 2) := by decide +kernel
theorem dX7_belay_34 : decode cX7_belay 34 = .ok (.iaload, 1) := by decide +kernel
theorem dX7_belay_35 : decode cX7_belay 35 = .ok (.invokestatic 171, 3) := by decide +kernel
theorem dX7_belay_38 : decode cX7_belay 38 = .ok (.ireturn, 1) := by decide +kernel
theorem dX7_cut_0 : decode cX7_cut 0 = .ok (.aload_n 0, 1) := by decide +kernel
theorem dX7_cut_1 : decode cX7_cut 1 = .ok (.iload_n 1, 1) := by decide +kernel
theorem dX7_cut_2 : decode cX7_cut 2 = .ok (.invokevirtual 155, 3) := by decide +kernel
theorem dX7_cut_5 : decode cX7_cut 5 = .ok (.ifCond .ne 5, 3) := by decide +kernel
theorem dX7_cut_8 : decode cX7_cut 8 = .ok (.iconst (-1), 1) := by decide +kernel
theorem dX7_cut_9 : decode cX7_cut 9 = .ok (.ireturn, 1) := by decide +kernel
theorem dX7_cut_10 : decode cX7_cut 10 = .ok (.aload_n 0, 1) := by decide +kernel
theorem dX7_cut_11 : decode cX7_cut 11 = .ok (.getfield 7, 3) := by decide +kernel
theorem dX7_cut_14 : decode cX7_cut 14 = .ok (.bipush 83, 2) := by decide +kernel
theorem dX7_cut_16 : decode cX7_cut 16 = .ok (.iaload, 1) := by decide +kernel
theorem dX7_cut_17 : decode cX7_cut 17 = .ok (.iload_n 1, 1) := by decide +kernel
theorem dX7_cut_18 : decode cX7_cut 18 = .ok (.invokestatic 130, 3) := by decide +kernel
theorem dX7_cut_21 : decode cX7_cut 21 = .ok (.ifCond .eq 6, 3) := by decide +kernel
theorem dX7_cut_24 : decode cX7_cut 24 = .ok (.bipush (-4), 2) := by decide +kernel
theorem dX7_cut_26 : decode cX7_cut 26 = .ok (.ireturn, 1) := by decide +kernel
theorem dX7_cut_27 : decode cX7_cut 27 = .ok (.aload_n 0, 1) := by decide +kernel
theorem dX7_cut_28 : decode cX7_cut 28 = .ok (.getfield 7, 3) := by decide +kernel
theorem dX7_cut_31 : decode cX7_cut 31 = .ok (.bipush 35, 2) := by decide +kernel
theorem dX7_cut_33 : decode cX7_cut 33 = .ok (.iaload, 1) := by decide +kernel
theorem dX7_cut_34 : decode cX7_cut 34 = .ok (.bipush 40, 2) := by decide +kernel
theorem dX7_cut_36 : decode cX7_cut 36 = .ok (.if_icmp .ne 6, 3) := by decide +kernel
theorem dX7_cut_39 : decode cX7_cut 39 = .ok (.bipush (-2), 2) := by decide +kernel
theorem dX7_cut_41 : decode cX7_cut 41 = .ok (.ireturn, 1) := by decide +kernel
theorem dX7_cut_42 : decode cX7_cut 42 = .ok (.aload_n 0, 1) := by decide +kernel
theorem dX7_cut_43 : decode cX7_cut 43 = .ok (.sipush 400, 3) := by decide +kernel
theorem dX7_cut_46 : decode cX7_cut 46 = .ok (.iload_n 1, 1) := by decide +kernel
theorem dX7_cut_47 : decode cX7_cut 47 = .ok (.iadd, 1) := by decide +kernel
theorem dX7_cut_48 : decode cX7_cut 48 = .ok (.invokevirtual 177, 3) := by decide +kernel
theorem dX7_cut_51 : decode cX7_cut 51 = .ok (.aload_n 0, 1) := by decide +kernel
theorem dX7_cut_52 : decode cX7_cut 52 = .ok (.getfield 7, 3) := by decide +kernel
theorem dX7_cut_55 : decode cX7_cut 55 = .ok (.bipush 83, 2) := by decide +kernel
theorem dX7_cut_57 : decode cX7_cut 57 = .ok (.iaload, 1) := by decide +kernel
theorem dX7_cut_58 : decode cX7_cut 58 = .ok (.invokestatic 171, 3) := by decide +kernel
theorem dX7_cut_61 : decode cX7_cut 61 = .ok (.ireturn, 1) := by decide +kernel
theorem dX7_splice_0 : decode cX7_splice 0 = .ok (.aload_n 0, 1) := by decide +kernel
theorem dX7_splice_1 : decode cX7_splice 1 = .ok (.iload_n 1, 1) := by decide +kernel
theorem dX7_splice_2 : decode cX7_splice 2 = .ok (.invokevirtual 155, 3) := by decide +kernel
theorem dX7_splice_5 : decode cX7_splice 5 = .ok (.ifCond .ne 5, 3) := by decide +kernel
theorem dX7_splice_8 : decode cX7_splice 8 = .ok (.iconst (-1), 1) := by decide +kernel
theorem dX7_splice_9 : decode cX7_splice 9 = .ok (.ireturn, 1) := by decide +kernel
theorem dX7_splice_10 : decode cX7_splice 10 = .ok (.aload_n 0, 1) := by decide +kernel
theorem dX7_splice_11 : decode cX7_splice 11 = .ok (.iload_n 1, 1) := by decide +kernel
theorem dX7_splice_12 : decode cX7_splice 12 = .ok (.iconst 2, 1) := by decide +kernel
theorem dX7_splice_13 : decode cX7_splice 13 = .ok (.sipush 500, 3) := by decide +kernel
theorem dX7_splice_16 : decode cX7_splice 16 = .ok (.invokevirtual 182, 3) := by decide +kernel
theorem dX7_splice_19 : decode cX7_splice 19 = .ok (.istore_n 2, 1) := by decide +kernel
theorem dX7_splice_20 : decode cX7_splice 20 = .ok (.iload_n 2, 1) := by decide +kernel
theorem dX7_splice_21 : decode cX7_splice 21 = .ok (.ifCond .eq 7, 3) := by decide +kernel
theorem dX7_splice_24 : decode cX7_splice 24 = .ok (.iload_n 2, 1) := by decide +kernel
theorem dX7_splice_25 : decode cX7_splice 25 = .ok (.goto 13, 3) := by decide +kernel
theorem dX7_splice_28 : decode cX7_splice 28 = .ok (.aload_n 0, 1) := by decide +kernel
theorem dX7_splice_29 : decode cX7_splice 29 = .ok (.getfield 7, 3) := by decide +kernel
theorem dX7_splice_32 : decode cX7_splice 32 = .ok (.bipush 83, 2) := by decide +kernel
theorem dX7_splice_34 : decode cX7_splice 34 = .ok (.iaload, 1) := by decide +kernel
theorem dX7_splice_35 : decode cX7_splice 35 = .ok (.invokestatic 171, 3) := by decide +kernel
theorem dX7_splice_38 : decode cX7_splice 38 = .ok (.ireturn, 1) := by decide +kernel
theorem dX7_frost_0 : decode cX7_frost 0 = .ok (.iload_n 1, 1) := by decide +kernel
theorem dX7_frost_1 : decode cX7_frost 1 = .ok (.i2l, 1) := by decide +kernel
theorem dX7_frost_2 : decode cX7_frost 2 = .ok (.lconst 0, 1) := by decide +kernel
theorem dX7_frost_3 : decode cX7_frost 3 = .ok (.lconst 1, 1) := by decide +kernel
theorem dX7_frost_4 : decode cX7_frost 4 = .ok (.invokestatic 69, 3) := by decide +kernel
theorem dX7_frost_7 : decode cX7_frost 7 = .ok (.ifCond .ne 5, 3) := by decide +kernel
theorem dX7_frost_10 : decode cX7_frost 10 = .ok (.iconst (-1), 1) := by decide +kernel
theorem dX7_frost_11 : decode cX7_frost 11 = .ok (.ireturn, 1) := by decide +kernel
theorem dX7_frost_12 : decode cX7_frost 12 = .ok (.aload_n 0, 1) := by decide +kernel
theorem dX7_frost_13 : decode cX7_frost 13 = .ok (.getfield 7, 3) := by decide +kernel
theorem dX7_frost_16 : decode cX7_frost 16 = .ok (.iconst 0, 1) := by decide +kernel
theorem dX7_frost_17 : decode cX7_frost 17 = .ok (.iaload, 1) := by decide +kernel
theorem dX7_frost_18 : decode cX7_frost 18 = .ok (.ifCond .eq 14, 3) := by decide +kernel
theorem dX7_frost_21 : decode cX7_frost 21 = .ok (.aload_n 0, 1) := by decide +kernel
theorem dX7_frost_22 : decode cX7_frost 22 = .ok (.getfield 7, 3) := by decide +kernel
theorem dX7_frost_25 : decode cX7_frost 25 = .ok (.bipush 84, 2) := by decide +kernel
theorem dX7_frost_27 : decode cX7_frost 27 = .ok (.iaload, 1) := by decide +kernel
theorem dX7_frost_28 : decode cX7_frost 28 = .ok (.iload_n 1, 1) := by decide +kernel
theorem dX7_frost_29 : decode cX7_frost 29 = .ok (.if_icmp .ne 6, 3) := by decide +kernel
theorem dX7_frost_32 : decode cX7_frost 32 = .ok (.bipush (-4), 2) := by decide +kernel
theorem dX7_frost_34 : decode cX7_frost 34 = .ok (.ireturn, 1) := by decide +kernel
theorem dX7_frost_35 : decode cX7_frost 35 = .ok (.aload_n 0, 1) := by decide +kernel
theorem dX7_frost_36 : decode cX7_frost 36 = .ok (.getfield 7, 3) := by decide +kernel
theorem dX7_frost_39 : decode cX7_frost 39 = .ok (.bipush 35, 2) := by decide +kernel
theorem dX7_frost_41 : decode cX7_frost 41 = .ok (.iaload, 1) := by decide +kernel
theorem dX7_frost_42 : decode cX7_frost 42 = .ok (.bipush 40, 2) := by decide +kernel
theorem dX7_frost_44 : decode cX7_frost 44 = .ok (.if_icmp .ne 6, 3) := by decide +kernel
theorem dX7_frost_47 : decode cX7_frost 47 = .ok (.bipush (-2), 2) := by decide +kernel
theorem dX7_frost_49 : decode cX7_frost 49 = .ok (.ireturn, 1) := by decide +kernel
theorem dX7_frost_50 : decode cX7_frost 50 = .ok (.aload_n 0, 1) := by decide +kernel
theorem dX7_frost_51 : decode cX7_frost 51 = .ok (.sipush 600, 3) := by decide +kernel
theorem dX7_frost_54 : decode cX7_frost 54 = .ok (.iload_n 1, 1) := by decide +kernel
theorem dX7_frost_55 : decode cX7_frost 55 = .ok (.iadd, 1) := by decide +kernel
theorem dX7_frost_56 : decode cX7_frost 56 = .ok (.invokevirtual 177, 3) := by decide +kernel
theorem dX7_frost_59 : decode cX7_frost 59 = .ok (.iload_n 1, 1) := by decide +kernel
theorem dX7_frost_60 : decode cX7_frost 60 = .ok (.ireturn, 1) := by decide +kernel
theorem dX7_undo_0 : decode cX7_undo 0 = .ok (.iload_n 1, 1) := by decide +kernel
theorem dX7_undo_1 : decode cX7_undo 1 = .ok (.i2l, 1) := by decide +kernel
theorem dX7_undo_2 : decode cX7_undo 2 = .ok (.lconst 0, 1) := by decide +kernel
theorem dX7_undo_3 : decode cX7_undo 3 = .ok (.aload_n 0, 1) := by decide +kernel
theorem dX7_undo_4 : decode cX7_undo 4 = .ok (.getfield 7, 3) := by decide +kernel
theorem dX7_undo_7 : decode cX7_undo 7 = .ok (.bipush 35, 2) := by decide +kernel
theorem dX7_undo_9 : decode cX7_undo 9 = .ok (.iaload, 1) := by decide +kernel
theorem dX7_undo_10 : decode cX7_undo 10 = .ok (.i2l, 1) := by decide +kernel
theorem dX7_undo_11 : decode cX7_undo 11 = .ok (.invokestatic 69, 3) := by decide +kernel
theorem dX7_undo_14 : decode cX7_undo 14 = .ok (.ifCond .ne 5, 3) := by decide +kernel
theorem dX7_undo_17 : decode cX7_undo 17 = .ok (.iconst (-1), 1) := by decide +kernel
theorem dX7_undo_18 : decode cX7_undo 18 = .ok (.ireturn, 1) := by decide +kernel
theorem dX7_undo_19 : decode cX7_undo 19 = .ok (.aload_n 0, 1) := by decide +kernel
theorem dX7_undo_20 : decode cX7_undo 20 = .ok (.getfield 7, 3) := by decide +kernel
theorem dX7_undo_23 : decode cX7_undo 23 = .ok (.bipush 35, 2) := by decide +kernel
theorem dX7_undo_25 : decode cX7_undo 25 = .ok (.iaload, 1) := by decide +kernel
theorem dX7_undo_26 : decode cX7_undo 26 = .ok (.iload_n 1, 1) := by decide +kernel
theorem dX7_undo_27 : decode cX7_undo 27 = .ok (.isub, 1) := by decide +kernel
theorem dX7_undo_28 : decode cX7_undo 28 = .ok (.istore_n 2, 1) := by decide +kernel
theorem dX7_undo_29 : decode cX7_undo 29 = .ok (.aload_n 0, 1) := by decide +kernel
theorem dX7_undo_30 : decode cX7_undo 30 = .ok (.getfield 7, 3) := by decide +kernel
theorem dX7_undo_33 : decode cX7_undo 33 = .ok (.invokestatic 126, 3) := by decide +kernel
theorem dX7_undo_36 : decode cX7_undo 36 = .ok (.iconst 0, 1) := by decide +kernel
theorem dX7_undo_37 : decode cX7_undo 37 = .ok (.istore_n 3, 1) := by decide +kernel
theorem dX7_undo_38 : decode cX7_undo 38 = .ok (.iload_n 3, 1) := by decide +kernel
theorem dX7_undo_39 : decode cX7_undo 39 = .ok (.iload_n 1, 1) := by decide +kernel
theorem dX7_undo_40 : decode cX7_undo 40 = .ok (.if_icmp .ge 26, 3) := by decide +kernel
theorem dX7_undo_43 : decode cX7_undo 43 = .ok (.aload_n 0, 1) := by decide +kernel
theorem dX7_undo_44 : decode cX7_undo 44 = .ok (.aload_n 0, 1) := by decide +kernel
theorem dX7_undo_45 : decode cX7_undo 45 = .ok (.getfield 7, 3) := by decide +kernel
theorem dX7_undo_48 : decode cX7_undo 48 = .ok (.aload_n 0, 1) := by decide +kernel
theorem dX7_undo_49 : decode cX7_undo 49 = .ok (.getfield 7, 3) := by decide +kernel
theorem dX7_undo_52 : decode cX7_undo 52 = .ok (.bipush 36, 2) := by decide +kernel
theorem dX7_undo_54 : decode cX7_undo 54 = .ok (.iload_n 3, 1) := by decide +kernel
theorem dX7_undo_55 : decode cX7_undo 55 = .ok (.iadd, 1) := by decide +kernel
theorem dX7_undo_56 : decode cX7_undo 56 = .ok (.iaload, 1) := by decide +kernel
theorem dX7_undo_57 : decode cX7_undo 57 = .ok (.invokevirtual 151, 3) := by decide +kernel
theorem dX7_undo_60 : decode cX7_undo 60 = .ok (.iinc 3 1, 3) := by decide +kernel
theorem dX7_undo_63 : decode cX7_undo 63 = .ok (.goto (-25), 3) := by decide +kernel
theorem dX7_undo_66 : decode cX7_undo 66 = .ok (.aload_n 0, 1) := by decide +kernel
theorem dX7_undo_67 : decode cX7_undo 67 = .ok (.getfield 7, 3) := by decide +kernel
theorem dX7_undo_70 : decode cX7_undo 70 = .ok (.bipush 35, 2) := by decide +kernel
theorem dX7_undo_72 : decode cX7_undo 72 = .ok (.iload_n 1, 1) := by decide +kernel
theorem dX7_undo_73 : decode cX7_undo 73 = .ok (.iastore, 1) := by decide +kernel
theorem dX7_undo_74 : decode cX7_undo 74 = .ok (.iload_n 2, 1) := by decide +kernel
theorem dX7_undo_75 : decode cX7_undo 75 = .ok (.ireturn, 1) := by decide +kernel
theorem dX7_isShelf_0 : decode cX7_isShelf 0 = .ok (.iload_n 0, 1) := by decide +kernel
theorem dX7_isShelf_1 : decode cX7_isShelf 1 = .ok (.i2l, 1) := by decide +kernel
theorem dX7_isShelf_2 : decode cX7_isShelf 2 = .ok (.lconst 0, 1) := by decide +kernel
theorem dX7_isShelf_3 : decode cX7_isShelf 3 = .ok (.ldc2_w 186, 3) := by decide +kernel
theorem dX7_isShelf_6 : decode cX7_isShelf 6 = .ok (.invokestatic 69, 3) := by decide +kernel
theorem dX7_isShelf_9 : decode cX7_isShelf 9 = .ok (.ireturn, 1) := by decide +kernel
theorem dX7_keep_0 : decode cX7_keep 0 = .ok (.iload_n 1, 1) := by decide +kernel
theorem dX7_keep_1 : decode cX7_keep 1 = .ok (.invokestatic 188, 3) := by decide +kernel
theorem dX7_keep_4 : decode cX7_keep 4 = .ok (.ifCond .ne 5, 3) := by decide +kernel
theorem dX7_keep_7 : decode cX7_keep 7 = .ok (.iconst (-1), 1) := by decide +kernel
theorem dX7_keep_8 : decode cX7_keep 8 = .ok (.ireturn, 1) := by decide +kernel
theorem dX7_keep_9 : decode cX7_keep 9 = .ok (.aload_n 0, 1) := by decide +kernel
theorem dX7_keep_10 : decode cX7_keep 10 = .ok (.getfield 7, 3) := by decide +kernel
theorem dX7_keep_13 : decode cX7_keep 13 = .ok (.iconst 0, 1) := by decide +kernel
theorem dX7_keep_14 : decode cX7_keep 14 = .ok (.iaload, 1) := by decide +kernel
theorem dX7_keep_15 : decode cX7_keep 15 = .ok (.ifCond .ne 6, 3) := by decide +kernel
theorem dX7_keep_18 : decode cX7_keep 18 = .ok (.bipush (-4), 2) := by decide +kernel
theorem dX7_keep_20 : decode cX7_keep 20 = .ok (.ireturn, 1) := by decide +kernel
theorem dX7_keep_21 : decode cX7_keep 21 = .ok (.iconst 0, 1) := by decide +kernel
theorem dX7_keep_22 : decode cX7_keep 22 = .ok (.istore_n 2, 1) := by decide +kernel
theorem dX7_keep_23 : decode cX7_keep 23 = .ok (.iload_n 2, 1) := by decide +kernel
theorem dX7_keep_24 : decode cX7_keep 24 = .ok (.bipush 85, 2) := by decide +kernel
theorem dX7_keep_26 : decode cX7_keep 26 = .ok (.if_icmp .ge 26, 3) := by decide +kernel
theorem dX7_keep_29 : decode cX7_keep 29 = .ok (.aload_n 0, 1) := by decide +kernel
theorem dX7_keep_30 : decode cX7_keep 30 = .ok (.getfield 13, 3) := by decide +kernel
theorem dX7_keep_33 : decode cX7_keep 33 = .ok (.bipush 85, 2) := by decide +kernel
theorem dX7_keep_35 : decode cX7_keep 35 = .ok (.iload_n 1, 1) := by decide +kernel
theorem dX7_keep_36 : decode cX7_keep 36 = .ok (.imul, 1) := by decide +kernel
theorem dX7_keep_37 : decode cX7_keep 37 = .ok (.iload_n 2, 1) := by decide +kernel
theorem dX7_keep_38 : decode cX7_keep 38 = .ok (.iadd, 1) := by decide +kernel
theorem dX7_keep_39 : decode cX7_keep 39 = .ok (.aload_n 0, 1) := by decide +kernel
theorem dX7_keep_40 : decode cX7_keep 40 = .ok (.getfield 7, 3) := by decide +kernel
theorem dX7_keep_43 : decode cX7_keep 43 = .ok (.iload_n 2, 1) := by decide +kernel
theorem dX7_keep_44 : decode cX7_keep 44 = .ok (.iaload, 1) := by decide +kernel
theorem dX7_keep_45 : decode cX7_keep 45 = .ok (.iastore, 1) := by decide +kernel
theorem dX7_keep_46 : decode cX7_keep 46 = .ok (.iinc 2 1, 3) := by decide +kernel
theorem dX7_keep_49 : decode cX7_keep 49 = .ok (.goto (-26), 3) := by decide +kernel
theorem dX7_keep_52 : decode cX7_keep 52 = .ok (.aload_n 0, 1) := by decide +kernel
theorem dX7_keep_53 : decode cX7_keep 53 = .ok (.getfield 16, 3) := by decide +kernel
theorem dX7_keep_56 : decode cX7_keep 56 = .ok (.iload_n 1, 1) := by decide +kernel
theorem dX7_keep_57 : decode cX7_keep 57 = .ok (.iconst 1, 1) := by decide +kernel
theorem dX7_keep_58 : decode cX7_keep 58 = .ok (.bastore, 1) := by decide +kernel
theorem dX7_keep_59 : decode cX7_keep 59 = .ok (.aload_n 0, 1) := by decide +kernel
theorem dX7_keep_60 : decode cX7_keep 60 = .ok (.getfield 7, 3) := by decide +kernel
theorem dX7_keep_63 : decode cX7_keep 63 = .ok (.bipush 35, 2) := by decide +kernel
theorem dX7_keep_65 : decode cX7_keep 65 = .ok (.iaload, 1) := by decide +kernel
theorem dX7_keep_66 : decode cX7_keep 66 = .ok (.ireturn, 1) := by decide +kernel
theorem dX7_on_0 : decode cX7_on 0 = .ok (.iload_n 1, 1) := by decide +kernel
theorem dX7_on_1 : decode cX7_on 1 = .ok (.invokestatic 188, 3) := by decide +kernel
theorem dX7_on_4 : decode cX7_on 4 = .ok (.ifCond .ne 5, 3) := by decide +kernel
theorem dX7_on_7 : decode cX7_on 7 = .ok (.iconst (-1), 1) := by decide +kernel
theorem dX7_on_8 : decode cX7_on 8 = .ok (.ireturn, 1) := by decide +kernel
theorem dX7_on_9 : decode cX7_on 9 = .ok (.aload_n 0, 1) := by decide +kernel
theorem dX7_on_10 : decode cX7_on 10 = .ok (.getfield 16, 3) := by decide +kernel
theorem dX7_on_13 : decode cX7_on 13 = .ok (.iload_n 1, 1) := by decide +kernel
theorem dX7_on_14 : decode cX7_on 14 = .ok (.baload, 1) := by decide +kernel
theorem dX7_on_15 : decode cX7_on 15 = .ok (.ifCond .ne 9, 3) := by decide +kernel
theorem dX7_on_18 : decode cX7_on 18 = .ok (.aload_n 0, 1) := by decide +kernel
theorem dX7_on_19 : decode cX7_on 19 = .ok (.iconst 1, 1) := by decide +kernel
theorem dX7_on_20 : decode cX7_on 20 = .ok (.invokevirtual 79, 3) := by decide +kernel
theorem dX7_on_23 : decode cX7_on 23 = .ok (.ireturn, 1) := by decide +kernel
theorem dX7_on_24 : decode cX7_on 24 = .ok (.iconst 0, 1) := by decide +kernel
theorem dX7_on_25 : decode cX7_on 25 = .ok (.istore_n 2, 1) := by decide +kernel
theorem dX7_on_26 : decode cX7_on 26 = .ok (.iload_n 2, 1) := by decide +kernel
theorem dX7_on_27 : decode cX7_on 27 = .ok (.bipush 85, 2) := by decide +kernel
theorem dX7_on_29 : decode cX7_on 29 = .ok (.if_icmp .ge 26, 3) := by decide +kernel
theorem dX7_on_32 : decode cX7_on 32 = .ok (.aload_n 0, 1) := by decide +kernel
theorem dX7_on_33 : decode cX7_on 33 = .ok (.getfield 7, 3) := by decide +kernel
theorem dX7_on_36 : decode cX7_on 36 = .ok (.iload_n 2, 1) := by decide +kernel
theorem dX7_on_37 : decode cX7_on 37 = .ok (.aload_n 0, 1) := by decide +kernel
theorem dX7_on_38 : decode cX7_on 38 = .ok (.getfield 13, 3) := by decide +kernel
theorem dX7_on_41 : decode cX7_on 41 = .ok (.bipush 85, 2) := by decide +kernel
theorem dX7_on_43 : decode cX7_on 43 = .ok (.iload_n 1, 1) := by decide +kernel
theorem dX7_on_44 : decode cX7_on 44 = .ok (.imul, 1) := by decide +kernel
theorem dX7_on_45 : decode cX7_on 45 = .ok (.iload_n 2, 1) := by decide +kernel
theorem dX7_on_46 : decode cX7_on 46 = .ok (.iadd, 1) := by decide +kernel
theorem dX7_on_47 : decode cX7_on 47 = .ok (.iaload, 1) := by decide +kernel
theorem dX7_on_48 : decode cX7_on 48 = .ok (.iastore, 1) := by decide +kernel
theorem dX7_on_49 : decode cX7_on 49 = .ok (.iinc 2 1, 3) := by decide +kernel
theorem dX7_on_52 : decode cX7_on 52 = .ok (.goto (-26), 3) := by decide +kernel
theorem dX7_on_55 : decode cX7_on 55 = .ok (.aload_n 0, 1) := by decide +kernel
theorem dX7_on_56 : decode cX7_on 56 = .ok (.getfield 7, 3) := by decide +kernel
theorem dX7_on_59 : decode cX7_on 59 = .ok (.bipush 35, 2) := by decide +kernel
theorem dX7_on_61 : decode cX7_on 61 = .ok (.iaload, 1) := by decide +kernel
theorem dX7_on_62 : decode cX7_on 62 = .ok (.ireturn, 1) := by decide +kernel
theorem dX7_layHand_0 : decode cX7_layHand 0 = .ok (.iconst 0, 1) := by decide +kernel
theorem dX7_layHand_1 : decode cX7_layHand 1 = .ok (.istore_n 1, 1) := by decide +kernel
theorem dX7_layHand_2 : decode cX7_layHand 2 = .ok (.iload_n 1, 1) := by decide +kernel
theorem dX7_layHand_3 : decode cX7_layHand 3 = .ok (.bipush 85, 2) := by decide +kernel
theorem dX7_layHand_5 : decode cX7_layHand 5 = .ok (.if_icmp .ge 21, 3) := by decide +kernel
theorem dX7_layHand_8 : decode cX7_layHand 8 = .ok (.aload_n 0, 1) := by decide +kernel
theorem dX7_layHand_9 : decode cX7_layHand 9 = .ok (.getfield 45, 3) := by decide +kernel
theorem dX7_layHand_12 : decode cX7_layHand 12 = .ok (.iload_n 1, 1) := by decide +kernel
theorem dX7_layHand_13 : decode cX7_layHand 13 = .ok (.aload_n 0, 1) := by decide +kernel
theorem dX7_layHand_14 : decode cX7_layHand 14 = .ok (.getfield 7, 3) := by decide +kernel
theorem dX7_layHand_17 : decode cX7_layHand 17 = .ok (.iload_n 1, 1) := by decide +kernel
theorem dX7_layHand_18 : decode cX7_layHand 18 = .ok (.iaload, 1) := by decide +kernel
theorem dX7_layHand_19 : decode cX7_layHand 19 = .ok (.iastore, 1) := by decide +kernel
theorem dX7_layHand_20 : decode cX7_layHand 20 = .ok (.iinc 1 1, 3) := by decide +kernel
theorem dX7_layHand_23 : decode cX7_layHand 23 = .ok (.goto (-21), 3) := by decide +kernel
theorem dX7_layHand_26 : decode cX7_layHand 26 = .ok (.return_, 1) := by decide +kernel
theorem dX7_passes_0 : decode cX7_passes 0 = .ok (.aload_n 0, 1) := by decide +kernel
theorem dX7_passes_1 : decode cX7_passes 1 = .ok (.iload_n 1, 1) := by decide +kernel
theorem dX7_passes_2 : decode cX7_passes 2 = .ok (.invokevirtual 155, 3) := by decide +kernel
theorem dX7_passes_5 : decode cX7_passes 5 = .ok (.ifCond .eq 30, 3) := by decide +kernel
theorem dX7_passes_8 : decode cX7_passes 8 = .ok (.iload_n 2, 1) := by decide +kernel
theorem dX7_passes_9 : decode cX7_passes 9 = .ok (.i2l, 1) := by decide +kernel
theorem dX7_passes_10 : decode cX7_passes 10 = .ok (.lconst 0, 1) := by decide +kernel
theorem dX7_passes_11 : decode cX7_passes 11 = .ok (.ldc2_w 191, 3) := by decide +kernel
theorem dX7_passes_14 : decode cX7_passes 14 = .ok (.invokestatic 69, 3) := by decide +kernel
theorem dX7_passes_17 : decode cX7_passes 17 = .ok (.ifCond .eq 18, 3) := by decide +kernel
theorem dX7_passes_20 : decode cX7_passes 20 = .ok (.aload_n 0, 1) := by decide +kernel
theorem dX7_passes_21 : decode cX7_passes 21 = .ok (.getfield 7, 3) := by decide +kernel
theorem dX7_passes_24 : decode cX7_passes 24 = .ok (.iconst 2, 1) := by decide +kernel
theorem dX7_passes_25 : decode cX7_passes 25 = .ok (.iload_n 1, 1) := by decide +kernel
theorem dX7_passes_26 : decode cX7_passes 26 = .ok (.iadd, 1) := by decide +kernel
theorem dX7_passes_27 : decode cX7_passes 27 = .ok (.iaload, 1) := by decide +kernel
theorem dX7_passes_28 : decode cX7_passes 28 = .ok (.iload_n 2, 1) := by decide +kernel
theorem dX7_passes_29 : decode cX7_passes 29 = .ok (.invokestatic 140, 3) := by decide +kernel
theorem dX7_passes_32 : decode cX7_passes 32 = .ok (.goto 4, 3) := by decide +kernel
theorem dX7_passes_35 : decode cX7_passes 35 = .ok (.iconst (-1), 1) := by decide +kernel
theorem dX7_passes_36 : decode cX7_passes 36 = .ok (.ireturn, 1) := by decide +kernel
theorem dX7_moves_0 : decode cX7_moves 0 = .ok (.aload_n 0, 1) := by decide +kernel
theorem dX7_moves_1 : decode cX7_moves 1 = .ok (.iload_n 1, 1) := by decide +kernel
theorem dX7_moves_2 : decode cX7_moves 2 = .ok (.invokevirtual 155, 3) := by decide +kernel
theorem dX7_moves_5 : decode cX7_moves 5 = .ok (.ifCond .eq 15, 3) := by decide +kernel
theorem dX7_moves_8 : decode cX7_moves 8 = .ok (.iload_n 2, 1) := by decide +kernel
theorem dX7_moves_9 : decode cX7_moves 9 = .ok (.i2l, 1) := by decide +kernel
theorem dX7_moves_10 : decode cX7_moves 10 = .ok (.lconst 1, 1) := by decide +kernel
theorem dX7_moves_11 : decode cX7_moves 11 = .ok (.ldc2_w 180, 3) := by decide +kernel
theorem dX7_moves_14 : decode cX7_moves 14 = .ok (.invokestatic 69, 3) := by decide +kernel
theorem dX7_moves_17 : decode cX7_moves 17 = .ok (.ifCond .ne 5, 3) := by decide +kernel
theorem dX7_moves_20 : decode cX7_moves 20 = .ok (.iconst (-1), 1) := by decide +kernel
theorem dX7_moves_21 : decode cX7_moves 21 = .ok (.ireturn, 1) := by decide +kernel
theorem dX7_moves_22 : decode cX7_moves 22 = .ok (.aload_n 0, 1) := by decide +kernel
theorem dX7_moves_23 : decode cX7_moves 23 = .ok (.getfield 7, 3) := by decide +kernel
theorem dX7_moves_26 : decode cX7_moves 26 = .ok (.iload_n 1, 1) := by decide +kernel
theorem dX7_moves_27 : decode cX7_moves 27 = .ok (.invokestatic 143, 3) := by decide +kernel
theorem dX7_moves_30 : decode cX7_moves 30 = .ok (.ifCond .ne 6, 3) := by decide +kernel
theorem dX7_moves_33 : decode cX7_moves 33 = .ok (.bipush (-4), 2) := by decide +kernel
theorem dX7_moves_35 : decode cX7_moves 35 = .ok (.ireturn, 1) := by decide +kernel
theorem dX7_moves_36 : decode cX7_moves 36 = .ok (.aload_n 0, 1) := by decide +kernel
theorem dX7_moves_37 : decode cX7_moves 37 = .ok (.invokevirtual 193, 3) := by decide +kernel
theorem dX7_moves_40 : decode cX7_moves 40 = .ok (.aload_n 0, 1) := by decide +kernel
theorem dX7_moves_41 : decode cX7_moves 41 = .ok (.aload_n 0, 1) := by decide +kernel
theorem dX7_moves_42 : decode cX7_moves 42 = .ok (.getfield 45, 3) := by decide +kernel
theorem dX7_moves_45 : decode cX7_moves 45 = .ok (.iload_n 1, 1) := by decide +kernel
theorem dX7_moves_46 : decode cX7_moves 46 = .ok (.iload_n 2, 1) := by decide +kernel
theorem dX7_moves_47 : decode cX7_moves 47 = .ok (.invokevirtual 147, 3) := by decide +kernel
theorem dX7_moves_50 : decode cX7_moves 50 = .ok (.istore_n 3, 1) := by decide +kernel
theorem dX7_moves_51 : decode cX7_moves 51 = .ok (.aload_n 0, 1) := by decide +kernel
theorem dX7_moves_52 : decode cX7_moves 52 = .ok (.aload_n 0, 1) := by decide +kernel
theorem dX7_moves_53 : decode cX7_moves 53 = .ok (.getfield 133, 3) := by decide +kernel
theorem dX7_moves_56 : decode cX7_moves 56 = .ok (.invokevirtual 87, 3) := by decide +kernel
theorem dX7_moves_59 : decode cX7_moves 59 = .ok (.istore 4, 2) := by decide +kernel
theorem dX7_moves_61 : decode cX7_moves 61 = .ok (.iload_n 3, 1) := by decide +kernel
theorem dX7_moves_62 : decode cX7_moves 62 = .ok (.ireturn, 1) := by decide +kernel
theorem dX7_parts_0 : decode cX7_parts 0 = .ok (.aload_n 0, 1) := by decide +kernel
theorem dX7_parts_1 : decode cX7_parts 1 = .ok (.iload_n 1, 1) := by decide +kernel
theorem dX7_parts_2 : decode cX7_parts 2 = .ok (.invokevirtual 155, 3) := by decide +kernel
theorem dX7_parts_5 : decode cX7_parts 5 = .ok (.ifCond .ne 5, 3) := by decide +kernel
theorem dX7_parts_8 : decode cX7_parts 8 = .ok (.iconst (-1), 1) := by decide +kernel
theorem dX7_parts_9 : decode cX7_parts 9 = .ok (.ireturn, 1) := by decide +kernel
theorem dX7_parts_10 : decode cX7_parts 10 = .ok (.aload_n 0, 1) := by decide +kernel
theorem dX7_parts_11 : decode cX7_parts 11 = .ok (.getfield 7, 3) := by decide +kernel
theorem dX7_parts_14 : decode cX7_parts 14 = .ok (.iload_n 1, 1) := by decide +kernel
theorem dX7_parts_15 : decode cX7_parts 15 = .ok (.invokestatic 143, 3) := by decide +kernel
theorem dX7_parts_18 : decode cX7_parts 18 = .ok (.ifCond .ne 6, 3) := by decide +kernel
theorem dX7_parts_21 : decode cX7_parts 21 = .ok (.bipush (-4), 2) := by decide +kernel
theorem dX7_parts_23 : decode cX7_parts 23 = .ok (.ireturn, 1) := by decide +kernel
theorem dX7_parts_24 : decode cX7_parts 24 = .ok (.iconst 1, 1) := by decide +kernel
theorem dX7_parts_25 : decode cX7_parts 25 = .ok (.istore_n 2, 1) := by decide +kernel
theorem dX7_parts_26 : decode cX7_parts 26 = .ok (.iload_n 2, 1) := by decide +kernel
theorem dX7_parts_27 : decode cX7_parts 27 = .ok (.bipush 20, 2) := by decide +kernel
theorem dX7_parts_29 : decode cX7_parts 29 = .ok (.if_icmp .gt 45, 3) := by decide +kernel
theorem dX7_parts_32 : decode cX7_parts 32 = .ok (.aload_n 0, 1) := by decide +kernel
theorem dX7_parts_33 : decode cX7_parts 33 = .ok (.invokevirtual 193, 3) := by decide +kernel
theorem dX7_parts_36 : decode cX7_parts 36 = .ok (.aload_n 0, 1) := by decide +kernel
theorem dX7_parts_37 : decode cX7_parts 37 = .ok (.aload_n 0, 1) := by decide +kernel
theorem dX7_parts_38 : decode cX7_parts 38 = .ok (.getfield 45, 3) := by decide +kernel
theorem dX7_parts_41 : decode cX7_parts 41 = .ok (.iload_n 1, 1) := by decide +kernel
theorem dX7_parts_42 : decode cX7_parts 42 = .ok (.iload_n 2, 1) := by decide +kernel
theorem dX7_parts_43 : decode cX7_parts 43 = .ok (.invokevirtual 147, 3) := by decide +kernel
theorem dX7_parts_46 : decode cX7_parts 46 = .ok (.istore_n 3, 1) := by decide +kernel
theorem dX7_parts_47 : decode cX7_parts 47 = .ok (.aload_n 0, 1) := by decide +kernel
theorem dX7_parts_48 : decode cX7_parts 48 = .ok (.getfield 133, 3) := by decide +kernel
theorem dX7_parts_51 : decode cX7_parts 51 = .ok (.bipush (-9), 2) := by decide +kernel
theorem dX7_parts_53 : decode cX7_parts 53 = .ok (.if_icmp .eq 15, 3) := by decide +kernel
theorem dX7_parts_56 : decode cX7_parts 56 = .ok (.aload_n 0, 1) := by decide +kernel
theorem dX7_parts_57 : decode cX7_parts 57 = .ok (.aload_n 0, 1) := by decide +kernel
theorem dX7_parts_58 : decode cX7_parts 58 = .ok (.getfield 133, 3) := by decide +kernel
theorem dX7_parts_61 : decode cX7_parts 61 = .ok (.invokevirtual 87, 3) := by decide +kernel
theorem dX7_parts_64 : decode cX7_parts 64 = .ok (.istore 4, 2) := by decide +kernel
theorem dX7_parts_66 : decode cX7_parts 66 = .ok (.iload_n 2, 1) := by decide +kernel
theorem dX7_parts_67 : decode cX7_parts 67 = .ok (.ireturn, 1) := by decide +kernel
theorem dX7_parts_68 : decode cX7_parts 68 = .ok (.iinc 2 1, 3) := by decide +kernel
theorem dX7_parts_71 : decode cX7_parts 71 = .ok (.goto (-45), 3) := by decide +kernel
theorem dX7_parts_74 : decode cX7_parts 74 = .ok (.bipush (-9), 2) := by decide +kernel
theorem dX7_parts_76 : decode cX7_parts 76 = .ok (.ireturn, 1) := by decide +kernel
theorem dX7_isLawful_0 : decode cX7_isLawful 0 = .ok (.iconst 1, 1) := by decide +kernel
theorem dX7_isLawful_1 : decode cX7_isLawful 1 = .ok (.aload_n 0, 1) := by decide +kernel
theorem dX7_isLawful_2 : decode cX7_isLawful 2 = .ok (.iconst 0, 1) := by decide +kernel
theorem dX7_isLawful_3 : decode cX7_isLawful 3 = .ok (.iaload, 1) := by decide +kernel
theorem dX7_isLawful_4 : decode cX7_isLawful 4 = .ok (.ishl, 1) := by decide +kernel
theorem dX7_isLawful_5 : decode cX7_isLawful 5 = .ok (.iconst 1, 1) := by decide +kernel
theorem dX7_isLawful_6 : decode cX7_isLawful 6 = .ok (.isub, 1) := by decide +kernel
theorem dX7_isLawful_7 : decode cX7_isLawful 7 = .ok (.istore_n 3, 1) := by decide +kernel
theorem dX7_isLawful_8 : decode cX7_isLawful 8 = .ok (.aload_n 0, 1) := by decide +kernel
theorem dX7_isLawful_9 : decode cX7_isLawful 9 = .ok (.bipush 27, 2) := by decide +kernel
theorem dX7_isLawful_11 : decode cX7_isLawful 11 = .ok (.iload_n 1, 1) := by decide +kernel
theorem dX7_isLawful_12 : decode cX7_isLawful 12 = .ok (.iadd, 1) := by decide +kernel
theorem dX7_isLawful_13 : decode cX7_isLawful 13 = .ok (.iaload, 1) := by decide +kernel
theorem dX7_isLawful_14 : decode cX7_isLawful 14 = .ok (.iload_n 3, 1) := by decide +kernel
theorem dX7_isLawful_15 : decode cX7_isLawful 15 = .ok (.iand, 1) := by decide +kernel
theorem dX7_isLawful_16 : decode cX7_isLawful 16 = .ok (.istore 4, 2) := by decide +kernel
theorem dX7_isLawful_18 : decode cX7_isLawful 18 = .ok (.iload 4, 2) := by decide +kernel
theorem dX7_isLawful_20 : decode cX7_isLawful 20 = .ok (.iload_n 2, 1) := by decide +kernel
theorem dX7_isLawful_21 : decode cX7_isLawful 21 = .ok (.iconst (-1), 1) := by decide +kernel
theorem dX7_isLawful_22 : decode cX7_isLawful 22 = .ok (.ixor, 1) := by decide +kernel
theorem dX7_isLawful_23 : decode cX7_isLawful 23 = .ok (.iand, 1) := by decide +kernel
theorem dX7_isLawful_24 : decode cX7_isLawful 24 = .ok (.ifCond .ne 18, 3) := by decide +kernel
theorem dX7_isLawful_27 : decode cX7_isLawful 27 = .ok (.aload_n 0, 1) := by decide +kernel
theorem dX7_isLawful_28 : decode cX7_isLawful 28 = .ok (.bipush 31, 2) := by decide +kernel
theorem dX7_isLawful_30 : decode cX7_isLawful 30 = .ok (.iload_n 1, 1) := by decide +kernel
theorem dX7_isLawful_31 : decode cX7_isLawful 31 = .ok (.iadd, 1) := by decide +kernel
theorem dX7_isLawful_32 : decode cX7_isLawful 32 = .ok (.iaload, 1) := by decide +kernel
theorem dX7_isLawful_33 : decode cX7_isLawful 33 = .ok (.iload_n 2, 1) := by decide +kernel
theorem dX7_isLawful_34 : decode cX7_isLawful 34 = .ok (.iand, 1) := by decide +kernel
theorem dX7_isLawful_35 : decode cX7_isLawful 35 = .ok (.ifCond .ne 7, 3) := by decide +kernel
theorem dX7_isLawful_38 : decode cX7_isLawful 38 = .ok (.iconst 1, 1) := by decide +kernel
theorem dX7_isLawful_39 : decode cX7_isLawful 39 = .ok (.goto 4, 3) := by decide +kernel
theorem dX7_isLawful_42 : decode cX7_isLawful 42 = .ok (.iconst 0, 1) := by decide +kernel
theorem dX7_isLawful_43 : decode cX7_isLawful 43 = .ok (.ireturn, 1) := by decide +kernel
theorem dX7_lawfulBy_0 : decode cX7_lawfulBy 0 = .ok (.iconst 0, 1) := by decide +kernel
theorem dX7_lawfulBy_1 : decode cX7_lawfulBy 1 = .ok (.istore_n 2, 1) := by decide +kernel
theorem dX7_lawfulBy_2 : decode cX7_lawfulBy 2 = .ok (.iconst 0, 1) := by decide +kernel
theorem dX7_lawfulBy_3 : decode cX7_lawfulBy 3 = .ok (.istore_n 3, 1) := by decide +kernel
theorem dX7_lawfulBy_4 : decode cX7_lawfulBy 4 = .ok (.iload_n 3, 1) := by decide +kernel
theorem dX7_lawfulBy_5 : decode cX7_lawfulBy 5 = .ok (.aload_n 0, 1) := by decide +kernel
theorem dX7_lawfulBy_6 : decode cX7_lawfulBy 6 = .ok (.iconst 1, 1) := by decide +kernel
theorem dX7_lawfulBy_7 : decode cX7_lawfulBy 7 = .ok (.iaload, 1) := by decide +kernel
theorem dX7_lawfulBy_8 : decode cX7_lawfulBy 8 = .ok (.if_icmp .ge 28, 3) := by decide +kernel
theorem dX7_lawfulBy_11 : decode cX7_lawfulBy 11 = .ok (.iload_n 2, 1) := by decide +kernel
theorem dX7_lawfulBy_12 : decode cX7_lawfulBy 12 = .ok (.aload_n 0, 1) := by decide +kernel
theorem dX7_lawfulBy_13 : decode cX7_lawfulBy 13 = .ok (.iload_n 3, 1) := by decide +kernel
theorem dX7_lawfulBy_14 : decode cX7_lawfulBy 14 = .ok (.iload_n 1, 1) := by decide +kernel
theorem dX7_lawfulBy_15 : decode cX7_lawfulBy 15 = .ok (.invokestatic 196, 3) := by decide +kernel
theorem dX7_lawfulBy_18 : decode cX7_lawfulBy 18 = .ok (.ifCond .eq 9, 3) := by decide +kernel
theorem dX7_lawfulBy_21 : decode cX7_lawfulBy 21 = .ok (.iconst 1, 1) := by decide +kernel
theorem dX7_lawfulBy_22 : decode cX7_lawfulBy 22 = .ok (.iload_n 3, 1) := by decide +kernel
theorem dX7_lawfulBy_23 : decode cX7_lawfulBy 23 = .ok (.ishl, 1) := by decide +kernel
theorem dX7_lawfulBy_24 : decode cX7_lawfulBy 24 = .ok (.goto 4, 3) := by decide +kernel
theorem dX7_lawfulBy_27 : decode cX7_lawfulBy 27 = .ok (.iconst 0, 1) := by decide +kernel
theorem dX7_lawfulBy_28 : decode cX7_lawfulBy 28 = .ok (.ior, 1) := by decide +kernel
theorem dX7_lawfulBy_29 : decode cX7_lawfulBy 29 = .ok (.istore_n 2, 1) := by decide +kernel
theorem dX7_lawfulBy_30 : decode cX7_lawfulBy 30 = .ok (.iinc 3 1, 3) := by decide +kernel
theorem dX7_lawfulBy_33 : decode cX7_lawfulBy 33 = .ok (.goto (-29), 3) := by decide +kernel
theorem dX7_lawfulBy_36 : decode cX7_lawfulBy 36 = .ok (.iload_n 2, 1) := by decide +kernel
theorem dX7_lawfulBy_37 : decode cX7_lawfulBy 37 = .ok (.ireturn, 1) := by decide +kernel
theorem dX7_lawful_0 : decode cX7_lawful 0 = .ok (.aload_n 0, 1) := by decide +kernel
theorem dX7_lawful_1 : decode cX7_lawful 1 = .ok (.getfield 7, 3) := by decide +kernel
theorem dX7_lawful_4 : decode cX7_lawful 4 = .ok (.iconst 0, 1) := by decide +kernel
theorem dX7_lawful_5 : decode cX7_lawful 5 = .ok (.iaload, 1) := by decide +kernel
theorem dX7_lawful_6 : decode cX7_lawful 6 = .ok (.ifCond .ne 8, 3) := by decide +kernel
theorem dX7_lawful_9 : decode cX7_lawful 9 = .ok (.bipush (-4), 2) := by decide +kernel
theorem dX7_lawful_11 : decode cX7_lawful 11 = .ok (.goto 17, 3) := by decide +kernel
theorem dX7_lawful_14 : decode cX7_lawful 14 = .ok (.aload_n 0, 1) := by decide +kernel
theorem dX7_lawful_15 : decode cX7_lawful 15 = .ok (.getfield 7, 3) := by decide +kernel
theorem dX7_lawful_18 : decode cX7_lawful 18 = .ok (.aload_n 0, 1) := by decide +kernel
theorem dX7_lawful_19 : decode cX7_lawful 19 = .ok (.getfield 7, 3) := by decide +kernel
theorem dX7_lawful_22 : decode cX7_lawful 22 = .ok (.invokestatic 167, 3) := by decide +kernel
theorem dX7_lawful_25 : decode cX7_lawful 25 = .ok (.invokestatic 200, 3) := by decide +kernel
theorem dX7_lawful_28 : decode cX7_lawful 28 = .ok (.ireturn, 1) := by decide +kernel
theorem dX7_goes_0 : decode cX7_goes 0 = .ok (.iload_n 1, 1) := by decide +kernel
theorem dX7_goes_1 : decode cX7_goes 1 = .ok (.istore 4, 2) := by decide +kernel
theorem dX7_goes_3 : decode cX7_goes 3 = .ok (.iconst 1, 1) := by decide +kernel
theorem dX7_goes_4 : decode cX7_goes 4 = .ok (.istore 5, 2) := by decide +kernel
theorem dX7_goes_6 : decode cX7_goes 6 = .ok (.iload_n 2, 1) := by decide +kernel
theorem dX7_goes_7 : decode cX7_goes 7 = .ok (.iconst 1, 1) := by decide +kernel
theorem dX7_goes_8 : decode cX7_goes 8 = .ok (.isub, 1) := by decide +kernel
theorem dX7_goes_9 : decode cX7_goes 9 = .ok (.istore 6, 2) := by decide +kernel
theorem dX7_goes_11 : decode cX7_goes 11 = .ok (.iload 6, 2) := by decide +kernel
theorem dX7_goes_13 : decode cX7_goes 13 = .ok (.ifCond .lt 28, 3) := by decide +kernel
theorem dX7_goes_16 : decode cX7_goes 16 = .ok (.aload_n 0, 1) := by decide +kernel
theorem dX7_goes_17 : decode cX7_goes 17 = .ok (.getfield 48, 3) := by decide +kernel
theorem dX7_goes_20 : decode cX7_goes 20 = .ok (.iload 6, 2) := by decide +kernel
theorem dX7_goes_22 : decode cX7_goes 22 = .ok (.iload 4, 2) := by decide +kernel
theorem dX7_goes_24 : decode cX7_goes 24 = .ok (.bipush 12, 2) := by decide +kernel
theorem dX7_goes_26 : decode cX7_goes 26 = .ok (.irem, 1) := by decide +kernel
theorem dX7_goes_27 : decode cX7_goes 27 = .ok (.iastore, 1) := by decide +kernel
theorem dX7_goes_28 : decode cX7_goes 28 = .ok (.iload 4, 2) := by decide +kernel
theorem dX7_goes_30 : decode cX7_goes 30 = .ok (.bipush 12, 2) := by decide +kernel
theorem dX7_goes_32 : decode cX7_goes 32 = .ok (.idiv, 1) := by decide +kernel
theorem dX7_goes_33 : decode cX7_goes 33 = .ok (.istore 4, 2) := by decide +kernel
theorem dX7_goes_35 : decode cX7_goes 35 = .ok (.iinc 6 (-1), 3) := by decide +kernel
theorem dX7_goes_38 : decode cX7_goes 38 = .ok (.goto (-27), 3) := by decide +kernel
theorem dX7_goes_41 : decode cX7_goes 41 = .ok (.aload_n 0, 1) := by decide +kernel
theorem dX7_goes_42 : decode cX7_goes 42 = .ok (.invokevirtual 193, 3) := by decide +kernel
theorem dX7_goes_45 : decode cX7_goes 45 = .ok (.iconst 0, 1) := by decide +kernel
theorem dX7_goes_46 : decode cX7_goes 46 = .ok (.istore 6, 2) := by decide +kernel
theorem dX7_goes_48 : decode cX7_goes 48 = .ok (.iload 6, 2) := by decide +kernel
theorem dX7_goes_50 : decode cX7_goes 50 = .ok (.iload_n 2, 1) := by decide +kernel
theorem dX7_goes_51 : decode cX7_goes 51 = .ok (.if_icmp .ge 119, 3) := by decide +kernel
theorem dX7_goes_54 : decode cX7_goes 54 = .ok (.iload 5, 2) := by decide +kernel
theorem dX7_goes_56 : decode cX7_goes 56 = .ok (.ifCond .eq 114, 3) := by decide +kernel
theorem dX7_goes_59 : decode cX7_goes 59 = .ok (.aload_n 0, 1) := by decide +kernel
theorem dX7_goes_60 : decode cX7_goes 60 = .ok (.getfield 48, 3) := by decide +kernel
theorem dX7_goes_63 : decode cX7_goes 63 = .ok (.iload 6, 2) := by decide +kernel
theorem dX7_goes_65 : decode cX7_goes 65 = .ok (.iaload, 1) := by decide +kernel
theorem dX7_goes_66 : decode cX7_goes 66 = .ok (.bipush 6, 2) := by decide +kernel
theorem dX7_goes_68 : decode cX7_goes 68 = .ok (.irem, 1) := by decide +kernel
theorem dX7_goes_69 : decode cX7_goes 69 = .ok (.istore 7, 2) := by decide +kernel
theorem dX7_goes_71 : decode cX7_goes 71 = .ok (.iload 7, 2) := by decide +kernel
theorem dX7_goes_73 : decode cX7_goes 73 = .ok (.aload_n 0, 1) := by decide +kernel
theorem dX7_goes_74 : decode cX7_goes 74 = .ok (.getfield 7, 3) := by decide +kernel
theorem dX7_goes_77 : decode cX7_goes 77 = .ok (.iconst 0, 1) := by decide +kernel
theorem dX7_goes_78 : decode cX7_goes 78 = .ok (.iaload, 1) := by decide +kernel
theorem dX7_goes_79 : decode cX7_goes 79 = .ok (.if_icmp .ge 19, 3) := by decide +kernel
theorem dX7_goes_82 : decode cX7_goes 82 = .ok (.aload_n 0, 1) := by decide +kernel
theorem dX7_goes_83 : decode cX7_goes 83 = .ok (.getfield 45, 3) := by decide +kernel
theorem dX7_goes_86 : decode cX7_goes 86 = .ok (.iload 7, 2) := by decide +kernel
theorem dX7_goes_88 : decode cX7_goes 88 = .ok (.invokestatic 143, 3) := by decide +kernel
theorem dX7_goes_91 : decode cX7_goes 91 = .ok (.ifCond .eq 7, 3) := by decide +kernel
theorem dX7_goes_94 : decode cX7_goes 94 = .ok (.iconst 1, 1) := by decide +kernel
theorem dX7_goes_95 : decode cX7_goes 95 = .ok (.goto 4, 3) := by decide +kernel
theorem dX7_goes_98 : decode cX7_goes 98 = .ok (.iconst 0, 1) := by decide +kernel
theorem dX7_goes_99 : decode cX7_goes 99 = .ok (.istore 5, 2) := by decide +kernel
theorem dX7_goes_101 : decode cX7_goes 101 = .ok (.iload 5, 2) := by decide +kernel
theorem dX7_goes_103 : decode cX7_goes 103 = .ok (.ifCond .eq 61, 3) := by decide +kernel
theorem dX7_goes_106 : decode cX7_goes 106 = .ok (.aload_n 0, 1) := by decide +kernel
theorem dX7_goes_107 : decode cX7_goes 107 = .ok (.aload_n 0, 1) := by decide +kernel
theorem dX7_goes_108 : decode cX7_goes 108 = .ok (.getfield 45, 3) := by decide +kernel
theorem dX7_goes_111 : decode cX7_goes 111 = .ok (.aload_n 0, 1) := by decide +kernel
theorem dX7_goes_112 : decode cX7_goes 112 = .ok (.getfield 48, 3) := by decide +kernel
theorem dX7_goes_115 : decode cX7_goes 115 = .ok (.iload 6, 2) := by decide +kernel
theorem dX7_goes_117 : decode cX7_goes 117 = .ok (.iaload, 1) := by decide +kernel
theorem dX7_goes_118 : decode cX7_goes 118 = .ok (.bipush 6, 2) := by decide +kernel
theorem dX7_goes_120 : decode cX7_goes 120 = .ok (.if_icmp .ge 11, 3) := by decide +kernel
theorem dX7_goes_123 : decode cX7_goes 123 = .ok (.bipush 110, 2) := by decide +kernel
theorem dX7_goes_125 : decode cX7_goes 125 = .ok (.iload 7, 2) := by decide +kernel
theorem dX7_goes_127 : decode cX7_goes 127 = .ok (.iadd, 1) := by decide +kernel
theorem dX7_goes_128 : decode cX7_goes 128 = .ok (.goto 9, 3) := by decide +kernel
theorem dX7_goes_131 : decode cX7_goes 131 = .ok (.sipush 200, 3) := by decide +kernel
theorem dX7_goes_134 : decode cX7_goes 134 = .ok (.iload 7, 2) := by decide +kernel
theorem dX7_goes_136 : decode cX7_goes 136 = .ok (.iadd, 1) := by decide +kernel
theorem dX7_goes_137 : decode cX7_goes 137 = .ok (.invokevirtual 151, 3) := by decide +kernel
theorem dX7_goes_140 : decode cX7_goes 140 = .ok (.aload_n 0, 1) := by decide +kernel
theorem dX7_goes_141 : decode cX7_goes 141 = .ok (.getfield 45, 3) := by decide +kernel
theorem dX7_goes_144 : decode cX7_goes 144 = .ok (.bipush 83, 2) := by decide +kernel
theorem dX7_goes_146 : decode cX7_goes 146 = .ok (.iaload, 1) := by decide +kernel
theorem dX7_goes_147 : decode cX7_goes 147 = .ok (.aload_n 0, 1) := by decide +kernel
theorem dX7_goes_148 : decode cX7_goes 148 = .ok (.getfield 7, 3) := by decide +kernel
theorem dX7_goes_151 : decode cX7_goes 151 = .ok (.bipush 83, 2) := by decide +kernel
theorem dX7_goes_153 : decode cX7_goes 153 = .ok (.iaload, 1) := by decide +kernel
theorem dX7_goes_154 : decode cX7_goes 154 = .ok (.if_icmp .ne 7, 3) := by decide +kernel
theorem dX7_goes_157 : decode cX7_goes 157 = .ok (.iconst 1, 1) := by decide +kernel
theorem dX7_goes_158 : decode cX7_goes 158 = .ok (.goto 4, 3) := by decide +kernel
theorem dX7_goes_161 : decode cX7_goes 161 = .ok (.iconst 0, 1) := by decide +kernel
theorem dX7_goes_162 : decode cX7_goes 162 = .ok (.istore 5, 2) := by decide +kernel
theorem dX7_goes_164 : decode cX7_goes 164 = .ok (.iinc 6 1, 3) := by decide +kernel
theorem dX7_goes_167 : decode cX7_goes 167 = .ok (.goto (-119), 3) := by decide +kernel
theorem dX7_goes_170 : decode cX7_goes 170 = .ok (.iload 5, 2) := by decide +kernel
theorem dX7_goes_172 : decode cX7_goes 172 = .ok (.ifCond .eq 25, 3) := by decide +kernel
theorem dX7_goes_175 : decode cX7_goes 175 = .ok (.aload_n 0, 1) := by decide +kernel
theorem dX7_goes_176 : decode cX7_goes 176 = .ok (.getfield 45, 3) := by decide +kernel
theorem dX7_goes_179 : decode cX7_goes 179 = .ok (.iload_n 3, 1) := by decide +kernel
theorem dX7_goes_180 : decode cX7_goes 180 = .ok (.aload_n 0, 1) := by decide +kernel
theorem dX7_goes_181 : decode cX7_goes 181 = .ok (.getfield 45, 3) := by decide +kernel
theorem dX7_goes_184 : decode cX7_goes 184 = .ok (.invokestatic 167, 3) := by decide +kernel
theorem dX7_goes_187 : decode cX7_goes 187 = .ok (.invokestatic 196, 3) := by decide +kernel
theorem dX7_goes_190 : decode cX7_goes 190 = .ok (.ifCond .eq 7, 3) := by decide +kernel
theorem dX7_goes_193 : decode cX7_goes 193 = .ok (.iconst 1, 1) := by decide +kernel
theorem dX7_goes_194 : decode cX7_goes 194 = .ok (.goto 4, 3) := by decide +kernel
theorem dX7_goes_197 : decode cX7_goes 197 = .ok (.iconst 0, 1) := by decide +kernel
theorem dX7_goes_198 : decode cX7_goes 198 = .ok (.ireturn, 1) := by decide +kernel
theorem dX7_least_0 : decode cX7_least 0 = .ok (.iload_n 1, 1) := by decide +kernel
theorem dX7_least_1 : decode cX7_least 1 = .ok (.i2l, 1) := by decide +kernel
theorem dX7_least_2 : decode cX7_least 2 = .ok (.lconst 0, 1) := by decide +kernel
theorem dX7_least_3 : decode cX7_least 3 = .ok (.aload_n 0, 1) := by decide +kernel
theorem dX7_least_4 : decode cX7_least 4 = .ok (.getfield 7, 3) := by decide +kernel
theorem dX7_least_7 : decode cX7_least 7 = .ok (.iconst 1, 1) := by decide +kernel
theorem dX7_least_8 : decode cX7_least 8 = .ok (.iaload, 1) := by decide +kernel
theorem dX7_least_9 : decode cX7_least 9 = .ok (.iconst 1, 1) := by decide +kernel
theorem dX7_least_10 : decode cX7_least 10 = .ok (.isub, 1) := by decide +kernel
theorem dX7_least_11 : decode cX7_least 11 = .ok (.i2l, 1) := by decide +kernel
theorem dX7_least_12 : decode cX7_least 12 = .ok (.invokestatic 69, 3) := by decide +kernel
theorem dX7_least_15 : decode cX7_least 15 = .ok (.ifCond .eq 10, 3) := by decide +kernel
theorem dX7_least_18 : decode cX7_least 18 = .ok (.iload_n 2, 1) := by decide +kernel
theorem dX7_least_19 : decode cX7_least 19 = .ok (.invokestatic 75, 3) := by decide +kernel
theorem dX7_least_22 : decode cX7_least 22 = .ok (.ifCond .ne 5, 3) := by decide +kernel
theorem dX7_least_25 : decode cX7_least 25 = .ok (.iconst (-1), 1) := by decide +kernel
theorem dX7_least_26 : decode cX7_least 26 = .ok (.ireturn, 1) := by decide +kernel
theorem dX7_least_27 : decode cX7_least 27 = .ok (.iconst 1, 1) := by decide +kernel
theorem dX7_least_28 : decode cX7_least 28 = .ok (.istore_n 3, 1) := by decide +kernel
theorem dX7_least_29 : decode cX7_least 29 = .ok (.iconst 0, 1) := by decide +kernel
theorem dX7_least_30 : decode cX7_least 30 = .ok (.istore 4, 2) := by decide +kernel
theorem dX7_least_32 : decode cX7_least 32 = .ok (.iload 4, 2) := by decide +kernel
theorem dX7_least_34 : decode cX7_least 34 = .ok (.iconst 4, 1) := by decide +kernel
theorem dX7_least_35 : decode cX7_least 35 = .ok (.if_icmp .gt 87, 3) := by decide +kernel
theorem dX7_least_38 : decode cX7_least 38 = .ok (.iconst 0, 1) := by decide +kernel
theorem dX7_least_39 : decode cX7_least 39 = .ok (.istore 5, 2) := by decide +kernel
theorem dX7_least_41 : decode cX7_least 41 = .ok (.iload 5, 2) := by decide +kernel
theorem dX7_least_43 : decode cX7_least 43 = .ok (.iload_n 3, 1) := by decide +kernel
theorem dX7_least_44 : decode cX7_least 44 = .ok (.if_icmp .ge 67, 3) := by decide +kernel
theorem dX7_least_47 : decode cX7_least 47 = .ok (.aload_n 0, 1) := by decide +kernel
theorem dX7_least_48 : decode cX7_least 48 = .ok (.iload 5, 2) := by decide +kernel
theorem dX7_least_50 : decode cX7_least 50 = .ok (.iload 4, 2) := by decide +kernel
theorem dX7_least_52 : decode cX7_least 52 = .ok (.iload_n 1, 1) := by decide +kernel
theorem dX7_least_53 : decode cX7_least 53 = .ok (.invokevirtual 203, 3) := by decide +kernel
theorem dX7_least_56 : decode cX7_least 56 = .ok (.ifCond .eq 49, 3) := by decide +kernel
theorem dX7_least_59 : decode cX7_least 59 = .ok (.aload_n 0, 1) := by decide +kernel
theorem dX7_least_60 : decode cX7_least 60 = .ok (.getfield 23, 3) := by decide +kernel
theorem dX7_least_63 : decode cX7_least 63 = .ok (.iload_n 2, 1) := by decide +kernel
theorem dX7_least_64 : decode cX7_least 64 = .ok (.iload 4, 2) := by decide +kernel
theorem dX7_least_66 : decode cX7_least 66 = .ok (.iastore, 1) := by decide +kernel
theorem dX7_least_67 : decode cX7_least 67 = .ok (.iconst 0, 1) := by decide +kernel
theorem dX7_least_68 : decode cX7_least 68 = .ok (.istore 6, 2) := by decide +kernel
theorem dX7_least_70 : decode cX7_least 70 = .ok (.iload 6, 2) := by decide +kernel
theorem dX7_least_72 : decode cX7_least 72 = .ok (.iload 4, 2) := by decide +kernel
theorem dX7_least_74 : decode cX7_least 74 = .ok (.if_icmp .ge 28, 3) := by decide +kernel
theorem dX7_least_77 : decode cX7_least 77 = .ok (.aload_n 0, 1) := by decide +kernel
theorem dX7_least_78 : decode cX7_least 78 = .ok (.getfield 20, 3) := by decide +kernel
theorem dX7_least_81 : decode cX7_least 81 = .ok (.bipush 40, 2) := by decide +kernel
theorem dX7_least_83 : decode cX7_least 83 = .ok (.iload_n 2, 1) := by decide +kernel
theorem dX7_least_84 : decode cX7_least 84 = .ok (.imul, 1) := by decide +kernel
theorem dX7_least_85 : decode cX7_least 85 = .ok (.iload 6, 2) := by decide +kernel
theorem dX7_least_87 : decode cX7_least 87 = .ok (.iadd, 1) := by decide +kernel
theorem dX7_least_88 : decode cX7_least 88 = .ok (.aload_n 0, 1) := by decide +kernel
theorem dX7_least_89 : decode cX7_least 89 = .ok (.getfield 48, 3) := by decide +kernel
theorem dX7_least_92 : decode cX7_least 92 = .ok (.iload 6, 2) := by decide +kernel
theorem dX7_least_94 : decode cX7_least 94 = .ok (.iaload, 1) := by decide +kernel
theorem dX7_least_95 : decode cX7_least 95 = .ok (.iastore, 1) := by decide +kernel
theorem dX7_least_96 : decode cX7_least 96 = .ok (.iinc 6 1, 3) := by decide +kernel
theorem dX7_least_99 : decode cX7_least 99 = .ok (.goto (-29), 3) := by decide +kernel
theorem dX7_least_102 : decode cX7_least 102 = .ok (.iload 4, 2) := by decide +kernel
theorem dX7_least_104 : decode cX7_least 104 = .ok (.ireturn, 1) := by decide +kernel
theorem dX7_least_105 : decode cX7_least 105 = .ok (.iinc 5 1, 3) := by decide +kernel
theorem dX7_least_108 : decode cX7_least 108 = .ok (.goto (-67), 3) := by decide +kernel
theorem dX7_least_111 : decode cX7_least 111 = .ok (.iload_n 3, 1) := by decide +kernel
theorem dX7_least_112 : decode cX7_least 112 = .ok (.bipush 12, 2) := by decide +kernel
theorem dX7_least_114 : decode cX7_least 114 = .ok (.imul, 1) := by decide +kernel
theorem dX7_least_115 : decode cX7_least 115 = .ok (.istore_n 3, 1) := by decide +kernel
theorem dX7_least_116 : decode cX7_least 116 = .ok (.iinc 4 1, 3) := by decide +kernel
theorem dX7_least_119 : decode cX7_least 119 = .ok (.goto (-87), 3) := by decide +kernel
theorem dX7_least_122 : decode cX7_least 122 = .ok (.bipush (-9), 2) := by decide +kernel
theorem dX7_least_124 : decode cX7_least 124 = .ok (.ireturn, 1) := by decide +kernel
theorem dX7_fall_0 : decode cX7_fall 0 = .ok (.aload_n 0, 1) := by decide +kernel
theorem dX7_fall_1 : decode cX7_fall 1 = .ok (.getfield 7, 3) := by decide +kernel
theorem dX7_fall_4 : decode cX7_fall 4 = .ok (.iconst 0, 1) := by decide +kernel
theorem dX7_fall_5 : decode cX7_fall 5 = .ok (.iaload, 1) := by decide +kernel
theorem dX7_fall_6 : decode cX7_fall 6 = .ok (.ifCond .ne 6, 3) := by decide +kernel
theorem dX7_fall_9 : decode cX7_fall 9 = .ok (.bipush (-4), 2) := by decide +kernel
theorem dX7_fall_11 : decode cX7_fall 11 = .ok (.ireturn, 1) := by decide +kernel
theorem dX7_fall_12 : decode cX7_fall 12 = .ok (.bipush (-9), 2) := by decide +kernel
theorem dX7_fall_14 : decode cX7_fall 14 = .ok (.istore_n 1, 1) := by decide +kernel
theorem dX7_fall_15 : decode cX7_fall 15 = .ok (.iconst 0, 1) := by decide +kernel
theorem dX7_fall_16 : decode cX7_fall 16 = .ok (.istore_n 2, 1) := by decide +kernel
theorem dX7_fall_17 : decode cX7_fall 17 = .ok (.iload_n 2, 1) := by decide +kernel
theorem dX7_fall_18 : decode cX7_fall 18 = .ok (.iconst 1, 1) := by decide +kernel
theorem dX7_fall_19 : decode cX7_fall 19 = .ok (.aload_n 0, 1) := by decide +kernel
theorem dX7_fall_20 : decode cX7_fall 20 = .ok (.getfield 7, 3) := by decide +kernel
theorem dX7_fall_23 : decode cX7_fall 23 = .ok (.iconst 0, 1) := by decide +kernel
theorem dX7_fall_24 : decode cX7_fall 24 = .ok (.iaload, 1) := by decide +kernel
theorem dX7_fall_25 : decode cX7_fall 25 = .ok (.ishl, 1) := by decide +kernel
theorem dX7_fall_26 : decode cX7_fall 26 = .ok (.if_icmp .ge 75, 3) := by decide +kernel
theorem dX7_fall_29 : decode cX7_fall 29 = .ok (.iload_n 2, 1) := by decide +kernel
theorem dX7_fall_30 : decode cX7_fall 30 = .ok (.aload_n 0, 1) := by decide +kernel
theorem dX7_fall_31 : decode cX7_fall 31 = .ok (.getfield 7, 3) := by decide +kernel
theorem dX7_fall_34 : decode cX7_fall 34 = .ok (.bipush 83, 2) := by decide +kernel
theorem dX7_fall_36 : decode cX7_fall 36 = .ok (.iaload, 1) := by decide +kernel
theorem dX7_fall_37 : decode cX7_fall 37 = .ok (.iand, 1) := by decide +kernel
theorem dX7_fall_38 : decode cX7_fall 38 = .ok (.ifCond .ne 28, 3) := by decide +kernel
theorem dX7_fall_41 : decode cX7_fall 41 = .ok (.aload_n 0, 1) := by decide +kernel
theorem dX7_fall_42 : decode cX7_fall 42 = .ok (.getfield 7, 3) := by decide +kernel
theorem dX7_fall_45 : decode cX7_fall 45 = .ok (.aload_n 0, 1) := by decide +kernel
theorem dX7_fall_46 : decode cX7_fall 46 = .ok (.getfield 7, 3) := by decide +kernel
theorem dX7_fall_49 : decode cX7_fall 49 = .ok (.invokestatic 167, 3) := by decide +kernel
theorem dX7_fall_52 : decode cX7_fall 52 = .ok (.iload_n 2, 1) := by decide +kernel
theorem dX7_fall_53 : decode cX7_fall 53 = .ok (.iconst (-1), 1) := by decide +kernel
theorem dX7_fall_54 : decode cX7_fall 54 = .ok (.ixor, 1) := by decide +kernel
theorem dX7_fall_55 : decode cX7_fall 55 = .ok (.iand, 1) := by decide +kernel
theorem dX7_fall_56 : decode cX7_fall 56 = .ok (.invokestatic 200, 3) := by decide +kernel
theorem dX7_fall_59 : decode cX7_fall 59 = .ok (.ifCond .ne 7, 3) := by decide +kernel
theorem dX7_fall_62 : decode cX7_fall 62 = .ok (.iconst 1, 1) := by decide +kernel
theorem dX7_fall_63 : decode cX7_fall 63 = .ok (.goto 4, 3) := by decide +kernel
theorem dX7_fall_66 : decode cX7_fall 66 = .ok (.iconst 0, 1) := by decide +kernel
theorem dX7_fall_67 : decode cX7_fall 67 = .ok (.istore_n 3, 1) := by decide +kernel
theorem dX7_fall_68 : decode cX7_fall 68 = .ok (.iload_n 3, 1) := by decide +kernel
theorem dX7_fall_69 : decode cX7_fall 69 = .ok (.ifCond .eq 24, 3) := by decide +kernel
theorem dX7_fall_72 : decode cX7_fall 72 = .ok (.iload_n 1, 1) := by decide +kernel
theorem dX7_fall_73 : decode cX7_fall 73 = .ok (.bipush (-9), 2) := by decide +kernel
theorem dX7_fall_75 : decode cX7_fall 75 = .ok (.if_icmp .eq 14, 3) := by decide +kernel
theorem dX7_fall_78 : decode cX7_fall 78 = .ok (.iload_n 2, 1) := by decide +kernel
theorem dX7_fall_79 : decode cX7_fall 79 = .ok (.invokestatic 171, 3) := by decide +kernel
theorem dX7_fall_82 : decode cX7_fall 82 = .ok (.iload_n 1, 1) := by decide +kernel
theorem dX7_fall_83 : decode cX7_fall 83 = .ok (.invokestatic 171, 3) := by decide +kernel
theorem dX7_fall_86 : decode cX7_fall 86 = .ok (.if_icmp .ge 7, 3) := by decide +kernel
theorem dX7_fall_89 : decode cX7_fall 89 = .ok (.iload_n 2, 1) := by decide +kernel
theorem dX7_fall_90 : decode cX7_fall 90 = .ok (.goto 4, 3) := by decide +kernel
theorem dX7_fall_93 : decode cX7_fall 93 = .ok (.iload_n 1, 1) := by decide +kernel
theorem dX7_fall_94 : decode cX7_fall 94 = .ok (.istore_n 1, 1) := by decide +kernel
theorem dX7_fall_95 : decode cX7_fall 95 = .ok (.iinc 2 1, 3) := by decide +kernel
theorem dX7_fall_98 : decode cX7_fall 98 = .ok (.goto (-81), 3) := by decide +kernel
theorem dX7_fall_101 : decode cX7_fall 101 = .ok (.iload_n 1, 1) := by decide +kernel
theorem dX7_fall_102 : decode cX7_fall 102 = .ok (.bipush (-9), 2) := by decide +kernel
theorem dX7_fall_104 : decode cX7_fall 104 = .ok (.if_icmp .ne 7, 3) := by decide +kernel
theorem dX7_fall_107 : decode cX7_fall 107 = .ok (.iconst 0, 1) := by decide +kernel
theorem dX7_fall_108 : decode cX7_fall 108 = .ok (.goto 8, 3) := by decide +kernel
theorem dX7_fall_111 : decode cX7_fall 111 = .ok (.aload_n 0, 1) := by decide +kernel
theorem dX7_fall_112 : decode cX7_fall 112 = .ok (.iload_n 1, 1) := by decide +kernel
theorem dX7_fall_113 : decode cX7_fall 113 = .ok (.invokevirtual 87, 3) := by decide +kernel
theorem dX7_fall_116 : decode cX7_fall 116 = .ok (.istore_n 2, 1) := by decide +kernel
theorem dX7_fall_117 : decode cX7_fall 117 = .ok (.iload_n 1, 1) := by decide +kernel
theorem dX7_fall_118 : decode cX7_fall 118 = .ok (.bipush (-9), 2) := by decide +kernel
theorem dX7_fall_120 : decode cX7_fall 120 = .ok (.if_icmp .ne 8, 3) := by decide +kernel
theorem dX7_fall_123 : decode cX7_fall 123 = .ok (.bipush (-9), 2) := by decide +kernel
theorem dX7_fall_125 : decode cX7_fall 125 = .ok (.goto 7, 3) := by decide +kernel
theorem dX7_fall_128 : decode cX7_fall 128 = .ok (.iload_n 1, 1) := by decide +kernel
theorem dX7_fall_129 : decode cX7_fall 129 = .ok (.invokestatic 171, 3) := by decide +kernel
theorem dX7_fall_132 : decode cX7_fall 132 = .ok (.ireturn, 1) := by decide +kernel
theorem dX7_idle_0 : decode cX7_idle 0 = .ok (.aload_n 0, 1) := by decide +kernel
theorem dX7_idle_1 : decode cX7_idle 1 = .ok (.getfield 7, 3) := by decide +kernel
theorem dX7_idle_4 : decode cX7_idle 4 = .ok (.iconst 0, 1) := by decide +kernel
theorem dX7_idle_5 : decode cX7_idle 5 = .ok (.iaload, 1) := by decide +kernel
theorem dX7_idle_6 : decode cX7_idle 6 = .ok (.ifCond .ne 6, 3) := by decide +kernel
theorem dX7_idle_9 : decode cX7_idle 9 = .ok (.bipush (-4), 2) := by decide +kernel
theorem dX7_idle_11 : decode cX7_idle 11 = .ok (.ireturn, 1) := by decide +kernel
theorem dX7_idle_12 : decode cX7_idle 12 = .ok (.iconst 0, 1) := by decide +kernel
theorem dX7_idle_13 : decode cX7_idle 13 = .ok (.istore_n 1, 1) := by decide +kernel
theorem dX7_idle_14 : decode cX7_idle 14 = .ok (.aload_n 0, 1) := by decide +kernel
theorem dX7_idle_15 : decode cX7_idle 15 = .ok (.getfield 7, 3) := by decide +kernel
theorem dX7_idle_18 : decode cX7_idle 18 = .ok (.aload_n 0, 1) := by decide +kernel
theorem dX7_idle_19 : decode cX7_idle 19 = .ok (.getfield 7, 3) := by decide +kernel
theorem dX7_idle_22 : decode cX7_idle 22 = .ok (.invokestatic 167, 3) := by decide +kernel
theorem dX7_idle_25 : decode cX7_idle 25 = .ok (.invokestatic 200, 3) := by decide +kernel
theorem dX7_idle_28 : decode cX7_idle 28 = .ok (.istore_n 2, 1) := by decide +kernel
theorem dX7_idle_29 : decode cX7_idle 29 = .ok (.iconst 0, 1) := by decide +kernel
theorem dX7_idle_30 : decode cX7_idle 30 = .ok (.istore_n 3, 1) := by decide +kernel
theorem dX7_idle_31 : decode cX7_idle 31 = .ok (.iload_n 3, 1) := by decide +kernel
theorem dX7_idle_32 : decode cX7_idle 32 = .ok (.aload_n 0, 1) := by decide +kernel
theorem dX7_idle_33 : decode cX7_idle 33 = .ok (.getfield 7, 3) := by decide +kernel
theorem dX7_idle_36 : decode cX7_idle 36 = .ok (.iconst 0, 1) := by decide +kernel
theorem dX7_idle_37 : decode cX7_idle 37 = .ok (.iaload, 1) := by decide +kernel
theorem dX7_idle_38 : decode cX7_idle 38 = .ok (.if_icmp .ge 57, 3) := by decide +kernel
theorem dX7_idle_41 : decode cX7_idle 41 = .ok (.iload_n 1, 1) := by decide +kernel
theorem dX7_idle_42 : decode cX7_idle 42 = .ok (.aload_n 0, 1) := by decide +kernel
theorem dX7_idle_43 : decode cX7_idle 43 = .ok (.getfield 7, 3) := by decide +kernel
theorem dX7_idle_46 : decode cX7_idle 46 = .ok (.bipush 83, 2) := by decide +kernel
theorem dX7_idle_48 : decode cX7_idle 48 = .ok (.iaload, 1) := by decide +kernel
theorem dX7_idle_49 : decode cX7_idle 49 = .ok (.iload_n 3, 1) := by decide +kernel
theorem dX7_idle_50 : decode cX7_idle 50 = .ok (.invokestatic 130, 3) := by decide +kernel
theorem dX7_idle_53 : decode cX7_idle 53 = .ok (.ifCond .ne 33, 3) := by decide +kernel
theorem dX7_idle_56 : decode cX7_idle 56 = .ok (.aload_n 0, 1) := by decide +kernel
theorem dX7_idle_57 : decode cX7_idle 57 = .ok (.getfield 7, 3) := by decide +kernel
theorem dX7_idle_60 : decode cX7_idle 60 = .ok (.aload_n 0, 1) := by decide +kernel
theorem dX7_idle_61 : decode cX7_idle 61 = .ok (.getfield 7, 3) := by decide +kernel
theorem dX7_idle_64 : decode cX7_idle 64 = .ok (.invokestatic 167, 3) := by decide +kernel
theorem dX7_idle_67 : decode cX7_idle 67 = .ok (.iconst 1, 1) := by decide +kernel
theorem dX7_idle_68 : decode cX7_idle 68 = .ok (.iload_n 3, 1) := by decide +kernel
theorem dX7_idle_69 : decode cX7_idle 69 = .ok (.ishl, 1) := by decide +kernel
theorem dX7_idle_70 : decode cX7_idle 70 = .ok (.iconst (-1), 1) := by decide +kernel
theorem dX7_idle_71 : decode cX7_idle 71 = .ok (.ixor, 1) := by decide +kernel
theorem dX7_idle_72 : decode cX7_idle 72 = .ok (.iand, 1) := by decide +kernel
theorem dX7_idle_73 : decode cX7_idle 73 = .ok (.invokestatic 200, 3) := by decide +kernel
theorem dX7_idle_76 : decode cX7_idle 76 = .ok (.iload_n 2, 1) := by decide +kernel
theorem dX7_idle_77 : decode cX7_idle 77 = .ok (.if_icmp .ne 9, 3) := by decide +kernel
theorem dX7_idle_80 : decode cX7_idle 80 = .ok (.iconst 1, 1) := by decide +kernel
theorem dX7_idle_81 : decode cX7_idle 81 = .ok (.iload_n 3, 1) := by decide +kernel
theorem dX7_idle_82 : decode cX7_idle 82 = .ok (.ishl, 1) := by decide +kernel
theorem dX7_idle_83 : decode cX7_idle 83 = .ok (.goto 4, 3) := by decide +kernel
theorem dX7_idle_86 : decode cX7_idle 86 = .ok (.iconst 0, 1) := by decide +kernel
theorem dX7_idle_87 : decode cX7_idle 87 = .ok (.ior, 1) := by decide +kernel
theorem dX7_idle_88 : decode cX7_idle 88 = .ok (.istore_n 1, 1) := by decide +kernel
theorem dX7_idle_89 : decode cX7_idle 89 = .ok (.iinc 3 1, 3) := by decide +kernel
theorem dX7_idle_92 : decode cX7_idle 92 = .ok (.goto (-61), 3) := by decide +kernel
theorem dX7_idle_95 : decode cX7_idle 95 = .ok (.iload_n 1, 1) := by decide +kernel
theorem dX7_idle_96 : decode cX7_idle 96 = .ok (.ireturn, 1) := by decide +kernel
theorem dX7_share_0 : decode cX7_share 0 = .ok (.iload_n 1, 1) := by decide +kernel
theorem dX7_share_1 : decode cX7_share 1 = .ok (.i2l, 1) := by decide +kernel
theorem dX7_share_2 : decode cX7_share 2 = .ok (.lconst 0, 1) := by decide +kernel
theorem dX7_share_3 : decode cX7_share 3 = .ok (.ldc2_w 207, 3) := by decide +kernel
theorem dX7_share_6 : decode cX7_share 6 = .ok (.invokestatic 69, 3) := by decide +kernel
theorem dX7_share_9 : decode cX7_share 9 = .ok (.ifCond .eq 10, 3) := by decide +kernel
theorem dX7_share_12 : decode cX7_share 12 = .ok (.iload_n 2, 1) := by decide +kernel
theorem dX7_share_13 : decode cX7_share 13 = .ok (.invokestatic 75, 3) := by decide +kernel
theorem dX7_share_16 : decode cX7_share 16 = .ok (.ifCond .ne 5, 3) := by decide +kernel
theorem dX7_share_19 : decode cX7_share 19 = .ok (.iconst (-1), 1) := by decide +kernel
theorem dX7_share_20 : decode cX7_share 20 = .ok (.ireturn, 1) := by decide +kernel
theorem dX7_share_21 : decode cX7_share 21 = .ok (.aload_n 0, 1) := by decide +kernel
theorem dX7_share_22 : decode cX7_share 22 = .ok (.getfield 7, 3) := by decide +kernel
theorem dX7_share_25 : decode cX7_share 25 = .ok (.iconst 0, 1) := by decide +kernel
theorem dX7_share_26 : decode cX7_share 26 = .ok (.iaload, 1) := by decide +kernel
theorem dX7_share_27 : decode cX7_share 27 = .ok (.ifCond .ne 6, 3) := by decide +kernel
theorem dX7_share_30 : decode cX7_share 30 = .ok (.bipush (-4), 2) := by decide +kernel
theorem dX7_share_32 : decode cX7_share 32 = .ok (.ireturn, 1) := by decide +kernel
theorem dX7_share_33 : decode cX7_share 33 = .ok (.iload_n 1, 1) := by decide +kernel
theorem dX7_share_34 : decode cX7_share 34 = .ok (.istore_n 3, 1) := by decide +kernel
theorem dX7_share_35 : decode cX7_share 35 = .ok (.iconst 1, 1) := by decide +kernel
theorem dX7_share_36 : decode cX7_share 36 = .ok (.istore 4, 2) := by decide +kernel
theorem dX7_share_38 : decode cX7_share 38 = .ok (.iconst 0, 1) := by decide +kernel
theorem dX7_share_39 : decode cX7_share 39 = .ok (.istore 5, 2) := by decide +kernel
theorem dX7_share_41 : decode cX7_share 41 = .ok (.iload 5, 2) := by decide +kernel
theorem dX7_share_43 : decode cX7_share 43 = .ok (.bipush 6, 2) := by decide +kernel
theorem dX7_share_45 : decode cX7_share 45 = .ok (.if_icmp .ge 17, 3) := by decide +kernel
theorem dX7_share_48 : decode cX7_share 48 = .ok (.aload_n 0, 1) := by decide +kernel
theorem dX7_share_49 : decode cX7_share 49 = .ok (.getfield 51, 3) := by decide +kernel
theorem dX7_share_52 : decode cX7_share 52 = .ok (.iload 5, 2) := by decide +kernel
theorem dX7_share_54 : decode cX7_share 54 = .ok (.iconst 0, 1) := by decide +kernel
theorem dX7_share_55 : decode cX7_share 55 = .ok (.iastore, 1) := by decide +kernel
theorem dX7_share_56 : decode cX7_share 56 = .ok (.iinc 5 1, 3) := by decide +kernel
theorem dX7_share_59 : decode cX7_share 59 = .ok (.goto (-18), 3) := by decide +kernel
theorem dX7_share_62 : decode cX7_share 62 = .ok (.iload_n 3, 1) := by decide +kernel
theorem dX7_share_63 : decode cX7_share 63 = .ok (.ifCond .le 149, 3) := by decide +kernel
theorem dX7_share_66 : decode cX7_share 66 = .ok (.iload 4, 2) := by decide +kernel
theorem dX7_share_68 : decode cX7_share 68 = .ok (.ifCond .eq 144, 3) := by decide +kernel
theorem dX7_share_71 : decode cX7_share 71 = .ok (.bipush (-9), 2) := by decide +kernel
theorem dX7_share_73 : decode cX7_share 73 = .ok (.istore 5, 2) := by decide +kernel
theorem dX7_share_75 : decode cX7_share 75 = .ok (.iconst 0, 1) := by decide +kernel
theorem dX7_share_76 : decode cX7_share 76 = .ok (.istore 6, 2) := by decide +kernel
theorem dX7_share_78 : decode cX7_share 78 = .ok (.iconst 0, 1) := by decide +kernel
theorem dX7_share_79 : decode cX7_share 79 = .ok (.istore 7, 2) := by decide +kernel
theorem dX7_share_81 : decode cX7_share 81 = .ok (.iload 7, 2) := by decide +kernel
theorem dX7_share_83 : decode cX7_share 83 = .ok (.aload_n 0, 1) := by decide +kernel
theorem dX7_share_84 : decode cX7_share 84 = .ok (.getfield 7, 3) := by decide +kernel
theorem dX7_share_87 : decode cX7_share 87 = .ok (.iconst 0, 1) := by decide +kernel
theorem dX7_share_88 : decode cX7_share 88 = .ok (.iaload, 1) := by decide +kernel
theorem dX7_share_89 : decode cX7_share 89 = .ok (.if_icmp .ge 87, 3) := by decide +kernel
theorem dX7_share_92 : decode cX7_share 92 = .ok (.aload_n 0, 1) := by decide +kernel
theorem dX7_share_93 : decode cX7_share 93 = .ok (.getfield 7, 3) := by decide +kernel
theorem dX7_share_96 : decode cX7_share 96 = .ok (.iload 7, 2) := by decide +kernel
theorem dX7_share_98 : decode cX7_share 98 = .ok (.invokestatic 143, 3) := by decide +kernel
theorem dX7_share_101 : decode cX7_share 101 = .ok (.ifCond .eq 34, 3) := by decide +kernel
theorem dX7_share_104 : decode cX7_share 104 = .ok (.aload_n 0, 1) := by decide +kernel
theorem dX7_share_105 : decode cX7_share 105 = .ok (.getfield 7, 3) := by decide +kernel
theorem dX7_share_108 : decode cX7_share 108 = .ok (.iload 7, 2) := by decide +kernel
theorem dX7_share_110 : decode cX7_share 110 = .ok (.invokestatic 136, 3) := by decide +kernel
theorem dX7_share_113 : decode cX7_share 113 = .ok (.aload_n 0, 1) := by decide +kernel
theorem dX7_share_114 : decode cX7_share 114 = .ok (.getfield 7, 3) := by decide +kernel
theorem dX7_share_117 : decode cX7_share 117 = .ok (.bipush 76, 2) := by decide +kernel
theorem dX7_share_119 : decode cX7_share 119 = .ok (.iload 7, 2) := by decide +kernel
theorem dX7_share_121 : decode cX7_share 121 = .ok (.iadd, 1) := by decide +kernel
theorem dX7_share_122 : decode cX7_share 122 = .ok (.iaload, 1) := by decide +kernel
theorem dX7_share_123 : decode cX7_share 123 = .ok (.isub, 1) := by decide +kernel
theorem dX7_share_124 : decode cX7_share 124 = .ok (.aload_n 0, 1) := by decide +kernel
theorem dX7_share_125 : decode cX7_share 125 = .ok (.getfield 51, 3) := by decide +kernel
theorem dX7_share_128 : decode cX7_share 128 = .ok (.iload 7, 2) := by decide +kernel
theorem dX7_share_130 : decode cX7_share 130 = .ok (.iaload, 1) := by decide +kernel
theorem dX7_share_131 : decode cX7_share 131 = .ok (.isub, 1) := by decide +kernel
theorem dX7_share_132 : decode cX7_share 132 = .ok (.goto 4, 3) := by decide +kernel
theorem dX7_share_135 : decode cX7_share 135 = .ok (.iconst 0, 1) := by decide +kernel
theorem dX7_share_136 : decode cX7_share 136 = .ok (.istore 8, 2) := by decide +kernel
theorem dX7_share_138 : decode cX7_share 138 = .ok (.iload 8, 2) := by decide +kernel
theorem dX7_share_140 : decode cX7_share 140 = .ok (.iload 6, 2) := by decide +kernel
theorem dX7_share_142 : decode cX7_share 142 = .ok (.if_icmp .le 8, 3) := by decide +kernel
theorem dX7_share_145 : decode cX7_share 145 = .ok (.iload 7, 2) := by decide +kernel
theorem dX7_share_147 : decode cX7_share 147 = .ok (.goto 5, 3) := by decide +kernel
theorem dX7_share_150 : decode cX7_share 150 = .ok (.iload 5, 2) := by decide +kernel
theorem dX7_share_152 : decode cX7_share 152 = .ok (.istore 5, 2) := by decide +kernel
theorem dX7_share_154 : decode cX7_share 154 = .ok (.iload 8, 2) := by decide +kernel
theorem dX7_share_156 : decode cX7_share 156 = .ok (.iload 6, 2) := by decide +kernel
theorem dX7_share_158 : decode cX7_share 158 = .ok (.if_icmp .le 8, 3) := by decide +kernel
theorem dX7_share_161 : decode cX7_share 161 = .ok (.iload 8, 2) := by decide +kernel
theorem dX7_share_163 : decode cX7_share 163 = .ok (.goto 5, 3) := by decide +kernel
theorem dX7_share_166 : decode cX7_share 166 = .ok (.iload 6, 2) := by decide +kernel
theorem dX7_share_168 : decode cX7_share 168 = .ok (.istore 6, 2) := by decide +kernel
theorem dX7_share_170 : decode cX7_share 170 = .ok (.iinc 7 1, 3) := by decide +kernel
theorem dX7_share_173 : decode cX7_share 173 = .ok (.goto (-92), 3) := by decide +kernel
theorem dX7_share_176 : decode cX7_share 176 = .ok (.iload 5, 2) := by decide +kernel
theorem dX7_share_178 : decode cX7_share 178 = .ok (.bipush (-9), 2) := by decide +kernel
theorem dX7_share_180 : decode cX7_share 180 = .ok (.if_icmp .eq 7, 3) := by decide +kernel
theorem dX7_share_183 : decode cX7_share 183 = .ok (.iconst 1, 1) := by decide +kernel
theorem dX7_share_184 : decode cX7_share 184 = .ok (.goto 4, 3) := by decide +kernel
theorem dX7_share_187 : decode cX7_share 187 = .ok (.iconst 0, 1) := by decide +kernel
theorem dX7_share_188 : decode cX7_share 188 = .ok (.istore 4, 2) := by decide +kernel
theorem dX7_share_190 : decode cX7_share 190 = .ok (.iload 4, 2) := by decide +kernel
theorem dX7_share_192 : decode cX7_share 192 = .ok (.ifCond .eq 17, 3) := by decide +kernel
theorem dX7_share_195 : decode cX7_share 195 = .ok (.aload_n 0, 1) := by decide +kernel
theorem dX7_share_196 : decode cX7_share 196 = .ok (.getfield 51, 3) := by decide +kernel
theorem dX7_share_199 : decode cX7_share 199 = .ok (.iload 5, 2) := by decide +kernel
theorem dX7_share_201 : decode cX7_share 201 = .ok (.dup2, 1) := by decide +kernel
theorem dX7_share_202 : decode cX7_share 202 = .ok (.iaload, 1) := by decide +kernel
theorem dX7_share_203 : decode cX7_share 203 = .ok (.iconst 1, 1) := by decide +kernel
theorem dX7_share_204 : decode cX7_share 204 = .ok (.iadd, 1) := by decide +kernel
theorem dX7_share_205 : decode cX7_share 205 = .ok (.iastore, 1) := by decide +kernel
theorem dX7_share_206 : decode cX7_share 206 = .ok (.iinc 3 (-1), 3) := by decide +kernel
theorem dX7_share_209 : decode cX7_share 209 = .ok (.goto (-147), 3) := by decide +kernel
theorem dX7_share_212 : decode cX7_share 212 = .ok (.aload_n 0, 1) := by decide +kernel
theorem dX7_share_213 : decode cX7_share 213 = .ok (.getfield 23, 3) := by decide +kernel
theorem dX7_share_216 : decode cX7_share 216 = .ok (.iload_n 2, 1) := by decide +kernel
theorem dX7_share_217 : decode cX7_share 217 = .ok (.aload_n 0, 1) := by decide +kernel
theorem dX7_share_218 : decode cX7_share 218 = .ok (.getfield 7, 3) := by decide +kernel
theorem dX7_share_221 : decode cX7_share 221 = .ok (.iconst 0, 1) := by decide +kernel
theorem dX7_share_222 : decode cX7_share 222 = .ok (.iaload, 1) := by decide +kernel
theorem dX7_share_223 : decode cX7_share 223 = .ok (.iastore, 1) := by decide +kernel
theorem dX7_share_224 : decode cX7_share 224 = .ok (.iconst 0, 1) := by decide +kernel
theorem dX7_share_225 : decode cX7_share 225 = .ok (.istore 5, 2) := by decide +kernel
theorem dX7_share_227 : decode cX7_share 227 = .ok (.iload 5, 2) := by decide +kernel
theorem dX7_share_229 : decode cX7_share 229 = .ok (.aload_n 0, 1) := by decide +kernel
theorem dX7_share_230 : decode cX7_share 230 = .ok (.getfield 7, 3) := by decide +kernel
theorem dX7_share_233 : decode cX7_share 233 = .ok (.iconst 0, 1) := by decide +kernel
theorem dX7_share_234 : decode cX7_share 234 = .ok (.iaload, 1) := by decide +kernel
theorem dX7_share_235 : decode cX7_share 235 = .ok (.if_icmp .ge 28, 3) := by decide +kernel
theorem dX7_share_238 : decode cX7_share 238 = .ok (.aload_n 0, 1) := by decide +kernel
theorem dX7_share_239 : decode cX7_share 239 = .ok (.getfield 20, 3) := by decide +kernel
theorem dX7_share_242 : decode cX7_share 242 = .ok (.bipush 40, 2) := by decide +kernel
theorem dX7_share_244 : decode cX7_share 244 = .ok (.iload_n 2, 1) := by decide +kernel
theorem dX7_share_245 : decode cX7_share 245 = .ok (.imul, 1) := by decide +kernel
theorem dX7_share_246 : decode cX7_share 246 = .ok (.iload 5, 2) := by decide +kernel
theorem dX7_share_248 : decode cX7_share 248 = .ok (.iadd, 1) := by decide +kernel
theorem dX7_share_249 : decode cX7_share 249 = .ok (.aload_n 0, 1) := by decide +kernel
theorem dX7_share_250 : decode cX7_share 250 = .ok (.getfield 51, 3) := by decide +kernel
theorem dX7_share_253 : decode cX7_share 253 = .ok (.iload 5, 2) := by decide +kernel
theorem dX7_share_255 : decode cX7_share 255 = .ok (.iaload, 1) := by decide +kernel
theorem dX7_share_256 : decode cX7_share 256 = .ok (.iastore, 1) := by decide +kernel
theorem dX7_share_257 : decode cX7_share 257 = .ok (.iinc 5 1, 3) := by decide +kernel
theorem dX7_share_260 : decode cX7_share 260 = .ok (.goto (-33), 3) := by decide +kernel
theorem dX7_share_263 : decode cX7_share 263 = .ok (.iload_n 3, 1) := by decide +kernel
theorem dX7_share_264 : decode cX7_share 264 = .ok (.ireturn, 1) := by decide +kernel
theorem dX7_refusesPairs_0 : decode cX7_refusesPairs 0 = .ok (.iload_n 1, 1) := by decide +kernel
theorem dX7_refusesPairs_1 : decode cX7_refusesPairs 1 = .ok (.invokestatic 75, 3) := by decide +kernel
theorem dX7_refusesPairs_4 : decode cX7_refusesPairs 4 = .ok (.ifCond .ne 5, 3) := by decide +kernel
theorem dX7_refusesPairs_7 : decode cX7_refusesPairs 7 = .ok (.iconst (-1), 1) := by decide +kernel
theorem dX7_refusesPairs_8 : decode cX7_refusesPairs 8 = .ok (.ireturn, 1) := by decide +kernel
theorem dX7_refusesPairs_9 : decode cX7_refusesPairs 9 = .ok (.aload_n 0, 1) := by decide +kernel
theorem dX7_refusesPairs_10 : decode cX7_refusesPairs 10 = .ok (.getfield 23, 3) := by decide +kernel
theorem dX7_refusesPairs_13 : decode cX7_refusesPairs 13 = .ok (.iload_n 1, 1) := by decide +kernel
theorem dX7_refusesPairs_14 : decode cX7_refusesPairs 14 = .ok (.iaload, 1) := by decide +kernel
theorem dX7_refusesPairs_15 : decode cX7_refusesPairs 15 = .ok (.ifCond .ge 9, 3) := by decide +kernel
theorem dX7_refusesPairs_18 : decode cX7_refusesPairs 18 = .ok (.aload_n 0, 1) := by decide +kernel
theorem dX7_refusesPairs_19 : decode cX7_refusesPairs 19 = .ok (.iconst 1, 1) := by decide +kernel
theorem dX7_refusesPairs_20 : decode cX7_refusesPairs 20 = .ok (.invokevirtual 79, 3) := by decide +kernel
theorem dX7_refusesPairs_23 : decode cX7_refusesPairs 23 = .ok (.ireturn, 1) := by decide +kernel
theorem dX7_refusesPairs_24 : decode cX7_refusesPairs 24 = .ok (.aload_n 0, 1) := by decide +kernel
theorem dX7_refusesPairs_25 : decode cX7_refusesPairs 25 = .ok (.getfield 23, 3) := by decide +kernel
theorem dX7_refusesPairs_28 : decode cX7_refusesPairs 28 = .ok (.iload_n 1, 1) := by decide +kernel
theorem dX7_refusesPairs_29 : decode cX7_refusesPairs 29 = .ok (.iaload, 1) := by decide +kernel
theorem dX7_refusesPairs_30 : decode cX7_refusesPairs 30 = .ok (.iconst 2, 1) := by decide +kernel
theorem dX7_refusesPairs_31 : decode cX7_refusesPairs 31 = .ok (.irem, 1) := by decide +kernel
theorem dX7_refusesPairs_32 : decode cX7_refusesPairs 32 = .ok (.ifCond .ne 14, 3) := by decide +kernel
theorem dX7_refusesPairs_35 : decode cX7_refusesPairs 35 = .ok (.aload_n 0, 1) := by decide +kernel
theorem dX7_refusesPairs_36 : decode cX7_refusesPairs 36 = .ok (.getfield 23, 3) := by decide +kernel
theorem dX7_refusesPairs_39 : decode cX7_refusesPairs 39 = .ok (.iload_n 1, 1) := by decide +kernel
theorem dX7_refusesPairs_40 : decode cX7_refusesPairs 40 = .ok (.iaload, 1) := by decide +kernel
theorem dX7_refusesPairs_41 : decode cX7_refusesPairs 41 = .ok (.bipush 16, 2) := by decide +kernel
theorem dX7_refusesPairs_43 : decode cX7_refusesPairs 43 = .ok (.if_icmp .le 9, 3) := by decide +kernel
theorem dX7_refusesPairs_46 : decode cX7_refusesPairs 46 = .ok (.aload_n 0, 1) := by decide +kernel
theorem dX7_refusesPairs_47 : decode cX7_refusesPairs 47 = .ok (.iconst 5, 1) := by decide +kernel
theorem dX7_refusesPairs_48 : decode cX7_refusesPairs 48 = .ok (.invokevirtual 79, 3) := by decide +kernel
theorem dX7_refusesPairs_51 : decode cX7_refusesPairs 51 = .ok (.ireturn, 1) := by decide +kernel
theorem dX7_refusesPairs_52 : decode cX7_refusesPairs 52 = .ok (.iconst 0, 1) := by decide +kernel
theorem dX7_refusesPairs_53 : decode cX7_refusesPairs 53 = .ok (.istore_n 2, 1) := by decide +kernel
theorem dX7_refusesPairs_54 : decode cX7_refusesPairs 54 = .ok (.iload_n 2, 1) := by decide +kernel
theorem dX7_refusesPairs_55 : decode cX7_refusesPairs 55 = .ok (.aload_n 0, 1) := by decide +kernel
theorem dX7_refusesPairs_56 : decode cX7_refusesPairs 56 = .ok (.getfield 23, 3) := by decide +kernel
theorem dX7_refusesPairs_59 : decode cX7_refusesPairs 59 = .ok (.iload_n 1, 1) := by decide +kernel
theorem dX7_refusesPairs_60 : decode cX7_refusesPairs 60 = .ok (.iaload, 1) := by decide +kernel
theorem dX7_refusesPairs_61 : decode cX7_refusesPairs 61 = .ok (.if_icmp .ge 37, 3) := by decide +kernel
theorem dX7_refusesPairs_64 : decode cX7_refusesPairs 64 = .ok (.aload_n 0, 1) := by decide +kernel
theorem dX7_refusesPairs_65 : decode cX7_refusesPairs 65 = .ok (.getfield 20, 3) := by decide +kernel
theorem dX7_refusesPairs_68 : decode cX7_refusesPairs 68 = .ok (.bipush 40, 2) := by decide +kernel
theorem dX7_refusesPairs_70 : decode cX7_refusesPairs 70 = .ok (.iload_n 1, 1) := by decide +kernel
theorem dX7_refusesPairs_71 : decode cX7_refusesPairs 71 = .ok (.imul, 1) := by decide +kernel
theorem dX7_refusesPairs_72 : decode cX7_refusesPairs 72 = .ok (.iload_n 2, 1) := by decide +kernel
theorem dX7_refusesPairs_73 : decode cX7_refusesPairs 73 = .ok (.iadd, 1) := by decide +kernel
theorem dX7_refusesPairs_74 : decode cX7_refusesPairs 74 = .ok (.iaload, 1) := by decide +kernel
theorem dX7_refusesPairs_75 : decode cX7_refusesPairs 75 = .ok (.i2l, 1) := by decide +kernel
theorem dX7_refusesPairs_76 : decode cX7_refusesPairs 76 = .ok (.lconst 0, 1) := by decide +kernel
theorem dX7_refusesPairs_77 : decode cX7_refusesPairs 77 = .ok (.ldc2_w 191, 3) := by decide +kernel
theorem dX7_refusesPairs_80 : decode cX7_refusesPairs 80 = .ok (.invokestatic 69, 3) := by decide +kernel
theorem dX7_refusesPairs_83 : decode cX7_refusesPairs 83 = .ok (.ifCond .ne 9, 3) := by decide +kernel
theorem dX7_refusesPairs_86 : decode cX7_refusesPairs 86 = .ok (.aload_n 0, 1) := by decide +kernel
theorem dX7_refusesPairs_87 : decode cX7_refusesPairs 87 = .ok (.iconst 3, 1) := by decide +kernel
theorem dX7_refusesPairs_88 : decode cX7_refusesPairs 88 = .ok (.invokevirtual 79, 3) := by decide +kernel
theorem dX7_refusesPairs_91 : decode cX7_refusesPairs 91 = .ok (.ireturn, 1) := by decide +kernel
theorem dX7_refusesPairs_92 : decode cX7_refusesPairs 92 = .ok (.iinc 2 1, 3) := by decide +kernel
theorem dX7_refusesPairs_95 : decode cX7_refusesPairs 95 = .ok (.goto (-41), 3) := by decide +kernel
theorem dX7_refusesPairs_98 : decode cX7_refusesPairs 98 = .ok (.iconst 0, 1) := by decide +kernel
theorem dX7_refusesPairs_99 : decode cX7_refusesPairs 99 = .ok (.ireturn, 1) := by decide +kernel
theorem dX7_kindsBy_0 : decode cX7_kindsBy 0 = .ok (.iconst 0, 1) := by decide +kernel
theorem dX7_kindsBy_1 : decode cX7_kindsBy 1 = .ok (.istore_n 2, 1) := by decide +kernel
theorem dX7_kindsBy_2 : decode cX7_kindsBy 2 = .ok (.iconst 0, 1) := by decide +kernel
theorem dX7_kindsBy_3 : decode cX7_kindsBy 3 = .ok (.istore_n 3, 1) := by decide +kernel
theorem dX7_kindsBy_4 : decode cX7_kindsBy 4 = .ok (.iload_n 3, 1) := by decide +kernel
theorem dX7_kindsBy_5 : decode cX7_kindsBy 5 = .ok (.bipush 6, 2) := by decide +kernel
theorem dX7_kindsBy_7 : decode cX7_kindsBy 7 = .ok (.if_icmp .ge 94, 3) := by decide +kernel
theorem dX7_kindsBy_10 : decode cX7_kindsBy 10 = .ok (.iconst 1, 1) := by decide +kernel
theorem dX7_kindsBy_11 : decode cX7_kindsBy 11 = .ok (.istore 4, 2) := by decide +kernel
theorem dX7_kindsBy_13 : decode cX7_kindsBy 13 = .ok (.iconst 0, 1) := by decide +kernel
theorem dX7_kindsBy_14 : decode cX7_kindsBy 14 = .ok (.istore 5, 2) := by decide +kernel
theorem dX7_kindsBy_16 : decode cX7_kindsBy 16 = .ok (.iload 5, 2) := by decide +kernel
theorem dX7_kindsBy_18 : decode cX7_kindsBy 18 = .ok (.iconst 1, 1) := by decide +kernel
theorem dX7_kindsBy_19 : decode cX7_kindsBy 19 = .ok (.iadd, 1) := by decide +kernel
theorem dX7_kindsBy_20 : decode cX7_kindsBy 20 = .ok (.aload_n 0, 1) := by decide +kernel
theorem dX7_kindsBy_21 : decode cX7_kindsBy 21 = .ok (.getfield 23, 3) := by decide +kernel
theorem dX7_kindsBy_24 : decode cX7_kindsBy 24 = .ok (.iload_n 1, 1) := by decide +kernel
theorem dX7_kindsBy_25 : decode cX7_kindsBy 25 = .ok (.iaload, 1) := by decide +kernel
theorem dX7_kindsBy_26 : decode cX7_kindsBy 26 = .ok (.if_icmp .ge 54, 3) := by decide +kernel
theorem dX7_kindsBy_29 : decode cX7_kindsBy 29 = .ok (.iload 4, 2) := by decide +kernel
theorem dX7_kindsBy_31 : decode cX7_kindsBy 31 = .ok (.ifCond .eq 40, 3) := by decide +kernel
theorem dX7_kindsBy_34 : decode cX7_kindsBy 34 = .ok (.iload_n 3, 1) := by decide +kernel
theorem dX7_kindsBy_35 : decode cX7_kindsBy 35 = .ok (.aload_n 0, 1) := by decide +kernel
theorem dX7_kindsBy_36 : decode cX7_kindsBy 36 = .ok (.getfield 20, 3) := by decide +kernel
theorem dX7_kindsBy_39 : decode cX7_kindsBy 39 = .ok (.bipush 40, 2) := by decide +kernel
theorem dX7_kindsBy_41 : decode cX7_kindsBy 41 = .ok (.iload_n 1, 1) := by decide +kernel
theorem dX7_kindsBy_42 : decode cX7_kindsBy 42 = .ok (.imul, 1) := by decide +kernel
theorem dX7_kindsBy_43 : decode cX7_kindsBy 43 = .ok (.iload 5, 2) := by decide +kernel
theorem dX7_kindsBy_45 : decode cX7_kindsBy 45 = .ok (.iadd, 1) := by decide +kernel
theorem dX7_kindsBy_46 : decode cX7_kindsBy 46 = .ok (.iaload, 1) := by decide +kernel
theorem dX7_kindsBy_47 : decode cX7_kindsBy 47 = .ok (.invokestatic 140, 3) := by decide +kernel
theorem dX7_kindsBy_50 : decode cX7_kindsBy 50 = .ok (.aload_n 0, 1) := by decide +kernel
theorem dX7_kindsBy_51 : decode cX7_kindsBy 51 = .ok (.getfield 20, 3) := by decide +kernel
theorem dX7_kindsBy_54 : decode cX7_kindsBy 54 = .ok (.bipush 40, 2) := by decide +kernel
theorem dX7_kindsBy_56 : decode cX7_kindsBy 56 = .ok (.iload_n 1, 1) := by decide +kernel
theorem dX7_kindsBy_57 : decode cX7_kindsBy 57 = .ok (.imul, 1) := by decide +kernel
theorem dX7_kindsBy_58 : decode cX7_kindsBy 58 = .ok (.iload 5, 2) := by decide +kernel
theorem dX7_kindsBy_60 : decode cX7_kindsBy 60 = .ok (.iadd, 1) := by decide +kernel
theorem dX7_kindsBy_61 : decode cX7_kindsBy 61 = .ok (.iconst 1, 1) := by decide +kernel
theorem dX7_kindsBy_62 : decode cX7_kindsBy 62 = .ok (.iadd, 1) := by decide +kernel
theorem dX7_kindsBy_63 : decode cX7_kindsBy 63 = .ok (.iaload, 1) := by decide +kernel
theorem dX7_kindsBy_64 : decode cX7_kindsBy 64 = .ok (.if_icmp .ne 7, 3) := by decide +kernel
theorem dX7_kindsBy_67 : decode cX7_kindsBy 67 = .ok (.iconst 1, 1) := by decide +kernel
theorem dX7_kindsBy_68 : decode cX7_kindsBy 68 = .ok (.goto 4, 3) := by decide +kernel
theorem dX7_kindsBy_71 : decode cX7_kindsBy 71 = .ok (.iconst 0, 1) := by decide +kernel
theorem dX7_kindsBy_72 : decode cX7_kindsBy 72 = .ok (.istore 4, 2) := by decide +kernel
theorem dX7_kindsBy_74 : decode cX7_kindsBy 74 = .ok (.iinc 5 2, 3) := by decide +kernel
theorem dX7_kindsBy_77 : decode cX7_kindsBy 77 = .ok (.goto (-61), 3) := by decide +kernel
theorem dX7_kindsBy_80 : decode cX7_kindsBy 80 = .ok (.iload_n 2, 1) := by decide +kernel
theorem dX7_kindsBy_81 : decode cX7_kindsBy 81 = .ok (.iload 4, 2) := by decide +kernel
theorem dX7_kindsBy_83 : decode cX7_kindsBy 83 = .ok (.ifCond .eq 9, 3) := by decide +kernel
theorem dX7_kindsBy_86 : decode cX7_kindsBy 86 = .ok (.iconst 1, 1) := by decide +kernel
theorem dX7_kindsBy_87 : decode cX7_kindsBy 87 = .ok (.iload_n 3, 1) := by decide +kernel
theorem dX7_kindsBy_88 : decode cX7_kindsBy 88 = .ok (.ishl, 1) := by decide +kernel
theorem dX7_kindsBy_89 : decode cX7_kindsBy 89 = .ok (.goto 4, 3) := by decide +kernel
theorem dX7_kindsBy_92 : decode cX7_kindsBy 92 = .ok (.iconst 0, 1) := by decide +kernel
theorem dX7_kindsBy_93 : decode cX7_kindsBy 93 = .ok (.ior, 1) := by decide +kernel
theorem dX7_kindsBy_94 : decode cX7_kindsBy 94 = .ok (.istore_n 2, 1) := by decide +kernel
theorem dX7_kindsBy_95 : decode cX7_kindsBy 95 = .ok (.iinc 3 1, 3) := by decide +kernel
theorem dX7_kindsBy_98 : decode cX7_kindsBy 98 = .ok (.goto (-94), 3) := by decide +kernel
theorem dX7_kindsBy_101 : decode cX7_kindsBy 101 = .ok (.iload_n 2, 1) := by decide +kernel
theorem dX7_kindsBy_102 : decode cX7_kindsBy 102 = .ok (.ireturn, 1) := by decide +kernel
theorem dX7_who_0 : decode cX7_who 0 = .ok (.aload_n 0, 1) := by decide +kernel
theorem dX7_who_1 : decode cX7_who 1 = .ok (.iload_n 1, 1) := by decide +kernel
theorem dX7_who_2 : decode cX7_who 2 = .ok (.invokevirtual 209, 3) := by decide +kernel
theorem dX7_who_5 : decode cX7_who 5 = .ok (.istore_n 2, 1) := by decide +kernel
theorem dX7_who_6 : decode cX7_who 6 = .ok (.iload_n 2, 1) := by decide +kernel
theorem dX7_who_7 : decode cX7_who 7 = .ok (.ifCond .eq 5, 3) := by decide +kernel
theorem dX7_who_10 : decode cX7_who 10 = .ok (.iload_n 2, 1) := by decide +kernel
theorem dX7_who_11 : decode cX7_who 11 = .ok (.ireturn, 1) := by decide +kernel
theorem dX7_who_12 : decode cX7_who 12 = .ok (.iconst 0, 1) := by decide +kernel
theorem dX7_who_13 : decode cX7_who 13 = .ok (.istore_n 3, 1) := by decide +kernel
theorem dX7_who_14 : decode cX7_who 14 = .ok (.aload_n 0, 1) := by decide +kernel
theorem dX7_who_15 : decode cX7_who 15 = .ok (.iload_n 1, 1) := by decide +kernel
theorem dX7_who_16 : decode cX7_who 16 = .ok (.invokevirtual 212, 3) := by decide +kernel
theorem dX7_who_19 : decode cX7_who 19 = .ok (.istore 4, 2) := by decide +kernel
theorem dX7_who_21 : decode cX7_who 21 = .ok (.iconst 0, 1) := by decide +kernel
theorem dX7_who_22 : decode cX7_who 22 = .ok (.istore 5, 2) := by decide +kernel
theorem dX7_who_24 : decode cX7_who 24 = .ok (.iload 5, 2) := by decide +kernel
theorem dX7_who_26 : decode cX7_who 26 = .ok (.aload_n 0, 1) := by decide +kernel
theorem dX7_who_27 : decode cX7_who 27 = .ok (.getfield 7, 3) := by decide +kernel
theorem dX7_who_30 : decode cX7_who 30 = .ok (.iconst 0, 1) := by decide +kernel
theorem dX7_who_31 : decode cX7_who 31 = .ok (.iaload, 1) := by decide +kernel
theorem dX7_who_32 : decode cX7_who 32 = .ok (.if_icmp .ge 37, 3) := by decide +kernel
theorem dX7_who_35 : decode cX7_who 35 = .ok (.iload_n 3, 1) := by decide +kernel
theorem dX7_who_36 : decode cX7_who 36 = .ok (.iload 4, 2) := by decide +kernel
theorem dX7_who_38 : decode cX7_who 38 = .ok (.aload_n 0, 1) := by decide +kernel
theorem dX7_who_39 : decode cX7_who 39 = .ok (.getfield 7, 3) := by decide +kernel
theorem dX7_who_42 : decode cX7_who 42 = .ok (.iconst 2, 1) := by decide +kernel
theorem dX7_who_43 : decode cX7_who 43 = .ok (.iload 5, 2) := by decide +kernel
theorem dX7_who_45 : decode cX7_who 45 = .ok (.iadd, 1) := by decide +kernel
theorem dX7_who_46 : decode cX7_who 46 = .ok (.iaload, 1) := by decide +kernel
theorem dX7_who_47 : decode cX7_who 47 = .ok (.invokestatic 130, 3) := by decide +kernel
theorem dX7_who_50 : decode cX7_who 50 = .ok (.ifCond .eq 10, 3) := by decide +kernel
theorem dX7_who_53 : decode cX7_who 53 = .ok (.iconst 1, 1) := by decide +kernel
theorem dX7_who_54 : decode cX7_who 54 = .ok (.iload 5, 2) := by decide +kernel
theorem dX7_who_56 : decode cX7_who 56 = .ok (.ishl, 1) := by decide +kernel
theorem dX7_who_57 : decode cX7_who 57 = .ok (.goto 4, 3) := by decide +kernel
theorem dX7_who_60 : decode cX7_who 60 = .ok (.iconst 0, 1) := by decide +kernel
theorem dX7_who_61 : decode cX7_who 61 = .ok (.ior, 1) := by decide +kernel
theorem dX7_who_62 : decode cX7_who 62 = .ok (.istore_n 3, 1) := by decide +kernel
theorem dX7_who_63 : decode cX7_who 63 = .ok (.iinc 5 1, 3) := by decide +kernel
theorem dX7_who_66 : decode cX7_who 66 = .ok (.goto (-42), 3) := by decide +kernel
theorem dX7_who_69 : decode cX7_who 69 = .ok (.iload_n 3, 1) := by decide +kernel
theorem dX7_who_70 : decode cX7_who 70 = .ok (.ireturn, 1) := by decide +kernel
theorem dX7_kinds_0 : decode cX7_kinds 0 = .ok (.aload_n 0, 1) := by decide +kernel
theorem dX7_kinds_1 : decode cX7_kinds 1 = .ok (.iload_n 1, 1) := by decide +kernel
theorem dX7_kinds_2 : decode cX7_kinds 2 = .ok (.invokevirtual 209, 3) := by decide +kernel
theorem dX7_kinds_5 : decode cX7_kinds 5 = .ok (.istore_n 2, 1) := by decide +kernel
theorem dX7_kinds_6 : decode cX7_kinds 6 = .ok (.iload_n 2, 1) := by decide +kernel
theorem dX7_kinds_7 : decode cX7_kinds 7 = .ok (.ifCond .eq 7, 3) := by decide +kernel
theorem dX7_kinds_10 : decode cX7_kinds 10 = .ok (.iload_n 2, 1) := by decide +kernel
theorem dX7_kinds_11 : decode cX7_kinds 11 = .ok (.goto 8, 3) := by decide +kernel
theorem dX7_kinds_14 : decode cX7_kinds 14 = .ok (.aload_n 0, 1) := by decide +kernel
theorem dX7_kinds_15 : decode cX7_kinds 15 = .ok (.iload_n 1, 1) := by decide +kernel
theorem dX7_kinds_16 : decode cX7_kinds 16 = .ok (.invokevirtual 212, 3) := by decide +kernel
theorem dX7_kinds_19 : decode cX7_kinds 19 = .ok (.ireturn, 1) := by decide +kernel
theorem dX7_greatestPart_0 : decode cX7_greatestPart 0 = .ok (.iconst 0, 1) := by decide +kernel
theorem dX7_greatestPart_1 : decode cX7_greatestPart 1 = .ok (.istore_n 2, 1) := by decide +kernel
theorem dX7_greatestPart_2 : decode cX7_greatestPart 2 = .ok (.iconst 0, 1) := by decide +kernel
theorem dX7_greatestPart_3 : decode cX7_greatestPart 3 = .ok (.istore_n 3, 1) := by decide +kernel
theorem dX7_greatestPart_4 : decode cX7_greatestPart 4 = .ok (.iload_n 3, 1) := by decide +kernel
theorem dX7_greatestPart_5 : decode cX7_greatestPart 5 = .ok (.bipush 6, 2) := by decide +kernel
theorem dX7_greatestPart_7 : decode cX7_greatestPart 7 = .ok (.if_icmp .ge 82, 3) := by decide +kernel
theorem dX7_greatestPart_10 : decode cX7_greatestPart 10 = .ok (.iconst 0, 1) := by decide +kernel
theorem dX7_greatestPart_11 : decode cX7_greatestPart 11 = .ok (.istore 4, 2) := by decide +kernel
theorem dX7_greatestPart_13 : decode cX7_greatestPart 13 = .ok (.iconst 0, 1) := by decide +kernel
theorem dX7_greatestPart_14 : decode cX7_greatestPart 14 = .ok (.istore 5, 2) := by decide +kernel
theorem dX7_greatestPart_16 : decode cX7_greatestPart 16 = .ok (.iload 5, 2) := by decide +kernel
theorem dX7_greatestPart_18 : decode cX7_greatestPart 18 = .ok (.bipush 6, 2) := by decide +kernel
theorem dX7_greatestPart_20 : decode cX7_greatestPart 20 = .ok (.if_icmp .ge 50, 3) := by decide +kernel
theorem dX7_greatestPart_23 : decode cX7_greatestPart 23 = .ok (.iload_n 0, 1) := by decide +kernel
theorem dX7_greatestPart_24 : decode cX7_greatestPart 24 = .ok (.iload_n 3, 1) := by decide +kernel
theorem dX7_greatestPart_25 : decode cX7_greatestPart 25 = .ok (.invokestatic 130, 3) := by decide +kernel
theorem dX7_greatestPart_28 : decode cX7_greatestPart 28 = .ok (.ifCond .eq 42, 3) := by decide +kernel
theorem dX7_greatestPart_31 : decode cX7_greatestPart 31 = .ok (.iload 4, 2) := by decide +kernel
theorem dX7_greatestPart_33 : decode cX7_greatestPart 33 = .ok (.iload_n 0, 1) := by decide +kernel
theorem dX7_greatestPart_34 : decode cX7_greatestPart 34 = .ok (.iload 5, 2) := by decide +kernel
theorem dX7_greatestPart_36 : decode cX7_greatestPart 36 = .ok (.invokestatic 130, 3) := by decide +kernel
theorem dX7_greatestPart_39 : decode cX7_greatestPart 39 = .ok (.ifCond .eq 21, 3) := by decide +kernel
theorem dX7_greatestPart_42 : decode cX7_greatestPart 42 = .ok (.iload_n 3, 1) := by decide +kernel
theorem dX7_greatestPart_43 : decode cX7_greatestPart 43 = .ok (.iload_n 1, 1) := by decide +kernel
theorem dX7_greatestPart_44 : decode cX7_greatestPart 44 = .ok (.invokestatic 140, 3) := by decide +kernel
theorem dX7_greatestPart_47 : decode cX7_greatestPart 47 = .ok (.iload 5, 2) := by decide +kernel
theorem dX7_greatestPart_49 : decode cX7_greatestPart 49 = .ok (.iload_n 1, 1) := by decide +kernel
theorem dX7_greatestPart_50 : decode cX7_greatestPart 50 = .ok (.invokestatic 140, 3) := by decide +kernel
theorem dX7_greatestPart_53 : decode cX7_greatestPart 53 = .ok (.if_icmp .ne 7, 3) := by decide +kernel
theorem dX7_greatestPart_56 : decode cX7_greatestPart 56 = .ok (.iconst 1, 1) := by decide +kernel
theorem dX7_greatestPart_57 : decode cX7_greatestPart 57 = .ok (.goto 4, 3) := by decide +kernel
theorem dX7_greatestPart_60 : decode cX7_greatestPart 60 = .ok (.iconst 0, 1) := by decide +kernel
theorem dX7_greatestPart_61 : decode cX7_greatestPart 61 = .ok (.iadd, 1) := by decide +kernel
theorem dX7_greatestPart_62 : decode cX7_greatestPart 62 = .ok (.istore 4, 2) := by decide +kernel
theorem dX7_greatestPart_64 : decode cX7_greatestPart 64 = .ok (.iinc 5 1, 3) := by decide +kernel
theorem dX7_greatestPart_67 : decode cX7_greatestPart 67 = .ok (.goto (-51), 3) := by decide +kernel
theorem dX7_greatestPart_70 : decode cX7_greatestPart 70 = .ok (.iload 4, 2) := by decide +kernel
theorem dX7_greatestPart_72 : decode cX7_greatestPart 72 = .ok (.iload_n 2, 1) := by decide +kernel
theorem dX7_greatestPart_73 : decode cX7_greatestPart 73 = .ok (.if_icmp .le 8, 3) := by decide +kernel
theorem dX7_greatestPart_76 : decode cX7_greatestPart 76 = .ok (.iload 4, 2) := by decide +kernel
theorem dX7_greatestPart_78 : decode cX7_greatestPart 78 = .ok (.goto 4, 3) := by decide +kernel
theorem dX7_greatestPart_81 : decode cX7_greatestPart 81 = .ok (.iload_n 2, 1) := by decide +kernel
theorem dX7_greatestPart_82 : decode cX7_greatestPart 82 = .ok (.istore_n 2, 1) := by decide +kernel
theorem dX7_greatestPart_83 : decode cX7_greatestPart 83 = .ok (.iinc 3 1, 3) := by decide +kernel
theorem dX7_greatestPart_86 : decode cX7_greatestPart 86 = .ok (.goto (-82), 3) := by decide +kernel
theorem dX7_greatestPart_89 : decode cX7_greatestPart 89 = .ok (.iload_n 2, 1) := by decide +kernel
theorem dX7_greatestPart_90 : decode cX7_greatestPart 90 = .ok (.ireturn, 1) := by decide +kernel
theorem dX7_test_0 : decode cX7_test 0 = .ok (.aload_n 0, 1) := by decide +kernel
theorem dX7_test_1 : decode cX7_test 1 = .ok (.iload_n 1, 1) := by decide +kernel
theorem dX7_test_2 : decode cX7_test 2 = .ok (.invokevirtual 209, 3) := by decide +kernel
theorem dX7_test_5 : decode cX7_test 5 = .ok (.istore_n 2, 1) := by decide +kernel
theorem dX7_test_6 : decode cX7_test 6 = .ok (.iload_n 2, 1) := by decide +kernel
theorem dX7_test_7 : decode cX7_test 7 = .ok (.ifCond .eq 5, 3) := by decide +kernel
theorem dX7_test_10 : decode cX7_test 10 = .ok (.iload_n 2, 1) := by decide +kernel
theorem dX7_test_11 : decode cX7_test 11 = .ok (.ireturn, 1) := by decide +kernel
theorem dX7_test_12 : decode cX7_test 12 = .ok (.aload_n 0, 1) := by decide +kernel
theorem dX7_test_13 : decode cX7_test 13 = .ok (.iload_n 1, 1) := by decide +kernel
theorem dX7_test_14 : decode cX7_test 14 = .ok (.invokevirtual 212, 3) := by decide +kernel
theorem dX7_test_17 : decode cX7_test 17 = .ok (.istore_n 3, 1) := by decide +kernel
theorem dX7_test_18 : decode cX7_test 18 = .ok (.bipush (-9), 2) := by decide +kernel
theorem dX7_test_20 : decode cX7_test 20 = .ok (.istore 4, 2) := by decide +kernel
theorem dX7_test_22 : decode cX7_test 22 = .ok (.ldc 215, 2) := by decide +kernel
theorem dX7_test_24 : decode cX7_test 24 = .ok (.istore 5, 2) := by decide +kernel
theorem dX7_test_26 : decode cX7_test 26 = .ok (.iconst 0, 1) := by decide +kernel
theorem dX7_test_27 : decode cX7_test 27 = .ok (.istore 6, 2) := by decide +kernel
theorem dX7_test_29 : decode cX7_test 29 = .ok (.iload 6, 2) := by decide +kernel
theorem dX7_test_31 : decode cX7_test 31 = .ok (.bipush 20, 2) := by decide +kernel
theorem dX7_test_33 : decode cX7_test 33 = .ok (.if_icmp .gt 53, 3) := by decide +kernel
theorem dX7_test_36 : decode cX7_test 36 = .ok (.iload_n 3, 1) := by decide +kernel
theorem dX7_test_37 : decode cX7_test 37 = .ok (.ifCond .eq 49, 3) := by decide +kernel
theorem dX7_test_40 : decode cX7_test 40 = .ok (.iload_n 3, 1) := by decide +kernel
theorem dX7_test_41 : decode cX7_test 41 = .ok (.iload 6, 2) := by decide +kernel
theorem dX7_test_43 : decode cX7_test 43 = .ok (.invokestatic 216, 3) := by decide +kernel
theorem dX7_test_46 : decode cX7_test 46 = .ok (.istore 7, 2) := by decide +kernel
theorem dX7_test_48 : decode cX7_test 48 = .ok (.iload 7, 2) := by decide +kernel
theorem dX7_test_50 : decode cX7_test 50 = .ok (.iload 5, 2) := by decide +kernel
theorem dX7_test_52 : decode cX7_test 52 = .ok (.if_icmp .ge 8, 3) := by decide +kernel
theorem dX7_test_55 : decode cX7_test 55 = .ok (.iload 6, 2) := by decide +kernel
theorem dX7_test_57 : decode cX7_test 57 = .ok (.goto 5, 3) := by decide +kernel
theorem dX7_test_60 : decode cX7_test 60 = .ok (.iload 4, 2) := by decide +kernel
theorem dX7_test_62 : decode cX7_test 62 = .ok (.istore 4, 2) := by decide +kernel
theorem dX7_test_64 : decode cX7_test 64 = .ok (.iload 7, 2) := by decide +kernel
theorem dX7_test_66 : decode cX7_test 66 = .ok (.iload 5, 2) := by decide +kernel
theorem dX7_test_68 : decode cX7_test 68 = .ok (.if_icmp .ge 8, 3) := by decide +kernel
theorem dX7_test_71 : decode cX7_test 71 = .ok (.iload 7, 2) := by decide +kernel
theorem dX7_test_73 : decode cX7_test 73 = .ok (.goto 5, 3) := by decide +kernel
theorem dX7_test_76 : decode cX7_test 76 = .ok (.iload 5, 2) := by decide +kernel
theorem dX7_test_78 : decode cX7_test 78 = .ok (.istore 5, 2) := by decide +kernel
theorem dX7_test_80 : decode cX7_test 80 = .ok (.iinc 6 1, 3) := by decide +kernel
theorem dX7_test_83 : decode cX7_test 83 = .ok (.goto (-54), 3) := by decide +kernel
theorem dX7_test_86 : decode cX7_test 86 = .ok (.iload 4, 2) := by decide +kernel
theorem dX7_test_88 : decode cX7_test 88 = .ok (.bipush (-9), 2) := by decide +kernel
theorem dX7_test_90 : decode cX7_test 90 = .ok (.if_icmp .ne 7, 3) := by decide +kernel
theorem dX7_test_93 : decode cX7_test 93 = .ok (.iconst 0, 1) := by decide +kernel
theorem dX7_test_94 : decode cX7_test 94 = .ok (.goto 9, 3) := by decide +kernel
theorem dX7_test_97 : decode cX7_test 97 = .ok (.aload_n 0, 1) := by decide +kernel
theorem dX7_test_98 : decode cX7_test 98 = .ok (.iload 5, 2) := by decide +kernel
theorem dX7_test_100 : decode cX7_test 100 = .ok (.invokevirtual 87, 3) := by decide +kernel
theorem dX7_test_103 : decode cX7_test 103 = .ok (.istore 6, 2) := by decide +kernel
theorem dX7_test_105 : decode cX7_test 105 = .ok (.iload 4, 2) := by decide +kernel
theorem dX7_test_107 : decode cX7_test 107 = .ok (.ireturn, 1) := by decide +kernel
theorem dX7_goChoices_0 : decode cX7_goChoices 0 = .ok (.iconst 1, 1) := by decide +kernel
theorem dX7_goChoices_1 : decode cX7_goChoices 1 = .ok (.istore_n 2, 1) := by decide +kernel
theorem dX7_goChoices_2 : decode cX7_goChoices 2 = .ok (.aload_n 0, 1) := by decide +kernel
theorem dX7_goChoices_3 : decode cX7_goChoices 3 = .ok (.invokevirtual 193, 3) := by decide +kernel
theorem dX7_goChoices_6 : decode cX7_goChoices 6 = .ok (.iconst 0, 1) := by decide +kernel
theorem dX7_goChoices_7 : decode cX7_goChoices 7 = .ok (.istore_n 3, 1) := by decide +kernel
theorem dX7_goChoices_8 : decode cX7_goChoices 8 = .ok (.iload_n 3, 1) := by decide +kernel
theorem dX7_goChoices_9 : decode cX7_goChoices 9 = .ok (.iload_n 1, 1) := by decide +kernel
theorem dX7_goChoices_10 : decode cX7_goChoices 10 = .ok (.if_icmp .ge 93, 3) := by decide +kernel
theorem dX7_goChoices_13 : decode cX7_goChoices 13 = .ok (.iload_n 2, 1) := by decide +kernel
theorem dX7_goChoices_14 : decode cX7_goChoices 14 = .ok (.ifCond .eq 89, 3) := by decide +kernel
theorem dX7_goChoices_17 : decode cX7_goChoices 17 = .ok (.iconst 2, 1) := by decide +kernel
theorem dX7_goChoices_18 : decode cX7_goChoices 18 = .ok (.aload_n 0, 1) := by decide +kernel
theorem dX7_goChoices_19 : decode cX7_goChoices 19 = .ok (.getfield 54, 3) := by decide +kernel
theorem dX7_goChoices_22 : decode cX7_goChoices 22 = .ok (.iload_n 3, 1) := by decide +kernel
theorem dX7_goChoices_23 : decode cX7_goChoices 23 = .ok (.iaload, 1) := by decide +kernel
theorem dX7_goChoices_24 : decode cX7_goChoices 24 = .ok (.iconst 1, 1) := by decide +kernel
theorem dX7_goChoices_25 : decode cX7_goChoices 25 = .ok (.isub, 1) := by decide +kernel
theorem dX7_goChoices_26 : decode cX7_goChoices 26 = .ok (.imul, 1) := by decide +kernel
theorem dX7_goChoices_27 : decode cX7_goChoices 27 = .ok (.iload_n 3, 1) := by decide +kernel
theorem dX7_goChoices_28 : decode cX7_goChoices 28 = .ok (.iconst 2, 1) := by decide +kernel
theorem dX7_goChoices_29 : decode cX7_goChoices 29 = .ok (.irem, 1) := by decide +kernel
theorem dX7_goChoices_30 : decode cX7_goChoices 30 = .ok (.iadd, 1) := by decide +kernel
theorem dX7_goChoices_31 : decode cX7_goChoices 31 = .ok (.istore 4, 2) := by decide +kernel
theorem dX7_goChoices_33 : decode cX7_goChoices 33 = .ok (.aload_n 0, 1) := by decide +kernel
theorem dX7_goChoices_34 : decode cX7_goChoices 34 = .ok (.getfield 54, 3) := by decide +kernel
theorem dX7_goChoices_37 : decode cX7_goChoices 37 = .ok (.iload_n 3, 1) := by decide +kernel
theorem dX7_goChoices_38 : decode cX7_goChoices 38 = .ok (.iaload, 1) := by decide +kernel
theorem dX7_goChoices_39 : decode cX7_goChoices 39 = .ok (.ifCond .eq 26, 3) := by decide +kernel
theorem dX7_goChoices_42 : decode cX7_goChoices 42 = .ok (.iload 4, 2) := by decide +kernel
theorem dX7_goChoices_44 : decode cX7_goChoices 44 = .ok (.aload_n 0, 1) := by decide +kernel
theorem dX7_goChoices_45 : decode cX7_goChoices 45 = .ok (.getfield 7, 3) := by decide +kernel
theorem dX7_goChoices_48 : decode cX7_goChoices 48 = .ok (.iconst 0, 1) := by decide +kernel
theorem dX7_goChoices_49 : decode cX7_goChoices 49 = .ok (.iaload, 1) := by decide +kernel
theorem dX7_goChoices_50 : decode cX7_goChoices 50 = .ok (.if_icmp .ge 19, 3) := by decide +kernel
theorem dX7_goChoices_53 : decode cX7_goChoices 53 = .ok (.aload_n 0, 1) := by decide +kernel
theorem dX7_goChoices_54 : decode cX7_goChoices 54 = .ok (.getfield 45, 3) := by decide +kernel
theorem dX7_goChoices_57 : decode cX7_goChoices 57 = .ok (.iload 4, 2) := by decide +kernel
theorem dX7_goChoices_59 : decode cX7_goChoices 59 = .ok (.invokestatic 143, 3) := by decide +kernel
theorem dX7_goChoices_62 : decode cX7_goChoices 62 = .ok (.ifCond .eq 7, 3) := by decide +kernel
theorem dX7_goChoices_65 : decode cX7_goChoices 65 = .ok (.iconst 1, 1) := by decide +kernel
theorem dX7_goChoices_66 : decode cX7_goChoices 66 = .ok (.goto 4, 3) := by decide +kernel
theorem dX7_goChoices_69 : decode cX7_goChoices 69 = .ok (.iconst 0, 1) := by decide +kernel
theorem dX7_goChoices_70 : decode cX7_goChoices 70 = .ok (.istore_n 2, 1) := by decide +kernel
theorem dX7_goChoices_71 : decode cX7_goChoices 71 = .ok (.iload_n 2, 1) := by decide +kernel
theorem dX7_goChoices_72 : decode cX7_goChoices 72 = .ok (.ifCond .eq 25, 3) := by decide +kernel
theorem dX7_goChoices_75 : decode cX7_goChoices 75 = .ok (.aload_n 0, 1) := by decide +kernel
theorem dX7_goChoices_76 : decode cX7_goChoices 76 = .ok (.getfield 54, 3) := by decide +kernel
theorem dX7_goChoices_79 : decode cX7_goChoices 79 = .ok (.iload_n 3, 1) := by decide +kernel
theorem dX7_goChoices_80 : decode cX7_goChoices 80 = .ok (.iaload, 1) := by decide +kernel
theorem dX7_goChoices_81 : decode cX7_goChoices 81 = .ok (.ifCond .le 16, 3) := by decide +kernel
theorem dX7_goChoices_84 : decode cX7_goChoices 84 = .ok (.aload_n 0, 1) := by decide +kernel
theorem dX7_goChoices_85 : decode cX7_goChoices 85 = .ok (.aload_n 0, 1) := by decide +kernel
theorem dX7_goChoices_86 : decode cX7_goChoices 86 = .ok (.getfield 45, 3) := by decide +kernel
theorem dX7_goChoices_89 : decode cX7_goChoices 89 = .ok (.bipush 110, 2) := by decide +kernel
theorem dX7_goChoices_91 : decode cX7_goChoices 91 = .ok (.iload 4, 2) := by decide +kernel
theorem dX7_goChoices_93 : decode cX7_goChoices 93 = .ok (.iadd, 1) := by decide +kernel
theorem dX7_goChoices_94 : decode cX7_goChoices 94 = .ok (.invokevirtual 151, 3) := by decide +kernel
theorem dX7_goChoices_97 : decode cX7_goChoices 97 = .ok (.iinc 3 1, 3) := by decide +kernel
theorem dX7_goChoices_100 : decode cX7_goChoices 100 = .ok (.goto (-92), 3) := by decide +kernel
theorem dX7_goChoices_103 : decode cX7_goChoices 103 = .ok (.iload_n 2, 1) := by decide +kernel
theorem dX7_goChoices_104 : decode cX7_goChoices 104 = .ok (.ifCond .eq 33, 3) := by decide +kernel
theorem dX7_goChoices_107 : decode cX7_goChoices 107 = .ok (.aload_n 0, 1) := by decide +kernel
theorem dX7_goChoices_108 : decode cX7_goChoices 108 = .ok (.getfield 45, 3) := by decide +kernel
theorem dX7_goChoices_111 : decode cX7_goChoices 111 = .ok (.bipush 83, 2) := by decide +kernel
theorem dX7_goChoices_113 : decode cX7_goChoices 113 = .ok (.iaload, 1) := by decide +kernel
theorem dX7_goChoices_114 : decode cX7_goChoices 114 = .ok (.bipush 42, 2) := by decide +kernel
theorem dX7_goChoices_116 : decode cX7_goChoices 116 = .ok (.iand, 1) := by decide +kernel
theorem dX7_goChoices_117 : decode cX7_goChoices 117 = .ok (.invokestatic 171, 3) := by decide +kernel
theorem dX7_goChoices_120 : decode cX7_goChoices 120 = .ok (.aload_n 0, 1) := by decide +kernel
theorem dX7_goChoices_121 : decode cX7_goChoices 121 = .ok (.getfield 45, 3) := by decide +kernel
theorem dX7_goChoices_124 : decode cX7_goChoices 124 = .ok (.bipush 83, 2) := by decide +kernel
theorem dX7_goChoices_126 : decode cX7_goChoices 126 = .ok (.iaload, 1) := by decide +kernel
theorem dX7_goChoices_127 : decode cX7_goChoices 127 = .ok (.bipush 21, 2) := by decide +kernel
theorem dX7_goChoices_129 : decode cX7_goChoices 129 = .ok (.iand, 1) := by decide +kernel
theorem dX7_goChoices_130 : decode cX7_goChoices 130 = .ok (.invokestatic 171, 3) := by decide +kernel
theorem dX7_goChoices_133 : decode cX7_goChoices 133 = .ok (.isub, 1) := by decide +kernel
theorem dX7_goChoices_134 : decode cX7_goChoices 134 = .ok (.goto 5, 3) := by decide +kernel
theorem dX7_goChoices_137 : decode cX7_goChoices 137 = .ok (.ldc 215, 2) := by decide +kernel
theorem dX7_goChoices_139 : decode cX7_goChoices 139 = .ok (.ireturn, 1) := by decide +kernel
theorem dX7_startOf_0 : decode cX7_startOf 0 = .ok (.iload_n 0, 1) := by decide +kernel
theorem dX7_startOf_1 : decode cX7_startOf 1 = .ok (.iconst 2, 1) := by decide +kernel
theorem dX7_startOf_2 : decode cX7_startOf 2 = .ok (.irem, 1) := by decide +kernel
theorem dX7_startOf_3 : decode cX7_startOf 3 = .ok (.ifCond .ne 8, 3) := by decide +kernel
theorem dX7_startOf_6 : decode cX7_startOf 6 = .ok (.ldc 219, 2) := by decide +kernel
theorem dX7_startOf_8 : decode cX7_startOf 8 = .ok (.goto 5, 3) := by decide +kernel
theorem dX7_startOf_11 : decode cX7_startOf 11 = .ok (.ldc 215, 2) := by decide +kernel
theorem dX7_startOf_13 : decode cX7_startOf 13 = .ok (.ireturn, 1) := by decide +kernel
theorem dX7_weigh_0 : decode cX7_weigh 0 = .ok (.iload_n 1, 1) := by decide +kernel
theorem dX7_weigh_1 : decode cX7_weigh 1 = .ok (.iconst 2, 1) := by decide +kernel
theorem dX7_weigh_2 : decode cX7_weigh 2 = .ok (.irem, 1) := by decide +kernel
theorem dX7_weigh_3 : decode cX7_weigh 3 = .ok (.ifCond .ne 21, 3) := by decide +kernel
theorem dX7_weigh_6 : decode cX7_weigh 6 = .ok (.iload_n 2, 1) := by decide +kernel
theorem dX7_weigh_7 : decode cX7_weigh 7 = .ok (.aload_n 0, 1) := by decide +kernel
theorem dX7_weigh_8 : decode cX7_weigh 8 = .ok (.getfield 57, 3) := by decide +kernel
theorem dX7_weigh_11 : decode cX7_weigh 11 = .ok (.iload_n 1, 1) := by decide +kernel
theorem dX7_weigh_12 : decode cX7_weigh 12 = .ok (.iaload, 1) := by decide +kernel
theorem dX7_weigh_13 : decode cX7_weigh 13 = .ok (.if_icmp .le 7, 3) := by decide +kernel
theorem dX7_weigh_16 : decode cX7_weigh 16 = .ok (.iconst 1, 1) := by decide +kernel
theorem dX7_weigh_17 : decode cX7_weigh 17 = .ok (.goto 22, 3) := by decide +kernel
theorem dX7_weigh_20 : decode cX7_weigh 20 = .ok (.iconst 0, 1) := by decide +kernel
theorem dX7_weigh_21 : decode cX7_weigh 21 = .ok (.goto 18, 3) := by decide +kernel
theorem dX7_weigh_24 : decode cX7_weigh 24 = .ok (.iload_n 2, 1) := by decide +kernel
theorem dX7_weigh_25 : decode cX7_weigh 25 = .ok (.aload_n 0, 1) := by decide +kernel
theorem dX7_weigh_26 : decode cX7_weigh 26 = .ok (.getfield 57, 3) := by decide +kernel
theorem dX7_weigh_29 : decode cX7_weigh 29 = .ok (.iload_n 1, 1) := by decide +kernel
theorem dX7_weigh_30 : decode cX7_weigh 30 = .ok (.iaload, 1) := by decide +kernel
theorem dX7_weigh_31 : decode cX7_weigh 31 = .ok (.if_icmp .ge 7, 3) := by decide +kernel
theorem dX7_weigh_34 : decode cX7_weigh 34 = .ok (.iconst 1, 1) := by decide +kernel
theorem dX7_weigh_35 : decode cX7_weigh 35 = .ok (.goto 4, 3) := by decide +kernel
theorem dX7_weigh_38 : decode cX7_weigh 38 = .ok (.iconst 0, 1) := by decide +kernel
theorem dX7_weigh_39 : decode cX7_weigh 39 = .ok (.istore_n 3, 1) := by decide +kernel
theorem dX7_weigh_40 : decode cX7_weigh 40 = .ok (.aload_n 0, 1) := by decide +kernel
theorem dX7_weigh_41 : decode cX7_weigh 41 = .ok (.getfield 57, 3) := by decide +kernel
theorem dX7_weigh_44 : decode cX7_weigh 44 = .ok (.iload_n 1, 1) := by decide +kernel
theorem dX7_weigh_45 : decode cX7_weigh 45 = .ok (.iload_n 2, 1) := by decide +kernel
theorem dX7_weigh_46 : decode cX7_weigh 46 = .ok (.ldc 215, 2) := by decide +kernel
theorem dX7_weigh_48 : decode cX7_weigh 48 = .ok (.if_icmp .eq 17, 3) := by decide +kernel
theorem dX7_weigh_51 : decode cX7_weigh 51 = .ok (.iload_n 2, 1) := by decide +kernel
theorem dX7_weigh_52 : decode cX7_weigh 52 = .ok (.ldc 219, 2) := by decide +kernel
theorem dX7_weigh_54 : decode cX7_weigh 54 = .ok (.if_icmp .eq 11, 3) := by decide +kernel
theorem dX7_weigh_57 : decode cX7_weigh 57 = .ok (.iload_n 3, 1) := by decide +kernel
theorem dX7_weigh_58 : decode cX7_weigh 58 = .ok (.ifCond .eq 7, 3) := by decide +kernel
theorem dX7_weigh_61 : decode cX7_weigh 61 = .ok (.iload_n 2, 1) := by decide +kernel
theorem dX7_weigh_62 : decode cX7_weigh 62 = .ok (.goto 9, 3) := by decide +kernel
theorem dX7_weigh_65 : decode cX7_weigh 65 = .ok (.aload_n 0, 1) := by decide +kernel
theorem dX7_weigh_66 : decode cX7_weigh 66 = .ok (.getfield 57, 3) := by decide +kernel
theorem dX7_weigh_69 : decode cX7_weigh 69 = .ok (.iload_n 1, 1) := by decide +kernel
theorem dX7_weigh_70 : decode cX7_weigh 70 = .ok (.iaload, 1) := by decide +kernel
theorem dX7_weigh_71 : decode cX7_weigh 71 = .ok (.iastore, 1) := by decide +kernel
theorem dX7_weigh_72 : decode cX7_weigh 72 = .ok (.return_, 1) := by decide +kernel
theorem dX7_duel_0 : decode cX7_duel 0 = .ok (.iload_n 1, 1) := by decide +kernel
theorem dX7_duel_1 : decode cX7_duel 1 = .ok (.i2l, 1) := by decide +kernel
theorem dX7_duel_2 : decode cX7_duel 2 = .ok (.lconst 0, 1) := by decide +kernel
theorem dX7_duel_3 : decode cX7_duel 3 = .ok (.ldc2_w 73, 3) := by decide +kernel
theorem dX7_duel_6 : decode cX7_duel 6 = .ok (.invokestatic 69, 3) := by decide +kernel
theorem dX7_duel_9 : decode cX7_duel 9 = .ok (.ifCond .ne 5, 3) := by decide +kernel
theorem dX7_duel_12 : decode cX7_duel 12 = .ok (.iconst (-1), 1) := by decide +kernel
theorem dX7_duel_13 : decode cX7_duel 13 = .ok (.ireturn, 1) := by decide +kernel
theorem dX7_duel_14 : decode cX7_duel 14 = .ok (.aload_n 0, 1) := by decide +kernel
theorem dX7_duel_15 : decode cX7_duel 15 = .ok (.getfield 7, 3) := by decide +kernel
theorem dX7_duel_18 : decode cX7_duel 18 = .ok (.iconst 0, 1) := by decide +kernel
theorem dX7_duel_19 : decode cX7_duel 19 = .ok (.iaload, 1) := by decide +kernel
theorem dX7_duel_20 : decode cX7_duel 20 = .ok (.ifCond .ne 6, 3) := by decide +kernel
theorem dX7_duel_23 : decode cX7_duel 23 = .ok (.bipush (-4), 2) := by decide +kernel
theorem dX7_duel_25 : decode cX7_duel 25 = .ok (.ireturn, 1) := by decide +kernel
theorem dX7_duel_26 : decode cX7_duel 26 = .ok (.iconst 2, 1) := by decide +kernel
theorem dX7_duel_27 : decode cX7_duel 27 = .ok (.iload_n 1, 1) := by decide +kernel
theorem dX7_duel_28 : decode cX7_duel 28 = .ok (.imul, 1) := by decide +kernel
theorem dX7_duel_29 : decode cX7_duel 29 = .ok (.istore_n 2, 1) := by decide +kernel
theorem dX7_duel_30 : decode cX7_duel 30 = .ok (.iconst 0, 1) := by decide +kernel
theorem dX7_duel_31 : decode cX7_duel 31 = .ok (.istore_n 3, 1) := by decide +kernel
theorem dX7_duel_32 : decode cX7_duel 32 = .ok (.iconst 0, 1) := by decide +kernel
theorem dX7_duel_33 : decode cX7_duel 33 = .ok (.istore 4, 2) := by decide +kernel
theorem dX7_duel_35 : decode cX7_duel 35 = .ok (.iload 4, 2) := by decide +kernel
theorem dX7_duel_37 : decode cX7_duel 37 = .ok (.iload_n 2, 1) := by decide +kernel
theorem dX7_duel_38 : decode cX7_duel 38 = .ok (.if_icmp .ge 29, 3) := by decide +kernel
theorem dX7_duel_41 : decode cX7_duel 41 = .ok (.aload_n 0, 1) := by decide +kernel
theorem dX7_duel_42 : decode cX7_duel 42 = .ok (.getfield 54, 3) := by decide +kernel
theorem dX7_duel_45 : decode cX7_duel 45 = .ok (.iload 4, 2) := by decide +kernel
theorem dX7_duel_47 : decode cX7_duel 47 = .ok (.iconst 0, 1) := by decide +kernel
theorem dX7_duel_48 : decode cX7_duel 48 = .ok (.iastore, 1) := by decide +kernel
theorem dX7_duel_49 : decode cX7_duel 49 = .ok (.aload_n 0, 1) := by decide +kernel
theorem dX7_duel_50 : decode cX7_duel 50 = .ok (.getfield 57, 3) := by decide +kernel
theorem dX7_duel_53 : decode cX7_duel 53 = .ok (.iload 4, 2) := by decide +kernel
theorem dX7_duel_55 : decode cX7_duel 55 = .ok (.iload 4, 2) := by decide +kernel
theorem dX7_duel_57 : decode cX7_duel 57 = .ok (.invokestatic 220, 3) := by decide +kernel
theorem dX7_duel_60 : decode cX7_duel 60 = .ok (.iastore, 1) := by decide +kernel
theorem dX7_duel_61 : decode cX7_duel 61 = .ok (.iinc 4 1, 3) := by decide +kernel
theorem dX7_duel_64 : decode cX7_duel 64 = .ok (.goto (-29), 3) := by decide +kernel
theorem dX7_duel_67 : decode cX7_duel 67 = .ok (.iconst 1, 1) := by decide +kernel
theorem dX7_duel_68 : decode cX7_duel 68 = .ok (.istore 4, 2) := by decide +kernel
theorem dX7_duel_70 : decode cX7_duel 70 = .ok (.iload 4, 2) := by decide +kernel
theorem dX7_duel_72 : decode cX7_duel 72 = .ok (.ifCond .eq 117, 3) := by decide +kernel
theorem dX7_duel_75 : decode cX7_duel 75 = .ok (.aload_n 0, 1) := by decide +kernel
theorem dX7_duel_76 : decode cX7_duel 76 = .ok (.iload_n 2, 1) := by decide +kernel
theorem dX7_duel_77 : decode cX7_duel 77 = .ok (.invokevirtual 223, 3) := by decide +kernel
theorem dX7_duel_80 : decode cX7_duel 80 = .ok (.istore_n 3, 1) := by decide +kernel
theorem dX7_duel_81 : decode cX7_duel 81 = .ok (.iload_n 2, 1) := by decide +kernel
theorem dX7_duel_82 : decode cX7_duel 82 = .ok (.iconst 1, 1) := by decide +kernel
theorem dX7_duel_83 : decode cX7_duel 83 = .ok (.isub, 1) := by decide +kernel
theorem dX7_duel_84 : decode cX7_duel 84 = .ok (.istore 5, 2) := by decide +kernel
theorem dX7_duel_86 : decode cX7_duel 86 = .ok (.iconst 1, 1) := by decide +kernel
theorem dX7_duel_87 : decode cX7_duel 87 = .ok (.istore 6, 2) := by decide +kernel
theorem dX7_duel_89 : decode cX7_duel 89 = .ok (.iload 5, 2) := by decide +kernel
theorem dX7_duel_91 : decode cX7_duel 91 = .ok (.ifCond .lt 83, 3) := by decide +kernel
theorem dX7_duel_94 : decode cX7_duel 94 = .ok (.iload 6, 2) := by decide +kernel
theorem dX7_duel_96 : decode cX7_duel 96 = .ok (.ifCond .eq 78, 3) := by decide +kernel
theorem dX7_duel_99 : decode cX7_duel 99 = .ok (.aload_n 0, 1) := by decide +kernel
theorem dX7_duel_100 : decode cX7_duel 100 = .ok (.iload 5, 2) := by decide +kernel
theorem dX7_duel_102 : decode cX7_duel 102 = .ok (.iload_n 3, 1) := by decide +kernel
theorem dX7_duel_103 : decode cX7_duel 103 = .ok (.invokevirtual 226, 3) := by decide +kernel
theorem dX7_duel_106 : decode cX7_duel 106 = .ok (.aload_n 0, 1) := by decide +kernel
theorem dX7_duel_107 : decode cX7_duel 107 = .ok (.getfield 54, 3) := by decide +kernel
theorem dX7_duel_110 : decode cX7_duel 110 = .ok (.iload 5, 2) := by decide +kernel
theorem dX7_duel_112 : decode cX7_duel 112 = .ok (.dup2, 1) := by decide +kernel
theorem dX7_duel_113 : decode cX7_duel 113 = .ok (.iaload, 1) := by decide +kernel
theorem dX7_duel_114 : decode cX7_duel 114 = .ok (.iconst 1, 1) := by decide +kernel
theorem dX7_duel_115 : decode cX7_duel 115 = .ok (.iadd, 1) := by decide +kernel
theorem dX7_duel_116 : decode cX7_duel 116 = .ok (.iastore, 1) := by decide +kernel
theorem dX7_duel_117 : decode cX7_duel 117 = .ok (.aload_n 0, 1) := by decide +kernel
theorem dX7_duel_118 : decode cX7_duel 118 = .ok (.getfield 54, 3) := by decide +kernel
theorem dX7_duel_121 : decode cX7_duel 121 = .ok (.iload 5, 2) := by decide +kernel
theorem dX7_duel_123 : decode cX7_duel 123 = .ok (.iaload, 1) := by decide +kernel
theorem dX7_duel_124 : decode cX7_duel 124 = .ok (.iconst 4, 1) := by decide +kernel
theorem dX7_duel_125 : decode cX7_duel 125 = .ok (.if_icmp .ne 7, 3) := by decide +kernel
theorem dX7_duel_128 : decode cX7_duel 128 = .ok (.iconst 1, 1) := by decide +kernel
theorem dX7_duel_129 : decode cX7_duel 129 = .ok (.goto 4, 3) := by decide +kernel
theorem dX7_duel_132 : decode cX7_duel 132 = .ok (.iconst 0, 1) := by decide +kernel
theorem dX7_duel_133 : decode cX7_duel 133 = .ok (.istore 6, 2) := by decide +kernel
theorem dX7_duel_135 : decode cX7_duel 135 = .ok (.iload 6, 2) := by decide +kernel
theorem dX7_duel_137 : decode cX7_duel 137 = .ok (.ifCond .eq (-48), 3) := by decide +kernel
theorem dX7_duel_140 : decode cX7_duel 140 = .ok (.aload_n 0, 1) := by decide +kernel
theorem dX7_duel_141 : decode cX7_duel 141 = .ok (.getfield 57, 3) := by decide +kernel
theorem dX7_duel_144 : decode cX7_duel 144 = .ok (.iload 5, 2) := by decide +kernel
theorem dX7_duel_146 : decode cX7_duel 146 = .ok (.iaload, 1) := by decide +kernel
theorem dX7_duel_147 : decode cX7_duel 147 = .ok (.istore_n 3, 1) := by decide +kernel
theorem dX7_duel_148 : decode cX7_duel 148 = .ok (.aload_n 0, 1) := by decide +kernel
theorem dX7_duel_149 : decode cX7_duel 149 = .ok (.getfield 54, 3) := by decide +kernel
theorem dX7_duel_152 : decode cX7_duel 152 = .ok (.iload 5, 2) := by decide +kernel
theorem dX7_duel_154 : decode cX7_duel 154 = .ok (.iconst 0, 1) := by decide +kernel
theorem dX7_duel_155 : decode cX7_duel 155 = .ok (.iastore, 1) := by decide +kernel
theorem dX7_duel_156 : decode cX7_duel 156 = .ok (.aload_n 0, 1) := by decide +kernel
theorem dX7_duel_157 : decode cX7_duel 157 = .ok (.getfield 57, 3) := by decide +kernel
theorem dX7_duel_160 : decode cX7_duel 160 = .ok (.iload 5, 2) := by decide +kernel
theorem dX7_duel_162 : decode cX7_duel 162 = .ok (.iload 5, 2) := by decide +kernel
theorem dX7_duel_164 : decode cX7_duel 164 = .ok (.invokestatic 220, 3) := by decide +kernel
theorem dX7_duel_167 : decode cX7_duel 167 = .ok (.iastore, 1) := by decide +kernel
theorem dX7_duel_168 : decode cX7_duel 168 = .ok (.iinc 5 (-1), 3) := by decide +kernel
theorem dX7_duel_171 : decode cX7_duel 171 = .ok (.goto (-82), 3) := by decide +kernel
theorem dX7_duel_174 : decode cX7_duel 174 = .ok (.iload 5, 2) := by decide +kernel
theorem dX7_duel_176 : decode cX7_duel 176 = .ok (.ifCond .lt 7, 3) := by decide +kernel
theorem dX7_duel_179 : decode cX7_duel 179 = .ok (.iconst 1, 1) := by decide +kernel
theorem dX7_duel_180 : decode cX7_duel 180 = .ok (.goto 4, 3) := by decide +kernel
theorem dX7_duel_183 : decode cX7_duel 183 = .ok (.iconst 0, 1) := by decide +kernel
theorem dX7_duel_184 : decode cX7_duel 184 = .ok (.istore 4, 2) := by decide +kernel
theorem dX7_duel_186 : decode cX7_duel 186 = .ok (.goto (-116), 3) := by decide +kernel
theorem dX7_duel_189 : decode cX7_duel 189 = .ok (.aload_n 0, 1) := by decide +kernel
theorem dX7_duel_190 : decode cX7_duel 190 = .ok (.iload_n 3, 1) := by decide +kernel
theorem dX7_duel_191 : decode cX7_duel 191 = .ok (.invokevirtual 87, 3) := by decide +kernel
theorem dX7_duel_194 : decode cX7_duel 194 = .ok (.ireturn, 1) := by decide +kernel
theorem dX7_fraction_0 : decode cX7_fraction 0 = .ok (.lload_n 1, 1) := by decide +kernel
theorem dX7_fraction_1 : decode cX7_fraction 1 = .ok (.lstore 5, 2) := by decide +kernel
theorem dX7_fraction_3 : decode cX7_fraction 3 = .ok (.lload_n 3, 1) := by decide +kernel
theorem dX7_fraction_4 : decode cX7_fraction 4 = .ok (.lstore 7, 2) := by decide +kernel
theorem dX7_fraction_6 : decode cX7_fraction 6 = .ok (.lload 7, 2) := by decide +kernel
theorem dX7_fraction_8 : decode cX7_fraction 8 = .ok (.lconst 0, 1) := by decide +kernel
theorem dX7_fraction_9 : decode cX7_fraction 9 = .ok (.lcmp, 1) := by decide +kernel
theorem dX7_fraction_10 : decode cX7_fraction 10 = .ok (.ifCond .eq 21, 3) := by decide +kernel
theorem dX7_fraction_13 : decode cX7_fraction 13 = .ok (.lload 5, 2) := by decide +kernel
theorem dX7_fraction_15 : decode cX7_fraction 15 = .ok (.lload 7, 2) := by decide +kernel
theorem dX7_fraction_17 : decode cX7_fraction 17 = .ok (.lrem, 1) := by decide +kernel
theorem dX7_fraction_18 : decode cX7_fraction 18 = .ok (.lstore 9, 2) := by decide +kernel
theorem dX7_fraction_20 : decode cX7_fraction 20 = .ok (.lload 7, 2) := by decide +kernel
theorem dX7_fraction_22 : decode cX7_fraction 22 = .ok (.lstore 5, 2) := by decide +kernel
theorem dX7_fraction_24 : decode cX7_fraction 24 = .ok (.lload 9, 2) := by decide +kernel
theorem dX7_fraction_26 : decode cX7_fraction 26 = .ok (.lstore 7, 2) := by decide +kernel
theorem dX7_fraction_28 : decode cX7_fraction 28 = .ok (.goto (-22), 3) := by decide +kernel
theorem dX7_fraction_31 : decode cX7_fraction 31 = .ok (.aload_n 0, 1) := by decide +kernel
theorem dX7_fraction_32 : decode cX7_fraction 32 = .ok (.lload_n 1, 1) := by decide +kernel
theorem dX7_fraction_33 : decode cX7_fraction 33 = .ok (.lload 5, 2) := by decide +kernel
theorem dX7_fraction_35 : decode cX7_fraction 35 = .ok (.ldiv, 1) := by decide +kernel
theorem dX7_fraction_36 : decode cX7_fraction 36 = .ok (.putfield 230, 3) := by decide +kernel
theorem dX7_fraction_39 : decode cX7_fraction 39 = .ok (.aload_n 0, 1) := by decide +kernel
theorem dX7_fraction_40 : decode cX7_fraction 40 = .ok (.lload_n 3, 1) := by decide +kernel
theorem dX7_fraction_41 : decode cX7_fraction 41 = .ok (.lload 5, 2) := by decide +kernel
theorem dX7_fraction_43 : decode cX7_fraction 43 = .ok (.ldiv, 1) := by decide +kernel
theorem dX7_fraction_44 : decode cX7_fraction 44 = .ok (.putfield 35, 3) := by decide +kernel
theorem dX7_fraction_47 : decode cX7_fraction 47 = .ok (.return_, 1) := by decide +kernel
theorem dX7_goOdds_0 : decode cX7_goOdds 0 = .ok (.iconst 1, 1) := by decide +kernel
theorem dX7_goOdds_1 : decode cX7_goOdds 1 = .ok (.aload_n 0, 1) := by decide +kernel
theorem dX7_goOdds_2 : decode cX7_goOdds 2 = .ok (.getfield 7, 3) := by decide +kernel
theorem dX7_goOdds_5 : decode cX7_goOdds 5 = .ok (.iconst 0, 1) := by decide +kernel
theorem dX7_goOdds_6 : decode cX7_goOdds 6 = .ok (.iaload, 1) := by decide +kernel
theorem dX7_goOdds_7 : decode cX7_goOdds 7 = .ok (.ishl, 1) := by decide +kernel
theorem dX7_goOdds_8 : decode cX7_goOdds 8 = .ok (.iconst 1, 1) := by decide +kernel
theorem dX7_goOdds_9 : decode cX7_goOdds 9 = .ok (.isub, 1) := by decide +kernel
theorem dX7_goOdds_10 : decode cX7_goOdds 10 = .ok (.aload_n 0, 1) := by decide +kernel
theorem dX7_goOdds_11 : decode cX7_goOdds 11 = .ok (.getfield 7, 3) := by decide +kernel
theorem dX7_goOdds_14 : decode cX7_goOdds 14 = .ok (.bipush 83, 2) := by decide +kernel
theorem dX7_goOdds_16 : decode cX7_goOdds 16 = .ok (.iaload, 1) := by decide +kernel
theorem dX7_goOdds_17 : decode cX7_goOdds 17 = .ok (.iconst (-1), 1) := by decide +kernel
theorem dX7_goOdds_18 : decode cX7_goOdds 18 = .ok (.ixor, 1) := by decide +kernel
theorem dX7_goOdds_19 : decode cX7_goOdds 19 = .ok (.iand, 1) := by decide +kernel
theorem dX7_goOdds_20 : decode cX7_goOdds 20 = .ok (.istore_n 3, 1) := by decide +kernel
theorem dX7_goOdds_21 : decode cX7_goOdds 21 = .ok (.lconst 0, 1) := by decide +kernel
theorem dX7_goOdds_22 : decode cX7_goOdds 22 = .ok (.lstore 4, 2) := by decide +kernel
theorem dX7_goOdds_24 : decode cX7_goOdds 24 = .ok (.lconst 1, 1) := by decide +kernel
theorem dX7_goOdds_25 : decode cX7_goOdds 25 = .ok (.lstore 6, 2) := by decide +kernel
theorem dX7_goOdds_27 : decode cX7_goOdds 27 = .ok (.iconst 0, 1) := by decide +kernel
theorem dX7_goOdds_28 : decode cX7_goOdds 28 = .ok (.istore 8, 2) := by decide +kernel
theorem dX7_goOdds_30 : decode cX7_goOdds 30 = .ok (.iload 8, 2) := by decide +kernel
theorem dX7_goOdds_32 : decode cX7_goOdds 32 = .ok (.iload_n 3, 1) := by decide +kernel
theorem dX7_goOdds_33 : decode cX7_goOdds 33 = .ok (.invokestatic 171, 3) := by decide +kernel
theorem dX7_goOdds_36 : decode cX7_goOdds 36 = .ok (.if_icmp .ge 17, 3) := by decide +kernel
theorem dX7_goOdds_39 : decode cX7_goOdds 39 = .ok (.lload 6, 2) := by decide +kernel
theorem dX7_goOdds_41 : decode cX7_goOdds 41 = .ok (.ldc2_w 233, 3) := by decide +kernel
theorem dX7_goOdds_44 : decode cX7_goOdds 44 = .ok (.lmul, 1) := by decide +kernel
theorem dX7_goOdds_45 : decode cX7_goOdds 45 = .ok (.lstore 6, 2) := by decide +kernel
theorem dX7_goOdds_47 : decode cX7_goOdds 47 = .ok (.iinc 8 1, 3) := by decide +kernel
theorem dX7_goOdds_50 : decode cX7_goOdds 50 = .ok (.goto (-20), 3) := by decide +kernel
theorem dX7_goOdds_53 : decode cX7_goOdds 53 = .ok (.iconst 0, 1) := by decide +kernel
theorem dX7_goOdds_54 : decode cX7_goOdds 54 = .ok (.istore 8, 2) := by decide +kernel
theorem dX7_goOdds_56 : decode cX7_goOdds 56 = .ok (.iload 8, 2) := by decide +kernel
theorem dX7_goOdds_58 : decode cX7_goOdds 58 = .ok (.iconst 1, 1) := by decide +kernel
theorem dX7_goOdds_59 : decode cX7_goOdds 59 = .ok (.aload_n 0, 1) := by decide +kernel
theorem dX7_goOdds_60 : decode cX7_goOdds 60 = .ok (.getfield 7, 3) := by decide +kernel
theorem dX7_goOdds_63 : decode cX7_goOdds 63 = .ok (.iconst 0, 1) := by decide +kernel
theorem dX7_goOdds_64 : decode cX7_goOdds 64 = .ok (.iaload, 1) := by decide +kernel
theorem dX7_goOdds_65 : decode cX7_goOdds 65 = .ok (.ishl, 1) := by decide +kernel
theorem dX7_goOdds_66 : decode cX7_goOdds 66 = .ok (.if_icmp .ge 116, 3) := by decide +kernel
theorem dX7_goOdds_69 : decode cX7_goOdds 69 = .ok (.iload 8, 2) := by decide +kernel
theorem dX7_goOdds_71 : decode cX7_goOdds 71 = .ok (.iload_n 3, 1) := by decide +kernel
theorem dX7_goOdds_72 : decode cX7_goOdds 72 = .ok (.iconst (-1), 1) := by decide +kernel
theorem dX7_goOdds_73 : decode cX7_goOdds 73 = .ok (.ixor, 1) := by decide +kernel
theorem dX7_goOdds_74 : decode cX7_goOdds 74 = .ok (.iand, 1) := by decide +kernel
theorem dX7_goOdds_75 : decode cX7_goOdds 75 = .ok (.ifCond .ne 7, 3) := by decide +kernel
theorem dX7_goOdds_78 : decode cX7_goOdds 78 = .ok (.lconst 1, 1) := by decide +kernel
theorem dX7_goOdds_79 : decode cX7_goOdds 79 = .ok (.goto 4, 3) := by decide +kernel
theorem dX7_goOdds_82 : decode cX7_goOdds 82 = .ok (.lconst 0, 1) := by decide +kernel
theorem dX7_goOdds_83 : decode cX7_goOdds 83 = .ok (.lstore 9, 2) := by decide +kernel
theorem dX7_goOdds_85 : decode cX7_goOdds 85 = .ok (.iconst 0, 1) := by decide +kernel
theorem dX7_goOdds_86 : decode cX7_goOdds 86 = .ok (.istore 11, 2) := by decide +kernel
theorem dX7_goOdds_88 : decode cX7_goOdds 88 = .ok (.iload 11, 2) := by decide +kernel
theorem dX7_goOdds_90 : decode cX7_goOdds 90 = .ok (.aload_n 0, 1) := by decide +kernel
theorem dX7_goOdds_91 : decode cX7_goOdds 91 = .ok (.getfield 7, 3) := by decide +kernel
theorem dX7_goOdds_94 : decode cX7_goOdds 94 = .ok (.iconst 0, 1) := by decide +kernel
theorem dX7_goOdds_95 : decode cX7_goOdds 95 = .ok (.iaload, 1) := by decide +kernel
theorem dX7_goOdds_96 : decode cX7_goOdds 96 = .ok (.if_icmp .ge 47, 3) := by decide +kernel
theorem dX7_goOdds_99 : decode cX7_goOdds 99 = .ok (.lload 9, 2) := by decide +kernel
theorem dX7_goOdds_101 : decode cX7_goOdds 101 = .ok (.iload_n 3, 1) := by decide +kernel
theorem dX7_goOdds_102 : decode cX7_goOdds 102 = .ok (.iload 11, 2) := by decide +kernel
theorem dX7_goOdds_104 : decode cX7_goOdds 104 = .ok (.invokestatic 130, 3) := by decide +kernel
theorem dX7_goOdds_107 : decode cX7_goOdds 107 = .ok (.ifCond .ne 7, 3) := by decide +kernel
theorem dX7_goOdds_110 : decode cX7_goOdds 110 = .ok (.lconst 1, 1) := by decide +kernel
theorem dX7_goOdds_111 : decode cX7_goOdds 111 = .ok (.goto 23, 3) := by decide +kernel
theorem dX7_goOdds_114 : decode cX7_goOdds 114 = .ok (.iload 8, 2) := by decide +kernel
theorem dX7_goOdds_116 : decode cX7_goOdds 116 = .ok (.iload 11, 2) := by decide +kernel
theorem dX7_goOdds_118 : decode cX7_goOdds 118 = .ok (.invokestatic 130, 3) := by decide +kernel
theorem dX7_goOdds_121 : decode cX7_goOdds 121 = .ok (.ifCond .eq 8, 3) := by decide +kernel
theorem dX7_goOdds_124 : decode cX7_goOdds 124 = .ok (.iload_n 2, 1) := by decide +kernel
theorem dX7_goOdds_125 : decode cX7_goOdds 125 = .ok (.i2l, 1) := by decide +kernel
theorem dX7_goOdds_126 : decode cX7_goOdds 126 = .ok (.goto 8, 3) := by decide +kernel
theorem dX7_goOdds_129 : decode cX7_goOdds 129 = .ok (.bipush 12, 2) := by decide +kernel
theorem dX7_goOdds_131 : decode cX7_goOdds 131 = .ok (.iload_n 2, 1) := by decide +kernel
theorem dX7_goOdds_132 : decode cX7_goOdds 132 = .ok (.isub, 1) := by decide +kernel
theorem dX7_goOdds_133 : decode cX7_goOdds 133 = .ok (.i2l, 1) := by decide +kernel
theorem dX7_goOdds_134 : decode cX7_goOdds 134 = .ok (.lmul, 1) := by decide +kernel
theorem dX7_goOdds_135 : decode cX7_goOdds 135 = .ok (.lstore 9, 2) := by decide +kernel
theorem dX7_goOdds_137 : decode cX7_goOdds 137 = .ok (.iinc 11 1, 3) := by decide +kernel
theorem dX7_goOdds_140 : decode cX7_goOdds 140 = .ok (.goto (-52), 3) := by decide +kernel
theorem dX7_goOdds_143 : decode cX7_goOdds 143 = .ok (.lload 4, 2) := by decide +kernel
theorem dX7_goOdds_145 : decode cX7_goOdds 145 = .ok (.lload 9, 2) := by decide +kernel
theorem dX7_goOdds_147 : decode cX7_goOdds 147 = .ok (.aload_n 0, 1) := by decide +kernel
theorem dX7_goOdds_148 : decode cX7_goOdds 148 = .ok (.getfield 7, 3) := by decide +kernel
theorem dX7_goOdds_151 : decode cX7_goOdds 151 = .ok (.aload_n 0, 1) := by decide +kernel
theorem dX7_goOdds_152 : decode cX7_goOdds 152 = .ok (.getfield 7, 3) := by decide +kernel
theorem dX7_goOdds_155 : decode cX7_goOdds 155 = .ok (.invokestatic 167, 3) := by decide +kernel
theorem dX7_goOdds_158 : decode cX7_goOdds 158 = .ok (.iload 8, 2) := by decide +kernel
theorem dX7_goOdds_160 : decode cX7_goOdds 160 = .ok (.iconst (-1), 1) := by decide +kernel
theorem dX7_goOdds_161 : decode cX7_goOdds 161 = .ok (.ixor, 1) := by decide +kernel
theorem dX7_goOdds_162 : decode cX7_goOdds 162 = .ok (.iand, 1) := by decide +kernel
theorem dX7_goOdds_163 : decode cX7_goOdds 163 = .ok (.invokestatic 200, 3) := by decide +kernel
theorem dX7_goOdds_166 : decode cX7_goOdds 166 = .ok (.iload_n 1, 1) := by decide +kernel
theorem dX7_goOdds_167 : decode cX7_goOdds 167 = .ok (.iand, 1) := by decide +kernel
theorem dX7_goOdds_168 : decode cX7_goOdds 168 = .ok (.invokestatic 171, 3) := by decide +kernel
theorem dX7_goOdds_171 : decode cX7_goOdds 171 = .ok (.i2l, 1) := by decide +kernel
theorem dX7_goOdds_172 : decode cX7_goOdds 172 = .ok (.lmul, 1) := by decide +kernel
theorem dX7_goOdds_173 : decode cX7_goOdds 173 = .ok (.ladd, 1) := by decide +kernel
theorem dX7_goOdds_174 : decode cX7_goOdds 174 = .ok (.lstore 4, 2) := by decide +kernel
theorem dX7_goOdds_176 : decode cX7_goOdds 176 = .ok (.iinc 8 1, 3) := by decide +kernel
theorem dX7_goOdds_179 : decode cX7_goOdds 179 = .ok (.goto (-123), 3) := by decide +kernel
theorem dX7_goOdds_182 : decode cX7_goOdds 182 = .ok (.aload_n 0, 1) := by decide +kernel
theorem dX7_goOdds_183 : decode cX7_goOdds 183 = .ok (.lload 4, 2) := by decide +kernel
theorem dX7_goOdds_185 : decode cX7_goOdds 185 = .ok (.lload 6, 2) := by decide +kernel
theorem dX7_goOdds_187 : decode cX7_goOdds 187 = .ok (.invokevirtual 235, 3) := by decide +kernel
theorem dX7_goOdds_190 : decode cX7_goOdds 190 = .ok (.return_, 1) := by decide +kernel
theorem dX7_odds_0 : decode cX7_odds 0 = .ok (.iload_n 1, 1) := by decide +kernel
theorem dX7_odds_1 : decode cX7_odds 1 = .ok (.i2l, 1) := by decide +kernel
theorem dX7_odds_2 : decode cX7_odds 2 = .ok (.lconst 0, 1) := by decide +kernel
theorem dX7_odds_3 : decode cX7_odds 3 = .ok (.aload_n 0, 1) := by decide +kernel
theorem dX7_odds_4 : decode cX7_odds 4 = .ok (.getfield 7, 3) := by decide +kernel
theorem dX7_odds_7 : decode cX7_odds 7 = .ok (.iconst 1, 1) := by decide +kernel
theorem dX7_odds_8 : decode cX7_odds 8 = .ok (.iaload, 1) := by decide +kernel
theorem dX7_odds_9 : decode cX7_odds 9 = .ok (.iconst 1, 1) := by decide +kernel
theorem dX7_odds_10 : decode cX7_odds 10 = .ok (.isub, 1) := by decide +kernel
theorem dX7_odds_11 : decode cX7_odds 11 = .ok (.i2l, 1) := by decide +kernel
theorem dX7_odds_12 : decode cX7_odds 12 = .ok (.invokestatic 69, 3) := by decide +kernel
theorem dX7_odds_15 : decode cX7_odds 15 = .ok (.ifCond .eq 15, 3) := by decide +kernel
theorem dX7_odds_18 : decode cX7_odds 18 = .ok (.iload_n 2, 1) := by decide +kernel
theorem dX7_odds_19 : decode cX7_odds 19 = .ok (.i2l, 1) := by decide +kernel
theorem dX7_odds_20 : decode cX7_odds 20 = .ok (.lconst 0, 1) := by decide +kernel
theorem dX7_odds_21 : decode cX7_odds 21 = .ok (.ldc2_w 233, 3) := by decide +kernel
theorem dX7_odds_24 : decode cX7_odds 24 = .ok (.invokestatic 69, 3) := by decide +kernel
theorem dX7_odds_27 : decode cX7_odds 27 = .ok (.ifCond .ne 5, 3) := by decide +kernel
theorem dX7_odds_30 : decode cX7_odds 30 = .ok (.iconst (-1), 1) := by decide +kernel
theorem dX7_odds_31 : decode cX7_odds 31 = .ok (.ireturn, 1) := by decide +kernel
theorem dX7_odds_32 : decode cX7_odds 32 = .ok (.aload_n 0, 1) := by decide +kernel
theorem dX7_odds_33 : decode cX7_odds 33 = .ok (.iconst 1, 1) := by decide +kernel
theorem dX7_odds_34 : decode cX7_odds 34 = .ok (.iload_n 1, 1) := by decide +kernel
theorem dX7_odds_35 : decode cX7_odds 35 = .ok (.ishl, 1) := by decide +kernel
theorem dX7_odds_36 : decode cX7_odds 36 = .ok (.iload_n 2, 1) := by decide +kernel
theorem dX7_odds_37 : decode cX7_odds 37 = .ok (.invokevirtual 239, 3) := by decide +kernel
theorem dX7_odds_40 : decode cX7_odds 40 = .ok (.iconst 1, 1) := by decide +kernel
theorem dX7_odds_41 : decode cX7_odds 41 = .ok (.ireturn, 1) := by decide +kernel
theorem dX7_mid_0 : decode cX7_mid 0 = .ok (.iload_n 1, 1) := by decide +kernel
theorem dX7_mid_1 : decode cX7_mid 1 = .ok (.i2l, 1) := by decide +kernel
theorem dX7_mid_2 : decode cX7_mid 2 = .ok (.lconst 0, 1) := by decide +kernel
theorem dX7_mid_3 : decode cX7_mid 3 = .ok (.ldc2_w 233, 3) := by decide +kernel
theorem dX7_mid_6 : decode cX7_mid 6 = .ok (.invokestatic 69, 3) := by decide +kernel
theorem dX7_mid_9 : decode cX7_mid 9 = .ok (.ifCond .ne 5, 3) := by decide +kernel
theorem dX7_mid_12 : decode cX7_mid 12 = .ok (.iconst (-1), 1) := by decide +kernel
theorem dX7_mid_13 : decode cX7_mid 13 = .ok (.ireturn, 1) := by decide +kernel
theorem dX7_mid_14 : decode cX7_mid 14 = .ok (.aload_n 0, 1) := by decide +kernel
theorem dX7_mid_15 : decode cX7_mid 15 = .ok (.getfield 7, 3) := by decide +kernel
theorem dX7_mid_18 : decode cX7_mid 18 = .ok (.iconst 0, 1) := by decide +kernel
theorem dX7_mid_19 : decode cX7_mid 19 = .ok (.iaload, 1) := by decide +kernel
theorem dX7_mid_20 : decode cX7_mid 20 = .ok (.ifCond .ne 6, 3) := by decide +kernel
theorem dX7_mid_23 : decode cX7_mid 23 = .ok (.bipush (-4), 2) := by decide +kernel
theorem dX7_mid_25 : decode cX7_mid 25 = .ok (.ireturn, 1) := by decide +kernel
theorem dX7_mid_26 : decode cX7_mid 26 = .ok (.aload_n 0, 1) := by decide +kernel
theorem dX7_mid_27 : decode cX7_mid 27 = .ok (.bipush 15, 2) := by decide +kernel
theorem dX7_mid_29 : decode cX7_mid 29 = .ok (.iload_n 1, 1) := by decide +kernel
theorem dX7_mid_30 : decode cX7_mid 30 = .ok (.invokevirtual 239, 3) := by decide +kernel
theorem dX7_mid_33 : decode cX7_mid 33 = .ok (.iconst 1, 1) := by decide +kernel
theorem dX7_mid_34 : decode cX7_mid 34 = .ok (.ireturn, 1) := by decide +kernel
theorem dX7_deedBy_0 : decode cX7_deedBy 0 = .ok (.lload_n 1, 1) := by decide +kernel
theorem dX7_deedBy_1 : decode cX7_deedBy 1 = .ok (.aload_n 0, 1) := by decide +kernel
theorem dX7_deedBy_2 : decode cX7_deedBy 2 = .ok (.getfield 7, 3) := by decide +kernel
theorem dX7_deedBy_5 : decode cX7_deedBy 5 = .ok (.iconst 0, 1) := by decide +kernel
theorem dX7_deedBy_6 : decode cX7_deedBy 6 = .ok (.iaload, 1) := by decide +kernel
theorem dX7_deedBy_7 : decode cX7_deedBy 7 = .ok (.i2l, 1) := by decide +kernel
theorem dX7_deedBy_8 : decode cX7_deedBy 8 = .ok (.lrem, 1) := by decide +kernel
theorem dX7_deedBy_9 : decode cX7_deedBy 9 = .ok (.l2i, 1) := by decide +kernel
theorem dX7_deedBy_10 : decode cX7_deedBy 10 = .ok (.istore_n 3, 1) := by decide +kernel
theorem dX7_deedBy_11 : decode cX7_deedBy 11 = .ok (.lload_n 1, 1) := by decide +kernel
theorem dX7_deedBy_12 : decode cX7_deedBy 12 = .ok (.ldc2_w 242, 3) := by decide +kernel
theorem dX7_deedBy_15 : decode cX7_deedBy 15 = .ok (.ldiv, 1) := by decide +kernel
theorem dX7_deedBy_16 : decode cX7_deedBy 16 = .ok (.ldc2_w 242, 3) := by decide +kernel
theorem dX7_deedBy_19 : decode cX7_deedBy 19 = .ok (.lrem, 1) := by decide +kernel
theorem dX7_deedBy_20 : decode cX7_deedBy 20 = .ok (.l2i, 1) := by decide +kernel
theorem dX7_deedBy_21 : decode cX7_deedBy 21 = .ok (.istore 4, 2) := by decide +kernel
theorem dX7_deedBy_23 : decode cX7_deedBy 23 = .ok (.iload 4, 2) := by decide +kernel
theorem dX7_deedBy_25 : decode cX7_deedBy 25 = .ok (.iconst 5, 1) := by decide +kernel
theorem dX7_deedBy_26 : decode cX7_deedBy 26 = .ok (.if_icmp .ge 39, 3) := by decide +kernel
theorem dX7_deedBy_29 : decode cX7_deedBy 29 = .ok (.aload_n 0, 1) := by decide +kernel
theorem dX7_deedBy_30 : decode cX7_deedBy 30 = .ok (.getfield 7, 3) := by decide +kernel
theorem dX7_deedBy_33 : decode cX7_deedBy 33 = .ok (.iload_n 3, 1) := by decide +kernel
theorem dX7_deedBy_34 : decode cX7_deedBy 34 = .ok (.invokestatic 143, 3) := by decide +kernel
theorem dX7_deedBy_37 : decode cX7_deedBy 37 = .ok (.ifCond .eq 26, 3) := by decide +kernel
theorem dX7_deedBy_40 : decode cX7_deedBy 40 = .ok (.bipush 100, 2) := by decide +kernel
theorem dX7_deedBy_42 : decode cX7_deedBy 42 = .ok (.bipush 10, 2) := by decide +kernel
theorem dX7_deedBy_44 : decode cX7_deedBy 44 = .ok (.iconst 1, 1) := by decide +kernel
theorem dX7_deedBy_45 : decode cX7_deedBy 45 = .ok (.lload_n 1, 1) := by decide +kernel
theorem dX7_deedBy_46 : decode cX7_deedBy 46 = .ok (.ldc2_w 244, 3) := by decide +kernel
theorem dX7_deedBy_49 : decode cX7_deedBy 49 = .ok (.ldiv, 1) := by decide +kernel
theorem dX7_deedBy_50 : decode cX7_deedBy 50 = .ok (.ldc2_w 246, 3) := by decide +kernel
theorem dX7_deedBy_53 : decode cX7_deedBy 53 = .ok (.lrem, 1) := by decide +kernel
theorem dX7_deedBy_54 : decode cX7_deedBy 54 = .ok (.l2i, 1) := by decide +kernel
theorem dX7_deedBy_55 : decode cX7_deedBy 55 = .ok (.iadd, 1) := by decide +kernel
theorem dX7_deedBy_56 : decode cX7_deedBy 56 = .ok (.imul, 1) := by decide +kernel
theorem dX7_deedBy_57 : decode cX7_deedBy 57 = .ok (.iadd, 1) := by decide +kernel
theorem dX7_deedBy_58 : decode cX7_deedBy 58 = .ok (.iload_n 3, 1) := by decide +kernel
theorem dX7_deedBy_59 : decode cX7_deedBy 59 = .ok (.iadd, 1) := by decide +kernel
theorem dX7_deedBy_60 : decode cX7_deedBy 60 = .ok (.goto 4, 3) := by decide +kernel
theorem dX7_deedBy_63 : decode cX7_deedBy 63 = .ok (.iconst 0, 1) := by decide +kernel
theorem dX7_deedBy_64 : decode cX7_deedBy 64 = .ok (.ireturn, 1) := by decide +kernel
theorem dX7_deedBy_65 : decode cX7_deedBy 65 = .ok (.iload 4, 2) := by decide +kernel
theorem dX7_deedBy_67 : decode cX7_deedBy 67 = .ok (.iconst 5, 1) := by decide +kernel
theorem dX7_deedBy_68 : decode cX7_deedBy 68 = .ok (.if_icmp .ne 47, 3) := by decide +kernel
theorem dX7_deedBy_71 : decode cX7_deedBy 71 = .ok (.aload_n 0, 1) := by decide +kernel
theorem dX7_deedBy_72 : decode cX7_deedBy 72 = .ok (.getfield 7, 3) := by decide +kernel
theorem dX7_deedBy_75 : decode cX7_deedBy 75 = .ok (.bipush 83, 2) := by decide +kernel
theorem dX7_deedBy_77 : decode cX7_deedBy 77 = .ok (.iaload, 1) := by decide +kernel
theorem dX7_deedBy_78 : decode cX7_deedBy 78 = .ok (.iload_n 3, 1) := by decide +kernel
theorem dX7_deedBy_79 : decode cX7_deedBy 79 = .ok (.invokestatic 130, 3) := by decide +kernel
theorem dX7_deedBy_82 : decode cX7_deedBy 82 = .ok (.ifCond .eq 7, 3) := by decide +kernel
theorem dX7_deedBy_85 : decode cX7_deedBy 85 = .ok (.iconst 0, 1) := by decide +kernel
theorem dX7_deedBy_86 : decode cX7_deedBy 86 = .ok (.goto 28, 3) := by decide +kernel
theorem dX7_deedBy_89 : decode cX7_deedBy 89 = .ok (.aload_n 0, 1) := by decide +kernel
theorem dX7_deedBy_90 : decode cX7_deedBy 90 = .ok (.getfield 7, 3) := by decide +kernel
theorem dX7_deedBy_93 : decode cX7_deedBy 93 = .ok (.bipush 82, 2) := by decide +kernel
theorem dX7_deedBy_95 : decode cX7_deedBy 95 = .ok (.iaload, 1) := by decide +kernel
theorem dX7_deedBy_96 : decode cX7_deedBy 96 = .ok (.iload_n 3, 1) := by decide +kernel
theorem dX7_deedBy_97 : decode cX7_deedBy 97 = .ok (.invokestatic 130, 3) := by decide +kernel
theorem dX7_deedBy_100 : decode cX7_deedBy 100 = .ok (.ifCond .eq 9, 3) := by decide +kernel
theorem dX7_deedBy_103 : decode cX7_deedBy 103 = .ok (.sipush 300, 3) := by decide +kernel
theorem dX7_deedBy_106 : decode cX7_deedBy 106 = .ok (.goto 6, 3) := by decide +kernel
theorem dX7_deedBy_109 : decode cX7_deedBy 109 = .ok (.sipush 200, 3) := by decide +kernel
theorem dX7_deedBy_112 : decode cX7_deedBy 112 = .ok (.iload_n 3, 1) := by decide +kernel
theorem dX7_deedBy_113 : decode cX7_deedBy 113 = .ok (.iadd, 1) := by decide +kernel
theorem dX7_deedBy_114 : decode cX7_deedBy 114 = .ok (.ireturn, 1) := by decide +kernel
theorem dX7_deedBy_115 : decode cX7_deedBy 115 = .ok (.iload 4, 2) := by decide +kernel
theorem dX7_deedBy_117 : decode cX7_deedBy 117 = .ok (.bipush 7, 2) := by decide +kernel
theorem dX7_deedBy_119 : decode cX7_deedBy 119 = .ok (.if_icmp .ne 17, 3) := by decide +kernel
theorem dX7_deedBy_122 : decode cX7_deedBy 122 = .ok (.sipush 601, 3) := by decide +kernel
theorem dX7_deedBy_125 : decode cX7_deedBy 125 = .ok (.aload_n 0, 1) := by decide +kernel
theorem dX7_deedBy_126 : decode cX7_deedBy 126 = .ok (.getfield 7, 3) := by decide +kernel
theorem dX7_deedBy_129 : decode cX7_deedBy 129 = .ok (.bipush 84, 2) := by decide +kernel
theorem dX7_deedBy_131 : decode cX7_deedBy 131 = .ok (.iaload, 1) := by decide +kernel
theorem dX7_deedBy_132 : decode cX7_deedBy 132 = .ok (.isub, 1) := by decide +kernel
theorem dX7_deedBy_133 : decode cX7_deedBy 133 = .ok (.goto 26, 3) := by decide +kernel
theorem dX7_deedBy_136 : decode cX7_deedBy 136 = .ok (.aload_n 0, 1) := by decide +kernel
theorem dX7_deedBy_137 : decode cX7_deedBy 137 = .ok (.getfield 7, 3) := by decide +kernel
theorem dX7_deedBy_140 : decode cX7_deedBy 140 = .ok (.bipush 83, 2) := by decide +kernel
theorem dX7_deedBy_142 : decode cX7_deedBy 142 = .ok (.iaload, 1) := by decide +kernel
theorem dX7_deedBy_143 : decode cX7_deedBy 143 = .ok (.iload_n 3, 1) := by decide +kernel
theorem dX7_deedBy_144 : decode cX7_deedBy 144 = .ok (.invokestatic 130, 3) := by decide +kernel
theorem dX7_deedBy_147 : decode cX7_deedBy 147 = .ok (.ifCond .eq 11, 3) := by decide +kernel
theorem dX7_deedBy_150 : decode cX7_deedBy 150 = .ok (.sipush 500, 3) := by decide +kernel
theorem dX7_deedBy_153 : decode cX7_deedBy 153 = .ok (.iload_n 3, 1) := by decide +kernel
theorem dX7_deedBy_154 : decode cX7_deedBy 154 = .ok (.iadd, 1) := by decide +kernel
theorem dX7_deedBy_155 : decode cX7_deedBy 155 = .ok (.goto 4, 3) := by decide +kernel
theorem dX7_deedBy_158 : decode cX7_deedBy 158 = .ok (.iconst 0, 1) := by decide +kernel
theorem dX7_deedBy_159 : decode cX7_deedBy 159 = .ok (.ireturn, 1) := by decide +kernel
theorem dX7_lots_0 : decode cX7_lots 0 = .ok (.iload_n 1, 1) := by decide +kernel
theorem dX7_lots_1 : decode cX7_lots 1 = .ok (.i2l, 1) := by decide +kernel
theorem dX7_lots_2 : decode cX7_lots 2 = .ok (.lconst 1, 1) := by decide +kernel
theorem dX7_lots_3 : decode cX7_lots 3 = .ok (.ldc2_w 248, 3) := by decide +kernel
theorem dX7_lots_6 : decode cX7_lots 6 = .ok (.invokestatic 69, 3) := by decide +kernel
theorem dX7_lots_9 : decode cX7_lots 9 = .ok (.ifCond .eq 15, 3) := by decide +kernel
theorem dX7_lots_12 : decode cX7_lots 12 = .ok (.iload_n 2, 1) := by decide +kernel
theorem dX7_lots_13 : decode cX7_lots 13 = .ok (.i2l, 1) := by decide +kernel
theorem dX7_lots_14 : decode cX7_lots 14 = .ok (.lconst 1, 1) := by decide +kernel
theorem dX7_lots_15 : decode cX7_lots 15 = .ok (.ldc2_w 250, 3) := by decide +kernel
theorem dX7_lots_18 : decode cX7_lots 18 = .ok (.invokestatic 69, 3) := by decide +kernel
theorem dX7_lots_21 : decode cX7_lots 21 = .ok (.ifCond .ne 5, 3) := by decide +kernel
theorem dX7_lots_24 : decode cX7_lots 24 = .ok (.iconst (-1), 1) := by decide +kernel
theorem dX7_lots_25 : decode cX7_lots 25 = .ok (.ireturn, 1) := by decide +kernel
theorem dX7_lots_26 : decode cX7_lots 26 = .ok (.aload_n 0, 1) := by decide +kernel
theorem dX7_lots_27 : decode cX7_lots 27 = .ok (.getfield 7, 3) := by decide +kernel
theorem dX7_lots_30 : decode cX7_lots 30 = .ok (.iconst 0, 1) := by decide +kernel
theorem dX7_lots_31 : decode cX7_lots 31 = .ok (.iaload, 1) := by decide +kernel
theorem dX7_lots_32 : decode cX7_lots 32 = .ok (.ifCond .ne 6, 3) := by decide +kernel
theorem dX7_lots_35 : decode cX7_lots 35 = .ok (.bipush (-4), 2) := by decide +kernel
theorem dX7_lots_37 : decode cX7_lots 37 = .ok (.ireturn, 1) := by decide +kernel
theorem dX7_lots_38 : decode cX7_lots 38 = .ok (.aload_n 0, 1) := by decide +kernel
theorem dX7_lots_39 : decode cX7_lots 39 = .ok (.getfield 7, 3) := by decide +kernel
theorem dX7_lots_42 : decode cX7_lots 42 = .ok (.bipush 35, 2) := by decide +kernel
theorem dX7_lots_44 : decode cX7_lots 44 = .ok (.iaload, 1) := by decide +kernel
theorem dX7_lots_45 : decode cX7_lots 45 = .ok (.iload_n 1, 1) := by decide +kernel
theorem dX7_lots_46 : decode cX7_lots 46 = .ok (.iadd, 1) := by decide +kernel
theorem dX7_lots_47 : decode cX7_lots 47 = .ok (.bipush 40, 2) := by decide +kernel
theorem dX7_lots_49 : decode cX7_lots 49 = .ok (.if_icmp .le 6, 3) := by decide +kernel
theorem dX7_lots_52 : decode cX7_lots 52 = .ok (.bipush (-2), 2) := by decide +kernel
theorem dX7_lots_54 : decode cX7_lots 54 = .ok (.ireturn, 1) := by decide +kernel
theorem dX7_lots_55 : decode cX7_lots 55 = .ok (.iload_n 2, 1) := by decide +kernel
theorem dX7_lots_56 : decode cX7_lots 56 = .ok (.i2l, 1) := by decide +kernel
theorem dX7_lots_57 : decode cX7_lots 57 = .ok (.lstore_n 3, 1) := by decide +kernel
theorem dX7_lots_58 : decode cX7_lots 58 = .ok (.iconst 0, 1) := by decide +kernel
theorem dX7_lots_59 : decode cX7_lots 59 = .ok (.istore 5, 2) := by decide +kernel
theorem dX7_lots_61 : decode cX7_lots 61 = .ok (.iload 5, 2) := by decide +kernel
theorem dX7_lots_63 : decode cX7_lots 63 = .ok (.iload_n 1, 1) := by decide +kernel
theorem dX7_lots_64 : decode cX7_lots 64 = .ok (.if_icmp .ge 28, 3) := by decide +kernel
theorem dX7_lots_67 : decode cX7_lots 67 = .ok (.lload_n 3, 1) := by decide +kernel
theorem dX7_lots_68 : decode cX7_lots 68 = .ok (.ldc2_w 252, 3) := by decide +kernel
theorem dX7_lots_71 : decode cX7_lots 71 = .ok (.lmul, 1) := by decide +kernel
theorem dX7_lots_72 : decode cX7_lots 72 = .ok (.ldc2_w 254, 3) := by decide +kernel
theorem dX7_lots_75 : decode cX7_lots 75 = .ok (.lrem, 1) := by decide +kernel
theorem dX7_lots_76 : decode cX7_lots 76 = .ok (.lstore_n 3, 1) := by decide +kernel
theorem dX7_lots_77 : decode cX7_lots 77 = .ok (.aload_n 0, 1) := by decide +kernel
theorem dX7_lots_78 : decode cX7_lots 78 = .ok (.aload_n 0, 1) := by decide +kernel
theorem dX7_lots_79 : decode cX7_lots 79 = .ok (.lload_n 3, 1) := by decide +kernel
theorem dX7_lots_80 : decode cX7_lots 80 = .ok (.invokevirtual 256, 3) := by decide +kernel
theorem dX7_lots_83 : decode cX7_lots 83 = .ok (.invokevirtual 177, 3) := by decide +kernel
theorem dX7_lots_86 : decode cX7_lots 86 = .ok (.iinc 5 1, 3) := by decide +kernel
theorem dX7_lots_89 : decode cX7_lots 89 = .ok (.goto (-28), 3) := by decide +kernel
theorem dX7_lots_92 : decode cX7_lots 92 = .ok (.aload_n 0, 1) := by decide +kernel
theorem dX7_lots_93 : decode cX7_lots 93 = .ok (.getfield 7, 3) := by decide +kernel
theorem dX7_lots_96 : decode cX7_lots 96 = .ok (.aload_n 0, 1) := by decide +kernel
theorem dX7_lots_97 : decode cX7_lots 97 = .ok (.getfield 7, 3) := by decide +kernel
theorem dX7_lots_100 : decode cX7_lots 100 = .ok (.invokestatic 167, 3) := by decide +kernel
theorem dX7_lots_103 : decode cX7_lots 103 = .ok (.invokestatic 200, 3) := by decide +kernel
theorem dX7_lots_106 : decode cX7_lots 106 = .ok (.invokestatic 171, 3) := by decide +kernel
theorem dX7_lots_109 : decode cX7_lots 109 = .ok (.ireturn, 1) := by decide +kernel
theorem dX7_asked_0 : decode cX7_asked 0 = .ok (.aload_n 0, 1) := by decide +kernel
theorem dX7_asked_1 : decode cX7_asked 1 = .ok (.getfield 64, 3) := by decide +kernel
theorem dX7_asked_4 : decode cX7_asked 4 = .ok (.ireturn, 1) := by decide +kernel
theorem dX7_upper_0 : decode cX7_upper 0 = .ok (.aload_n 0, 1) := by decide +kernel
theorem dX7_upper_1 : decode cX7_upper 1 = .ok (.getfield 230, 3) := by decide +kernel
theorem dX7_upper_4 : decode cX7_upper 4 = .ok (.lreturn, 1) := by decide +kernel
theorem dX7_lower_0 : decode cX7_lower 0 = .ok (.aload_n 0, 1) := by decide +kernel
theorem dX7_lower_1 : decode cX7_lower 1 = .ok (.getfield 35, 3) := by decide +kernel
theorem dX7_lower_4 : decode cX7_lower 4 = .ok (.lreturn, 1) := by decide +kernel
theorem dX7_manyThere_0 : decode cX7_manyThere 0 = .ok (.iconst 0, 1) := by decide +kernel
theorem dX7_manyThere_1 : decode cX7_manyThere 1 = .ok (.istore_n 2, 1) := by decide +kernel
theorem dX7_manyThere_2 : decode cX7_manyThere 2 = .ok (.iconst 0, 1) := by decide +kernel
theorem dX7_manyThere_3 : decode cX7_manyThere 3 = .ok (.istore_n 3, 1) := by decide +kernel
theorem dX7_manyThere_4 : decode cX7_manyThere 4 = .ok (.iload_n 3, 1) := by decide +kernel
theorem dX7_manyThere_5 : decode cX7_manyThere 5 = .ok (.iload_n 1, 1) := by decide +kernel
theorem dX7_manyThere_6 : decode cX7_manyThere 6 = .ok (.if_icmp .ge 23, 3) := by decide +kernel
theorem dX7_manyThere_9 : decode cX7_manyThere 9 = .ok (.iload_n 2, 1) := by decide +kernel
theorem dX7_manyThere_10 : decode cX7_manyThere 10 = .ok (.aload_n 0, 1) := by decide +kernel
theorem dX7_manyThere_11 : decode cX7_manyThere 11 = .ok (.iload_n 3, 1) := by decide +kernel
theorem dX7_manyThere_12 : decode cX7_manyThere 12 = .ok (.iaload, 1) := by decide +kernel
theorem dX7_manyThere_13 : decode cX7_manyThere 13 = .ok (.ifCond .ge 7, 3) := by decide +kernel
theorem dX7_manyThere_16 : decode cX7_manyThere 16 = .ok (.iconst 0, 1) := by decide +kernel
theorem dX7_manyThere_17 : decode cX7_manyThere 17 = .ok (.goto 4, 3) := by decide +kernel
theorem dX7_manyThere_20 : decode cX7_manyThere 20 = .ok (.iconst 1, 1) := by decide +kernel
theorem dX7_manyThere_21 : decode cX7_manyThere 21 = .ok (.iadd, 1) := by decide +kernel
theorem dX7_manyThere_22 : decode cX7_manyThere 22 = .ok (.istore_n 2, 1) := by decide +kernel
theorem dX7_manyThere_23 : decode cX7_manyThere 23 = .ok (.iinc 3 1, 3) := by decide +kernel
theorem dX7_manyThere_26 : decode cX7_manyThere 26 = .ok (.goto (-22), 3) := by decide +kernel
theorem dX7_manyThere_29 : decode cX7_manyThere 29 = .ok (.iload_n 2, 1) := by decide +kernel
theorem dX7_manyThere_30 : decode cX7_manyThere 30 = .ok (.ireturn, 1) := by decide +kernel
theorem dX7_manyOf_0 : decode cX7_manyOf 0 = .ok (.iconst 0, 1) := by decide +kernel
theorem dX7_manyOf_1 : decode cX7_manyOf 1 = .ok (.istore_n 2, 1) := by decide +kernel
theorem dX7_manyOf_2 : decode cX7_manyOf 2 = .ok (.iconst 0, 1) := by decide +kernel
theorem dX7_manyOf_3 : decode cX7_manyOf 3 = .ok (.istore_n 3, 1) := by decide +kernel
theorem dX7_manyOf_4 : decode cX7_manyOf 4 = .ok (.iload_n 3, 1) := by decide +kernel
theorem dX7_manyOf_5 : decode cX7_manyOf 5 = .ok (.aload_n 0, 1) := by decide +kernel
theorem dX7_manyOf_6 : decode cX7_manyOf 6 = .ok (.getfield 7, 3) := by decide +kernel
theorem dX7_manyOf_9 : decode cX7_manyOf 9 = .ok (.iconst 0, 1) := by decide +kernel
theorem dX7_manyOf_10 : decode cX7_manyOf 10 = .ok (.iaload, 1) := by decide +kernel
theorem dX7_manyOf_11 : decode cX7_manyOf 11 = .ok (.if_icmp .ge 32, 3) := by decide +kernel
theorem dX7_manyOf_14 : decode cX7_manyOf 14 = .ok (.iload_n 2, 1) := by decide +kernel
theorem dX7_manyOf_15 : decode cX7_manyOf 15 = .ok (.aload_n 0, 1) := by decide +kernel
theorem dX7_manyOf_16 : decode cX7_manyOf 16 = .ok (.getfield 7, 3) := by decide +kernel
theorem dX7_manyOf_19 : decode cX7_manyOf 19 = .ok (.iconst 2, 1) := by decide +kernel
theorem dX7_manyOf_20 : decode cX7_manyOf 20 = .ok (.iload_n 3, 1) := by decide +kernel
theorem dX7_manyOf_21 : decode cX7_manyOf 21 = .ok (.iadd, 1) := by decide +kernel
theorem dX7_manyOf_22 : decode cX7_manyOf 22 = .ok (.iaload, 1) := by decide +kernel
theorem dX7_manyOf_23 : decode cX7_manyOf 23 = .ok (.iload_n 1, 1) := by decide +kernel
theorem dX7_manyOf_24 : decode cX7_manyOf 24 = .ok (.invokestatic 161, 3) := by decide +kernel
theorem dX7_manyOf_27 : decode cX7_manyOf 27 = .ok (.ifCond .eq 7, 3) := by decide +kernel
theorem dX7_manyOf_30 : decode cX7_manyOf 30 = .ok (.iconst 1, 1) := by decide +kernel
theorem dX7_manyOf_31 : decode cX7_manyOf 31 = .ok (.goto 4, 3) := by decide +kernel
theorem dX7_manyOf_34 : decode cX7_manyOf 34 = .ok (.iconst 0, 1) := by decide +kernel
theorem dX7_manyOf_35 : decode cX7_manyOf 35 = .ok (.iadd, 1) := by decide +kernel
theorem dX7_manyOf_36 : decode cX7_manyOf 36 = .ok (.istore_n 2, 1) := by decide +kernel
theorem dX7_manyOf_37 : decode cX7_manyOf 37 = .ok (.iinc 3 1, 3) := by decide +kernel
theorem dX7_manyOf_40 : decode cX7_manyOf 40 = .ok (.goto (-36), 3) := by decide +kernel
theorem dX7_manyOf_43 : decode cX7_manyOf 43 = .ok (.iload_n 2, 1) := by decide +kernel
theorem dX7_manyOf_44 : decode cX7_manyOf 44 = .ok (.ireturn, 1) := by decide +kernel
theorem dX7_allStrain_0 : decode cX7_allStrain 0 = .ok (.iconst 0, 1) := by decide +kernel
theorem dX7_allStrain_1 : decode cX7_allStrain 1 = .ok (.istore_n 1, 1) := by decide +kernel
theorem dX7_allStrain_2 : decode cX7_allStrain 2 = .ok (.iconst 0, 1) := by decide +kernel
theorem dX7_allStrain_3 : decode cX7_allStrain 3 = .ok (.istore_n 2, 1) := by decide +kernel
theorem dX7_allStrain_4 : decode cX7_allStrain 4 = .ok (.iload_n 2, 1) := by decide +kernel
theorem dX7_allStrain_5 : decode cX7_allStrain 5 = .ok (.aload_n 0, 1) := by decide +kernel
theorem dX7_allStrain_6 : decode cX7_allStrain 6 = .ok (.getfield 7, 3) := by decide +kernel
theorem dX7_allStrain_9 : decode cX7_allStrain 9 = .ok (.iconst 0, 1) := by decide +kernel
theorem dX7_allStrain_10 : decode cX7_allStrain 10 = .ok (.iaload, 1) := by decide +kernel
theorem dX7_allStrain_11 : decode cX7_allStrain 11 = .ok (.if_icmp .ge 21, 3) := by decide +kernel
theorem dX7_allStrain_14 : decode cX7_allStrain 14 = .ok (.iload_n 1, 1) := by decide +kernel
theorem dX7_allStrain_15 : decode cX7_allStrain 15 = .ok (.aload_n 0, 1) := by decide +kernel
theorem dX7_allStrain_16 : decode cX7_allStrain 16 = .ok (.getfield 7, 3) := by decide +kernel
theorem dX7_allStrain_19 : decode cX7_allStrain 19 = .ok (.bipush 76, 2) := by decide +kernel
theorem dX7_allStrain_21 : decode cX7_allStrain 21 = .ok (.iload_n 2, 1) := by decide +kernel
theorem dX7_allStrain_22 : decode cX7_allStrain 22 = .ok (.iadd, 1) := by decide +kernel
theorem dX7_allStrain_23 : decode cX7_allStrain 23 = .ok (.iaload, 1) := by decide +kernel
theorem dX7_allStrain_24 : decode cX7_allStrain 24 = .ok (.iadd, 1) := by decide +kernel
theorem dX7_allStrain_25 : decode cX7_allStrain 25 = .ok (.istore_n 1, 1) := by decide +kernel
theorem dX7_allStrain_26 : decode cX7_allStrain 26 = .ok (.iinc 2 1, 3) := by decide +kernel
theorem dX7_allStrain_29 : decode cX7_allStrain 29 = .ok (.goto (-25), 3) := by decide +kernel
theorem dX7_allStrain_32 : decode cX7_allStrain 32 = .ok (.iload_n 1, 1) := by decide +kernel
theorem dX7_allStrain_33 : decode cX7_allStrain 33 = .ok (.ireturn, 1) := by decide +kernel
theorem dX7_counted_0 : decode cX7_counted 0 = .ok (.iload_n 1, 1) := by decide +kernel
theorem dX7_counted_1 : decode cX7_counted 1 = .ok (.tableswitch 153 0 11 #[63, 70, 77, 85, 93, 101, 109, 117, 122, 128, 134, 144], 63) := by decide +kernel
theorem dX7_counted_64 : decode cX7_counted 64 = .ok (.aload_n 0, 1) := by decide +kernel
theorem dX7_counted_65 : decode cX7_counted 65 = .ok (.getfield 7, 3) := by decide +kernel
theorem dX7_counted_68 : decode cX7_counted 68 = .ok (.iconst 0, 1) := by decide +kernel
theorem dX7_counted_69 : decode cX7_counted 69 = .ok (.iaload, 1) := by decide +kernel
theorem dX7_counted_70 : decode cX7_counted 70 = .ok (.ireturn, 1) := by decide +kernel
theorem dX7_counted_71 : decode cX7_counted 71 = .ok (.aload_n 0, 1) := by decide +kernel
theorem dX7_counted_72 : decode cX7_counted 72 = .ok (.getfield 7, 3) := by decide +kernel
theorem dX7_counted_75 : decode cX7_counted 75 = .ok (.iconst 1, 1) := by decide +kernel
theorem dX7_counted_76 : decode cX7_counted 76 = .ok (.iaload, 1) := by decide +kernel
theorem dX7_counted_77 : decode cX7_counted 77 = .ok (.ireturn, 1) := by decide +kernel
theorem dX7_counted_78 : decode cX7_counted 78 = .ok (.aload_n 0, 1) := by decide +kernel
theorem dX7_counted_79 : decode cX7_counted 79 = .ok (.getfield 7, 3) := by decide +kernel
theorem dX7_counted_82 : decode cX7_counted 82 = .ok (.bipush 35, 2) := by decide +kernel
theorem dX7_counted_84 : decode cX7_counted 84 = .ok (.iaload, 1) := by decide +kernel
theorem dX7_counted_85 : decode cX7_counted 85 = .ok (.ireturn, 1) := by decide +kernel
theorem dX7_counted_86 : decode cX7_counted 86 = .ok (.aload_n 0, 1) := by decide +kernel
theorem dX7_counted_87 : decode cX7_counted 87 = .ok (.getfield 7, 3) := by decide +kernel
theorem dX7_counted_90 : decode cX7_counted 90 = .ok (.bipush 84, 2) := by decide +kernel
theorem dX7_counted_92 : decode cX7_counted 92 = .ok (.iaload, 1) := by decide +kernel
theorem dX7_counted_93 : decode cX7_counted 93 = .ok (.ireturn, 1) := by decide +kernel
theorem dX7_counted_94 : decode cX7_counted 94 = .ok (.aload_n 0, 1) := by decide +kernel
theorem dX7_counted_95 : decode cX7_counted 95 = .ok (.getfield 7, 3) := by decide +kernel
theorem dX7_counted_98 : decode cX7_counted 98 = .ok (.invokestatic 167, 3) := by decide +kernel
theorem dX7_counted_101 : decode cX7_counted 101 = .ok (.ireturn, 1) := by decide +kernel
theorem dX7_counted_102 : decode cX7_counted 102 = .ok (.aload_n 0, 1) := by decide +kernel
theorem dX7_counted_103 : decode cX7_counted 103 = .ok (.getfield 7, 3) := by decide +kernel
theorem dX7_counted_106 : decode cX7_counted 106 = .ok (.bipush 82, 2) := by decide +kernel
theorem dX7_counted_108 : decode cX7_counted 108 = .ok (.iaload, 1) := by decide +kernel
theorem dX7_counted_109 : decode cX7_counted 109 = .ok (.ireturn, 1) := by decide +kernel
theorem dX7_counted_110 : decode cX7_counted 110 = .ok (.aload_n 0, 1) := by decide +kernel
theorem dX7_counted_111 : decode cX7_counted 111 = .ok (.getfield 7, 3) := by decide +kernel
theorem dX7_counted_114 : decode cX7_counted 114 = .ok (.bipush 83, 2) := by decide +kernel
theorem dX7_counted_116 : decode cX7_counted 116 = .ok (.iaload, 1) := by decide +kernel
theorem dX7_counted_117 : decode cX7_counted 117 = .ok (.ireturn, 1) := by decide +kernel
theorem dX7_counted_118 : decode cX7_counted 118 = .ok (.aload_n 0, 1) := by decide +kernel
theorem dX7_counted_119 : decode cX7_counted 119 = .ok (.invokevirtual 260, 3) := by decide +kernel
theorem dX7_counted_122 : decode cX7_counted 122 = .ok (.ireturn, 1) := by decide +kernel
theorem dX7_counted_123 : decode cX7_counted 123 = .ok (.aload_n 0, 1) := by decide +kernel
theorem dX7_counted_124 : decode cX7_counted 124 = .ok (.iconst 1, 1) := by decide +kernel
theorem dX7_counted_125 : decode cX7_counted 125 = .ok (.invokevirtual 264, 3) := by decide +kernel
theorem dX7_counted_128 : decode cX7_counted 128 = .ok (.ireturn, 1) := by decide +kernel
theorem dX7_counted_129 : decode cX7_counted 129 = .ok (.aload_n 0, 1) := by decide +kernel
theorem dX7_counted_130 : decode cX7_counted 130 = .ok (.iconst 3, 1) := by decide +kernel
theorem dX7_counted_131 : decode cX7_counted 131 = .ok (.invokevirtual 264, 3) := by decide +kernel
theorem dX7_counted_134 : decode cX7_counted 134 = .ok (.ireturn, 1) := by decide +kernel
theorem dX7_counted_135 : decode cX7_counted 135 = .ok (.aload_n 0, 1) := by decide +kernel
theorem dX7_counted_136 : decode cX7_counted 136 = .ok (.getfield 23, 3) := by decide +kernel
theorem dX7_counted_139 : decode cX7_counted 139 = .ok (.bipush 6, 2) := by decide +kernel
theorem dX7_counted_141 : decode cX7_counted 141 = .ok (.invokestatic 267, 3) := by decide +kernel
theorem dX7_counted_144 : decode cX7_counted 144 = .ok (.ireturn, 1) := by decide +kernel
theorem dX7_counted_145 : decode cX7_counted 145 = .ok (.aload_n 0, 1) := by decide +kernel
theorem dX7_counted_146 : decode cX7_counted 146 = .ok (.getfield 29, 3) := by decide +kernel
theorem dX7_counted_149 : decode cX7_counted 149 = .ok (.iconst 4, 1) := by decide +kernel
theorem dX7_counted_150 : decode cX7_counted 150 = .ok (.invokestatic 267, 3) := by decide +kernel
theorem dX7_counted_153 : decode cX7_counted 153 = .ok (.ireturn, 1) := by decide +kernel
theorem dX7_counted_154 : decode cX7_counted 154 = .ok (.aload_n 0, 1) := by decide +kernel
theorem dX7_counted_155 : decode cX7_counted 155 = .ok (.getfield 16, 3) := by decide +kernel
theorem dX7_counted_158 : decode cX7_counted 158 = .ok (.iconst 0, 1) := by decide +kernel
theorem dX7_counted_159 : decode cX7_counted 159 = .ok (.baload, 1) := by decide +kernel
theorem dX7_counted_160 : decode cX7_counted 160 = .ok (.ifCond .eq 7, 3) := by decide +kernel
theorem dX7_counted_163 : decode cX7_counted 163 = .ok (.iconst 1, 1) := by decide +kernel
theorem dX7_counted_164 : decode cX7_counted 164 = .ok (.goto 4, 3) := by decide +kernel
theorem dX7_counted_167 : decode cX7_counted 167 = .ok (.iconst 0, 1) := by decide +kernel
theorem dX7_counted_168 : decode cX7_counted 168 = .ok (.aload_n 0, 1) := by decide +kernel
theorem dX7_counted_169 : decode cX7_counted 169 = .ok (.getfield 16, 3) := by decide +kernel
theorem dX7_counted_172 : decode cX7_counted 172 = .ok (.iconst 1, 1) := by decide +kernel
theorem dX7_counted_173 : decode cX7_counted 173 = .ok (.baload, 1) := by decide +kernel
theorem dX7_counted_174 : decode cX7_counted 174 = .ok (.ifCond .eq 7, 3) := by decide +kernel
theorem dX7_counted_177 : decode cX7_counted 177 = .ok (.iconst 1, 1) := by decide +kernel
theorem dX7_counted_178 : decode cX7_counted 178 = .ok (.goto 4, 3) := by decide +kernel
theorem dX7_counted_181 : decode cX7_counted 181 = .ok (.iconst 0, 1) := by decide +kernel
theorem dX7_counted_182 : decode cX7_counted 182 = .ok (.iadd, 1) := by decide +kernel
theorem dX7_counted_183 : decode cX7_counted 183 = .ok (.aload_n 0, 1) := by decide +kernel
theorem dX7_counted_184 : decode cX7_counted 184 = .ok (.getfield 16, 3) := by decide +kernel
theorem dX7_counted_187 : decode cX7_counted 187 = .ok (.iconst 2, 1) := by decide +kernel
theorem dX7_counted_188 : decode cX7_counted 188 = .ok (.baload, 1) := by decide +kernel
theorem dX7_counted_189 : decode cX7_counted 189 = .ok (.ifCond .eq 7, 3) := by decide +kernel
theorem dX7_counted_192 : decode cX7_counted 192 = .ok (.iconst 1, 1) := by decide +kernel
theorem dX7_counted_193 : decode cX7_counted 193 = .ok (.goto 4, 3) := by decide +kernel
theorem dX7_counted_196 : decode cX7_counted 196 = .ok (.iconst 0, 1) := by decide +kernel
theorem dX7_counted_197 : decode cX7_counted 197 = .ok (.iadd, 1) := by decide +kernel
theorem dX7_counted_198 : decode cX7_counted 198 = .ok (.ireturn, 1) := by decide +kernel
theorem dX7_count_0 : decode cX7_count 0 = .ok (.iload_n 1, 1) := by decide +kernel
theorem dX7_count_1 : decode cX7_count 1 = .ok (.i2l, 1) := by decide +kernel
theorem dX7_count_2 : decode cX7_count 2 = .ok (.lconst 0, 1) := by decide +kernel
theorem dX7_count_3 : decode cX7_count 3 = .ok (.ldc2_w 233, 3) := by decide +kernel
theorem dX7_count_6 : decode cX7_count 6 = .ok (.invokestatic 69, 3) := by decide +kernel
theorem dX7_count_9 : decode cX7_count 9 = .ok (.ifCond .eq 11, 3) := by decide +kernel
theorem dX7_count_12 : decode cX7_count 12 = .ok (.aload_n 0, 1) := by decide +kernel
theorem dX7_count_13 : decode cX7_count 13 = .ok (.iload_n 1, 1) := by decide +kernel
theorem dX7_count_14 : decode cX7_count 14 = .ok (.invokevirtual 270, 3) := by decide +kernel
theorem dX7_count_17 : decode cX7_count 17 = .ok (.goto 4, 3) := by decide +kernel
theorem dX7_count_20 : decode cX7_count 20 = .ok (.iconst (-1), 1) := by decide +kernel
theorem dX7_count_21 : decode cX7_count 21 = .ok (.ireturn, 1) := by decide +kernel
theorem dX7_finding_0 : decode cX7_finding 0 = .ok (.aload_n 0, 1) := by decide +kernel
theorem dX7_finding_1 : decode cX7_finding 1 = .ok (.getfield 60, 3) := by decide +kernel
theorem dX7_finding_4 : decode cX7_finding 4 = .ok (.ireturn, 1) := by decide +kernel
theorem dX7_findings_0 : decode cX7_findings 0 = .ok (.iload_n 1, 1) := by decide +kernel
theorem dX7_findings_1 : decode cX7_findings 1 = .ok (.i2l, 1) := by decide +kernel
theorem dX7_findings_2 : decode cX7_findings 2 = .ok (.lconst 1, 1) := by decide +kernel
theorem dX7_findings_3 : decode cX7_findings 3 = .ok (.ldc2_w 67, 3) := by decide +kernel
theorem dX7_findings_6 : decode cX7_findings 6 = .ok (.invokestatic 69, 3) := by decide +kernel
theorem dX7_findings_9 : decode cX7_findings 9 = .ok (.ifCond .eq 12, 3) := by decide +kernel
theorem dX7_findings_12 : decode cX7_findings 12 = .ok (.aload_n 0, 1) := by decide +kernel
theorem dX7_findings_13 : decode cX7_findings 13 = .ok (.getfield 32, 3) := by decide +kernel
theorem dX7_findings_16 : decode cX7_findings 16 = .ok (.iload_n 1, 1) := by decide +kernel
theorem dX7_findings_17 : decode cX7_findings 17 = .ok (.iaload, 1) := by decide +kernel
theorem dX7_findings_18 : decode cX7_findings 18 = .ok (.goto 4, 3) := by decide +kernel
theorem dX7_findings_21 : decode cX7_findings 21 = .ok (.iconst (-1), 1) := by decide +kernel
theorem dX7_findings_22 : decode cX7_findings 22 = .ok (.ireturn, 1) := by decide +kernel
theorem dX7_digest_0 : decode cX7_digest 0 = .ok (.ldc2_w 273, 3) := by decide +kernel
theorem dX7_digest_3 : decode cX7_digest 3 = .ok (.lstore_n 1, 1) := by decide +kernel
theorem dX7_digest_4 : decode cX7_digest 4 = .ok (.iconst 0, 1) := by decide +kernel
theorem dX7_digest_5 : decode cX7_digest 5 = .ok (.istore_n 3, 1) := by decide +kernel
theorem dX7_digest_6 : decode cX7_digest 6 = .ok (.iload_n 3, 1) := by decide +kernel
theorem dX7_digest_7 : decode cX7_digest 7 = .ok (.bipush 13, 2) := by decide +kernel
theorem dX7_digest_9 : decode cX7_digest 9 = .ok (.if_icmp .ge 22, 3) := by decide +kernel
theorem dX7_digest_12 : decode cX7_digest 12 = .ok (.ldc2_w 275, 3) := by decide +kernel
theorem dX7_digest_15 : decode cX7_digest 15 = .ok (.lload_n 1, 1) := by decide +kernel
theorem dX7_digest_16 : decode cX7_digest 16 = .ok (.lmul, 1) := by decide +kernel
theorem dX7_digest_17 : decode cX7_digest 17 = .ok (.aload_n 0, 1) := by decide +kernel
theorem dX7_digest_18 : decode cX7_digest 18 = .ok (.iload_n 3, 1) := by decide +kernel
theorem dX7_digest_19 : decode cX7_digest 19 = .ok (.invokevirtual 270, 3) := by decide +kernel
theorem dX7_digest_22 : decode cX7_digest 22 = .ok (.i2l, 1) := by decide +kernel
theorem dX7_digest_23 : decode cX7_digest 23 = .ok (.ladd, 1) := by decide +kernel
theorem dX7_digest_24 : decode cX7_digest 24 = .ok (.lstore_n 1, 1) := by decide +kernel
theorem dX7_digest_25 : decode cX7_digest 25 = .ok (.iinc 3 1, 3) := by decide +kernel
theorem dX7_digest_28 : decode cX7_digest 28 = .ok (.goto (-22), 3) := by decide +kernel
theorem dX7_digest_31 : decode cX7_digest 31 = .ok (.iconst 0, 1) := by decide +kernel
theorem dX7_digest_32 : decode cX7_digest 32 = .ok (.istore_n 3, 1) := by decide +kernel
theorem dX7_digest_33 : decode cX7_digest 33 = .ok (.iload_n 3, 1) := by decide +kernel
theorem dX7_digest_34 : decode cX7_digest 34 = .ok (.aload_n 0, 1) := by decide +kernel
theorem dX7_digest_35 : decode cX7_digest 35 = .ok (.getfield 7, 3) := by decide +kernel
theorem dX7_digest_38 : decode cX7_digest 38 = .ok (.iconst 0, 1) := by decide +kernel
theorem dX7_digest_39 : decode cX7_digest 39 = .ok (.iaload, 1) := by decide +kernel
theorem dX7_digest_40 : decode cX7_digest 40 = .ok (.if_icmp .ge 40, 3) := by decide +kernel
theorem dX7_digest_43 : decode cX7_digest 43 = .ok (.iconst 0, 1) := by decide +kernel
theorem dX7_digest_44 : decode cX7_digest 44 = .ok (.istore 4, 2) := by decide +kernel
theorem dX7_digest_46 : decode cX7_digest 46 = .ok (.iload 4, 2) := by decide +kernel
theorem dX7_digest_48 : decode cX7_digest 48 = .ok (.bipush 6, 2) := by decide +kernel
theorem dX7_digest_50 : decode cX7_digest 50 = .ok (.if_icmp .ge 24, 3) := by decide +kernel
theorem dX7_digest_53 : decode cX7_digest 53 = .ok (.ldc2_w 275, 3) := by decide +kernel
theorem dX7_digest_56 : decode cX7_digest 56 = .ok (.lload_n 1, 1) := by decide +kernel
theorem dX7_digest_57 : decode cX7_digest 57 = .ok (.lmul, 1) := by decide +kernel
theorem dX7_digest_58 : decode cX7_digest 58 = .ok (.aload_n 0, 1) := by decide +kernel
theorem dX7_digest_59 : decode cX7_digest 59 = .ok (.iload_n 3, 1) := by decide +kernel
theorem dX7_digest_60 : decode cX7_digest 60 = .ok (.iload 4, 2) := by decide +kernel
theorem dX7_digest_62 : decode cX7_digest 62 = .ok (.invokevirtual 158, 3) := by decide +kernel
theorem dX7_digest_65 : decode cX7_digest 65 = .ok (.i2l, 1) := by decide +kernel
theorem dX7_digest_66 : decode cX7_digest 66 = .ok (.ladd, 1) := by decide +kernel
theorem dX7_digest_67 : decode cX7_digest 67 = .ok (.lstore_n 1, 1) := by decide +kernel
theorem dX7_digest_68 : decode cX7_digest 68 = .ok (.iinc 4 1, 3) := by decide +kernel
theorem dX7_digest_71 : decode cX7_digest 71 = .ok (.goto (-25), 3) := by decide +kernel
theorem dX7_digest_74 : decode cX7_digest 74 = .ok (.iinc 3 1, 3) := by decide +kernel
theorem dX7_digest_77 : decode cX7_digest 77 = .ok (.goto (-44), 3) := by decide +kernel
theorem dX7_digest_80 : decode cX7_digest 80 = .ok (.aload_n 0, 1) := by decide +kernel
theorem dX7_digest_81 : decode cX7_digest 81 = .ok (.getfield 7, 3) := by decide +kernel
theorem dX7_digest_84 : decode cX7_digest 84 = .ok (.aload_n 0, 1) := by decide +kernel
theorem dX7_digest_85 : decode cX7_digest 85 = .ok (.getfield 7, 3) := by decide +kernel
theorem dX7_digest_88 : decode cX7_digest 88 = .ok (.invokestatic 167, 3) := by decide +kernel
theorem dX7_digest_91 : decode cX7_digest 91 = .ok (.invokestatic 200, 3) := by decide +kernel
theorem dX7_digest_94 : decode cX7_digest 94 = .ok (.istore_n 3, 1) := by decide +kernel
theorem dX7_digest_95 : decode cX7_digest 95 = .ok (.iconst 0, 1) := by decide +kernel
theorem dX7_digest_96 : decode cX7_digest 96 = .ok (.istore 4, 2) := by decide +kernel
theorem dX7_digest_98 : decode cX7_digest 98 = .ok (.iload 4, 2) := by decide +kernel
theorem dX7_digest_100 : decode cX7_digest 100 = .ok (.aload_n 0, 1) := by decide +kernel
theorem dX7_digest_101 : decode cX7_digest 101 = .ok (.getfield 7, 3) := by decide +kernel
theorem dX7_digest_104 : decode cX7_digest 104 = .ok (.iconst 1, 1) := by decide +kernel
theorem dX7_digest_105 : decode cX7_digest 105 = .ok (.iaload, 1) := by decide +kernel
theorem dX7_digest_106 : decode cX7_digest 106 = .ok (.if_icmp .ge 23, 3) := by decide +kernel
theorem dX7_digest_109 : decode cX7_digest 109 = .ok (.ldc2_w 275, 3) := by decide +kernel
theorem dX7_digest_112 : decode cX7_digest 112 = .ok (.lload_n 1, 1) := by decide +kernel
theorem dX7_digest_113 : decode cX7_digest 113 = .ok (.lmul, 1) := by decide +kernel
theorem dX7_digest_114 : decode cX7_digest 114 = .ok (.iload_n 3, 1) := by decide +kernel
theorem dX7_digest_115 : decode cX7_digest 115 = .ok (.iload 4, 2) := by decide +kernel
theorem dX7_digest_117 : decode cX7_digest 117 = .ok (.ishr, 1) := by decide +kernel
theorem dX7_digest_118 : decode cX7_digest 118 = .ok (.iconst 1, 1) := by decide +kernel
theorem dX7_digest_119 : decode cX7_digest 119 = .ok (.iand, 1) := by decide +kernel
theorem dX7_digest_120 : decode cX7_digest 120 = .ok (.i2l, 1) := by decide +kernel
theorem dX7_digest_121 : decode cX7_digest 121 = .ok (.ladd, 1) := by decide +kernel
theorem dX7_digest_122 : decode cX7_digest 122 = .ok (.lstore_n 1, 1) := by decide +kernel
theorem dX7_digest_123 : decode cX7_digest 123 = .ok (.iinc 4 1, 3) := by decide +kernel
theorem dX7_digest_126 : decode cX7_digest 126 = .ok (.goto (-28), 3) := by decide +kernel
theorem dX7_digest_129 : decode cX7_digest 129 = .ok (.iconst 0, 1) := by decide +kernel
theorem dX7_digest_130 : decode cX7_digest 130 = .ok (.istore 4, 2) := by decide +kernel
theorem dX7_digest_132 : decode cX7_digest 132 = .ok (.iload 4, 2) := by decide +kernel
theorem dX7_digest_134 : decode cX7_digest 134 = .ok (.iconst 3, 1) := by decide +kernel
theorem dX7_digest_135 : decode cX7_digest 135 = .ok (.if_icmp .ge 44, 3) := by decide +kernel
theorem dX7_digest_138 : decode cX7_digest 138 = .ok (.ldc2_w 275, 3) := by decide +kernel
theorem dX7_digest_141 : decode cX7_digest 141 = .ok (.lload_n 1, 1) := by decide +kernel
theorem dX7_digest_142 : decode cX7_digest 142 = .ok (.lmul, 1) := by decide +kernel
theorem dX7_digest_143 : decode cX7_digest 143 = .ok (.aload_n 0, 1) := by decide +kernel
theorem dX7_digest_144 : decode cX7_digest 144 = .ok (.getfield 16, 3) := by decide +kernel
theorem dX7_digest_147 : decode cX7_digest 147 = .ok (.iload 4, 2) := by decide +kernel
theorem dX7_digest_149 : decode cX7_digest 149 = .ok (.baload, 1) := by decide +kernel
theorem dX7_digest_150 : decode cX7_digest 150 = .ok (.ifCond .eq 19, 3) := by decide +kernel
theorem dX7_digest_153 : decode cX7_digest 153 = .ok (.aload_n 0, 1) := by decide +kernel
theorem dX7_digest_154 : decode cX7_digest 154 = .ok (.getfield 13, 3) := by decide +kernel
theorem dX7_digest_157 : decode cX7_digest 157 = .ok (.bipush 85, 2) := by decide +kernel
theorem dX7_digest_159 : decode cX7_digest 159 = .ok (.iload 4, 2) := by decide +kernel
theorem dX7_digest_161 : decode cX7_digest 161 = .ok (.imul, 1) := by decide +kernel
theorem dX7_digest_162 : decode cX7_digest 162 = .ok (.bipush 35, 2) := by decide +kernel
theorem dX7_digest_164 : decode cX7_digest 164 = .ok (.iadd, 1) := by decide +kernel
theorem dX7_digest_165 : decode cX7_digest 165 = .ok (.iaload, 1) := by decide +kernel
theorem dX7_digest_166 : decode cX7_digest 166 = .ok (.goto 4, 3) := by decide +kernel
theorem dX7_digest_169 : decode cX7_digest 169 = .ok (.iconst (-1), 1) := by decide +kernel
theorem dX7_digest_170 : decode cX7_digest 170 = .ok (.i2l, 1) := by decide +kernel
theorem dX7_digest_171 : decode cX7_digest 171 = .ok (.ladd, 1) := by decide +kernel
theorem dX7_digest_172 : decode cX7_digest 172 = .ok (.lstore_n 1, 1) := by decide +kernel
theorem dX7_digest_173 : decode cX7_digest 173 = .ok (.iinc 4 1, 3) := by decide +kernel
theorem dX7_digest_176 : decode cX7_digest 176 = .ok (.goto (-44), 3) := by decide +kernel
theorem dX7_digest_179 : decode cX7_digest 179 = .ok (.iconst 0, 1) := by decide +kernel
theorem dX7_digest_180 : decode cX7_digest 180 = .ok (.istore 4, 2) := by decide +kernel
theorem dX7_digest_182 : decode cX7_digest 182 = .ok (.iload 4, 2) := by decide +kernel
theorem dX7_digest_184 : decode cX7_digest 184 = .ok (.bipush 6, 2) := by decide +kernel
theorem dX7_digest_186 : decode cX7_digest 186 = .ok (.if_icmp .ge 66, 3) := by decide +kernel
theorem dX7_digest_189 : decode cX7_digest 189 = .ok (.ldc2_w 275, 3) := by decide +kernel
theorem dX7_digest_192 : decode cX7_digest 192 = .ok (.lload_n 1, 1) := by decide +kernel
theorem dX7_digest_193 : decode cX7_digest 193 = .ok (.lmul, 1) := by decide +kernel
theorem dX7_digest_194 : decode cX7_digest 194 = .ok (.aload_n 0, 1) := by decide +kernel
theorem dX7_digest_195 : decode cX7_digest 195 = .ok (.getfield 23, 3) := by decide +kernel
theorem dX7_digest_198 : decode cX7_digest 198 = .ok (.iload 4, 2) := by decide +kernel
theorem dX7_digest_200 : decode cX7_digest 200 = .ok (.iaload, 1) := by decide +kernel
theorem dX7_digest_201 : decode cX7_digest 201 = .ok (.i2l, 1) := by decide +kernel
theorem dX7_digest_202 : decode cX7_digest 202 = .ok (.ladd, 1) := by decide +kernel
theorem dX7_digest_203 : decode cX7_digest 203 = .ok (.lstore_n 1, 1) := by decide +kernel
theorem dX7_digest_204 : decode cX7_digest 204 = .ok (.iconst 0, 1) := by decide +kernel
theorem dX7_digest_205 : decode cX7_digest 205 = .ok (.istore 5, 2) := by decide +kernel
theorem dX7_digest_207 : decode cX7_digest 207 = .ok (.iload 5, 2) := by decide +kernel
theorem dX7_digest_209 : decode cX7_digest 209 = .ok (.aload_n 0, 1) := by decide +kernel
theorem dX7_digest_210 : decode cX7_digest 210 = .ok (.getfield 23, 3) := by decide +kernel
theorem dX7_digest_213 : decode cX7_digest 213 = .ok (.iload 4, 2) := by decide +kernel
theorem dX7_digest_215 : decode cX7_digest 215 = .ok (.iaload, 1) := by decide +kernel
theorem dX7_digest_216 : decode cX7_digest 216 = .ok (.if_icmp .ge 30, 3) := by decide +kernel
theorem dX7_digest_219 : decode cX7_digest 219 = .ok (.ldc2_w 275, 3) := by decide +kernel
theorem dX7_digest_222 : decode cX7_digest 222 = .ok (.lload_n 1, 1) := by decide +kernel
theorem dX7_digest_223 : decode cX7_digest 223 = .ok (.lmul, 1) := by decide +kernel
theorem dX7_digest_224 : decode cX7_digest 224 = .ok (.aload_n 0, 1) := by decide +kernel
theorem dX7_digest_225 : decode cX7_digest 225 = .ok (.getfield 20, 3) := by decide +kernel
theorem dX7_digest_228 : decode cX7_digest 228 = .ok (.bipush 40, 2) := by decide +kernel
theorem dX7_digest_230 : decode cX7_digest 230 = .ok (.iload 4, 2) := by decide +kernel
theorem dX7_digest_232 : decode cX7_digest 232 = .ok (.imul, 1) := by decide +kernel
theorem dX7_digest_233 : decode cX7_digest 233 = .ok (.iload 5, 2) := by decide +kernel
theorem dX7_digest_235 : decode cX7_digest 235 = .ok (.iadd, 1) := by decide +kernel
theorem dX7_digest_236 : decode cX7_digest 236 = .ok (.iaload, 1) := by decide +kernel
theorem dX7_digest_237 : decode cX7_digest 237 = .ok (.i2l, 1) := by decide +kernel
theorem dX7_digest_238 : decode cX7_digest 238 = .ok (.ladd, 1) := by decide +kernel
theorem dX7_digest_239 : decode cX7_digest 239 = .ok (.lstore_n 1, 1) := by decide +kernel
theorem dX7_digest_240 : decode cX7_digest 240 = .ok (.iinc 5 1, 3) := by decide +kernel
theorem dX7_digest_243 : decode cX7_digest 243 = .ok (.goto (-36), 3) := by decide +kernel
theorem dX7_digest_246 : decode cX7_digest 246 = .ok (.iinc 4 1, 3) := by decide +kernel
theorem dX7_digest_249 : decode cX7_digest 249 = .ok (.goto (-67), 3) := by decide +kernel
theorem dX7_digest_252 : decode cX7_digest 252 = .ok (.iconst 0, 1) := by decide +kernel
theorem dX7_digest_253 : decode cX7_digest 253 = .ok (.istore 4, 2) := by decide +kernel
theorem dX7_digest_255 : decode cX7_digest 255 = .ok (.iload 4, 2) := by decide +kernel
theorem dX7_digest_257 : decode cX7_digest 257 = .ok (.iconst 4, 1) := by decide +kernel
theorem dX7_digest_258 : decode cX7_digest 258 = .ok (.if_icmp .ge 66, 3) := by decide +kernel
theorem dX7_digest_261 : decode cX7_digest 261 = .ok (.ldc2_w 275, 3) := by decide +kernel
theorem dX7_digest_264 : decode cX7_digest 264 = .ok (.lload_n 1, 1) := by decide +kernel
theorem dX7_digest_265 : decode cX7_digest 265 = .ok (.lmul, 1) := by decide +kernel
theorem dX7_digest_266 : decode cX7_digest 266 = .ok (.aload_n 0, 1) := by decide +kernel
theorem dX7_digest_267 : decode cX7_digest 267 = .ok (.getfield 29, 3) := by decide +kernel
theorem dX7_digest_270 : decode cX7_digest 270 = .ok (.iload 4, 2) := by decide +kernel
theorem dX7_digest_272 : decode cX7_digest 272 = .ok (.iaload, 1) := by decide +kernel
theorem dX7_digest_273 : decode cX7_digest 273 = .ok (.i2l, 1) := by decide +kernel
theorem dX7_digest_274 : decode cX7_digest 274 = .ok (.ladd, 1) := by decide +kernel
theorem dX7_digest_275 : decode cX7_digest 275 = .ok (.lstore_n 1, 1) := by decide +kernel
theorem dX7_digest_276 : decode cX7_digest 276 = .ok (.iconst 0, 1) := by decide +kernel
theorem dX7_digest_277 : decode cX7_digest 277 = .ok (.istore 5, 2) := by decide +kernel
theorem dX7_digest_279 : decode cX7_digest 279 = .ok (.iload 5, 2) := by decide +kernel
theorem dX7_digest_281 : decode cX7_digest 281 = .ok (.aload_n 0, 1) := by decide +kernel
theorem dX7_digest_282 : decode cX7_digest 282 = .ok (.getfield 29, 3) := by decide +kernel
theorem dX7_digest_285 : decode cX7_digest 285 = .ok (.iload 4, 2) := by decide +kernel
theorem dX7_digest_287 : decode cX7_digest 287 = .ok (.iaload, 1) := by decide +kernel
theorem dX7_digest_288 : decode cX7_digest 288 = .ok (.if_icmp .ge 30, 3) := by decide +kernel
theorem dX7_digest_291 : decode cX7_digest 291 = .ok (.ldc2_w 275, 3) := by decide +kernel
theorem dX7_digest_294 : decode cX7_digest 294 = .ok (.lload_n 1, 1) := by decide +kernel
theorem dX7_digest_295 : decode cX7_digest 295 = .ok (.lmul, 1) := by decide +kernel
theorem dX7_digest_296 : decode cX7_digest 296 = .ok (.aload_n 0, 1) := by decide +kernel
theorem dX7_digest_297 : decode cX7_digest 297 = .ok (.getfield 26, 3) := by decide +kernel
theorem dX7_digest_300 : decode cX7_digest 300 = .ok (.bipush 60, 2) := by decide +kernel
theorem dX7_digest_302 : decode cX7_digest 302 = .ok (.iload 4, 2) := by decide +kernel
theorem dX7_digest_304 : decode cX7_digest 304 = .ok (.imul, 1) := by decide +kernel
theorem dX7_digest_305 : decode cX7_digest 305 = .ok (.iload 5, 2) := by decide +kernel
theorem dX7_digest_307 : decode cX7_digest 307 = .ok (.iadd, 1) := by decide +kernel
theorem dX7_digest_308 : decode cX7_digest 308 = .ok (.iaload, 1) := by decide +kernel
theorem dX7_digest_309 : decode cX7_digest 309 = .ok (.i2l, 1) := by decide +kernel
theorem dX7_digest_310 : decode cX7_digest 310 = .ok (.ladd, 1) := by decide +kernel
theorem dX7_digest_311 : decode cX7_digest 311 = .ok (.lstore_n 1, 1) := by decide +kernel
theorem dX7_digest_312 : decode cX7_digest 312 = .ok (.iinc 5 1, 3) := by decide +kernel
theorem dX7_digest_315 : decode cX7_digest 315 = .ok (.goto (-36), 3) := by decide +kernel
theorem dX7_digest_318 : decode cX7_digest 318 = .ok (.iinc 4 1, 3) := by decide +kernel
theorem dX7_digest_321 : decode cX7_digest 321 = .ok (.goto (-66), 3) := by decide +kernel
theorem dX7_digest_324 : decode cX7_digest 324 = .ok (.lload_n 1, 1) := by decide +kernel
theorem dX7_digest_325 : decode cX7_digest 325 = .ok (.lreturn, 1) := by decide +kernel
