theorem dX4_in_0 : decode cX4_in 0 = .ok (.lload_n 0, 1) := by decide +kernel
theorem dX4_in_1 : decode cX4_in 1 = .ok (.lload_n 2, 1) := by decide +kernel
theorem dX4_in_2 : decode cX4_in 2 = .ok (.lcmp, 1) := by decide +kernel
theorem dX4_in_3 : decode cX4_in 3 = .ok (.ifCond .lt 14, 3) := by decide +kernel
theorem dX4_in_6 : decode cX4_in 6 = .ok (.lload_n 0, 1) := by decide +kernel
theorem dX4_in_7 : decode cX4_in 7 = .ok (.lload 4, 2) := by decide +kernel
theorem dX4_in_9 : decode cX4_in 9 = .ok (.lcmp, 1) := by decide +kernel
theorem dX4_in_10 : decode cX4_in 10 = .ok (.ifCond .gt 7, 3) := by decide +kernel
theorem dX4_in_13 : decode cX4_in 13 = .ok (.iconst 1, 1) := by decide +kernel
theorem dX4_in_14 : decode cX4_in 14 = .ok (.goto 4, 3) := by decide +kernel
theorem dX4_in_17 : decode cX4_in 17 = .ok (.iconst 0, 1) := by decide +kernel
theorem dX4_in_18 : decode cX4_in 18 = .ok (.ireturn, 1) := by decide +kernel
theorem dX4_init_0 : decode cX4_init 0 = .ok (.aload_n 0, 1) := by decide +kernel
theorem dX4_init_1 : decode cX4_init 1 = .ok (.invokespecial 1, 3) := by decide +kernel
theorem dX4_init_4 : decode cX4_init 4 = .ok (.aload_n 0, 1) := by decide +kernel
theorem dX4_init_5 : decode cX4_init 5 = .ok (.bipush 6, 2) := by decide +kernel
theorem dX4_init_7 : decode cX4_init 7 = .ok (.newarray .int, 2) := by decide +kernel
theorem dX4_init_9 : decode cX4_init 9 = .ok (.putfield 7, 3) := by decide +kernel
theorem dX4_init_12 : decode cX4_init 12 = .ok (.aload_n 0, 1) := by decide +kernel
theorem dX4_init_13 : decode cX4_init 13 = .ok (.lconst 1, 1) := by decide +kernel
theorem dX4_init_14 : decode cX4_init 14 = .ok (.putfield 13, 3) := by decide +kernel
theorem dX4_init_17 : decode cX4_init 17 = .ok (.aload_n 0, 1) := by decide +kernel
theorem dX4_init_18 : decode cX4_init 18 = .ok (.bipush 6, 2) := by decide +kernel
theorem dX4_init_20 : decode cX4_init 20 = .ok (.newarray .int, 2) := by decide +kernel
theorem dX4_init_22 : decode cX4_init 22 = .ok (.putfield 17, 3) := by decide +kernel
theorem dX4_init_25 : decode cX4_init 25 = .ok (.aload_n 0, 1) := by decide +kernel
theorem dX4_init_26 : decode cX4_init 26 = .ok (.sipush 240, 3) := by decide +kernel
theorem dX4_init_29 : decode cX4_init 29 = .ok (.newarray .int, 2) := by decide +kernel
theorem dX4_init_31 : decode cX4_init 31 = .ok (.putfield 20, 3) := by decide +kernel
theorem dX4_init_34 : decode cX4_init 34 = .ok (.aload_n 0, 1) := by decide +kernel
theorem dX4_init_35 : decode cX4_init 35 = .ok (.iconst 4, 1) := by decide +kernel
theorem dX4_init_36 : decode cX4_init 36 = .ok (.newarray .int, 2) := by decide +kernel
theorem dX4_init_38 : decode cX4_init 38 = .ok (.putfield 23, 3) := by decide +kernel
theorem dX4_init_41 : decode cX4_init 41 = .ok (.aload_n 0, 1) := by decide +kernel
theorem dX4_init_42 : decode cX4_init 42 = .ok (.sipush 240, 3) := by decide +kernel
theorem dX4_init_45 : decode cX4_init 45 = .ok (.newarray .int, 2) := by decide +kernel
theorem dX4_init_47 : decode cX4_init 47 = .ok (.putfield 26, 3) := by decide +kernel
theorem dX4_init_50 : decode cX4_init 50 = .ok (.aload_n 0, 1) := by decide +kernel
theorem dX4_init_51 : decode cX4_init 51 = .ok (.bipush 40, 2) := by decide +kernel
theorem dX4_init_53 : decode cX4_init 53 = .ok (.newarray .int, 2) := by decide +kernel
theorem dX4_init_55 : decode cX4_init 55 = .ok (.putfield 29, 3) := by decide +kernel
theorem dX4_init_58 : decode cX4_init 58 = .ok (.aload_n 0, 1) := by decide +kernel
theorem dX4_init_59 : decode cX4_init 59 = .ok (.bipush 28, 2) := by decide +kernel
theorem dX4_init_61 : decode cX4_init 61 = .ok (.newarray .int, 2) := by decide +kernel
theorem dX4_init_63 : decode cX4_init 63 = .ok (.putfield 32, 3) := by decide +kernel
theorem dX4_init_66 : decode cX4_init 66 = .ok (.aload_n 0, 1) := by decide +kernel
theorem dX4_init_67 : decode cX4_init 67 = .ok (.bipush 7, 2) := by decide +kernel
theorem dX4_init_69 : decode cX4_init 69 = .ok (.newarray .int, 2) := by decide +kernel
theorem dX4_init_71 : decode cX4_init 71 = .ok (.putfield 35, 3) := by decide +kernel
theorem dX4_init_74 : decode cX4_init 74 = .ok (.aload_n 0, 1) := by decide +kernel
theorem dX4_init_75 : decode cX4_init 75 = .ok (.bipush 7, 2) := by decide +kernel
theorem dX4_init_77 : decode cX4_init 77 = .ok (.newarray .int, 2) := by decide +kernel
theorem dX4_init_79 : decode cX4_init 79 = .ok (.putfield 38, 3) := by decide +kernel
theorem dX4_init_82 : decode cX4_init 82 = .ok (.aload_n 0, 1) := by decide +kernel
theorem dX4_init_83 : decode cX4_init 83 = .ok (.bipush 7, 2) := by decide +kernel
theorem dX4_init_85 : decode cX4_init 85 = .ok (.newarray .int, 2) := by decide +kernel
theorem dX4_init_87 : decode cX4_init 87 = .ok (.putfield 41, 3) := by decide +kernel
theorem dX4_init_90 : decode cX4_init 90 = .ok (.aload_n 0, 1) := by decide +kernel
theorem dX4_init_91 : decode cX4_init 91 = .ok (.bipush 9, 2) := by decide +kernel
theorem dX4_init_93 : decode cX4_init 93 = .ok (.newarray .int, 2) := by decide +kernel
theorem dX4_init_95 : decode cX4_init 95 = .ok (.putfield 44, 3) := by decide +kernel
theorem dX4_init_98 : decode cX4_init 98 = .ok (.aload_n 0, 1) := by decide +kernel
theorem dX4_init_99 : decode cX4_init 99 = .ok (.sipush 360, 3) := by decide +kernel
theorem dX4_init_102 : decode cX4_init 102 = .ok (.newarray .int, 2) := by decide +kernel
theorem dX4_init_104 : decode cX4_init 104 = .ok (.putfield 47, 3) := by decide +kernel
theorem dX4_init_107 : decode cX4_init 107 = .ok (.aload_n 0, 1) := by decide +kernel
theorem dX4_init_108 : decode cX4_init 108 = .ok (.iconst 3, 1) := by decide +kernel
theorem dX4_init_109 : decode cX4_init 109 = .ok (.newarray .int, 2) := by decide +kernel
theorem dX4_init_111 : decode cX4_init 111 = .ok (.putfield 50, 3) := by decide +kernel
theorem dX4_init_114 : decode cX4_init 114 = .ok (.aload_n 0, 1) := by decide +kernel
theorem dX4_init_115 : decode cX4_init 115 = .ok (.sipush 1173, 3) := by decide +kernel
theorem dX4_init_118 : decode cX4_init 118 = .ok (.newarray .int, 2) := by decide +kernel
theorem dX4_init_120 : decode cX4_init 120 = .ok (.putfield 53, 3) := by decide +kernel
theorem dX4_init_123 : decode cX4_init 123 = .ok (.aload_n 0, 1) := by decide +kernel
theorem dX4_init_124 : decode cX4_init 124 = .ok (.bipush 9, 2) := by decide +kernel
theorem dX4_init_126 : decode cX4_init 126 = .ok (.newarray .int, 2) := by decide +kernel
theorem dX4_init_128 : decode cX4_init 128 = .ok (.putfield 56, 3) := by decide +kernel
theorem dX4_init_131 : decode cX4_init 131 = .ok (.aload_n 0, 1) := by decide +kernel
theorem dX4_init_132 : decode cX4_init 132 = .ok (.sipush 729, 3) := by decide +kernel
theorem dX4_init_135 : decode cX4_init 135 = .ok (.newarray .int, 2) := by decide +kernel
theorem dX4_init_137 : decode cX4_init 137 = .ok (.putfield 59, 3) := by decide +kernel
theorem dX4_init_140 : decode cX4_init 140 = .ok (.iconst 0, 1) := by decide +kernel
theorem dX4_init_141 : decode cX4_init 141 = .ok (.istore_n 1, 1) := by decide +kernel
theorem dX4_init_142 : decode cX4_init 142 = .ok (.iload_n 1, 1) := by decide +kernel
theorem dX4_init_143 : decode cX4_init 143 = .ok (.bipush 6, 2) := by decide +kernel
theorem dX4_init_145 : decode cX4_init 145 = .ok (.if_icmp .ge 16, 3) := by decide +kernel
theorem dX4_init_148 : decode cX4_init 148 = .ok (.aload_n 0, 1) := by decide +kernel
theorem dX4_init_149 : decode cX4_init 149 = .ok (.getfield 17, 3) := by decide +kernel
theorem dX4_init_152 : decode cX4_init 152 = .ok (.iload_n 1, 1) := by decide +kernel
theorem dX4_init_153 : decode cX4_init 153 = .ok (.iconst (-1), 1) := by decide +kernel
theorem dX4_init_154 : decode cX4_init 154 = .ok (.iastore, 1) := by decide +kernel
theorem dX4_init_155 : decode cX4_init 155 = .ok (.iinc 1 1, 3) := by decide +kernel
theorem dX4_init_158 : decode cX4_init 158 = .ok (.goto (-16), 3) := by decide +kernel
theorem dX4_init_161 : decode cX4_init 161 = .ok (.iconst 0, 1) := by decide +kernel
theorem dX4_init_162 : decode cX4_init 162 = .ok (.istore_n 1, 1) := by decide +kernel
theorem dX4_init_163 : decode cX4_init 163 = .ok (.iload_n 1, 1) := by decide +kernel
theorem dX4_init_164 : decode cX4_init 164 = .ok (.iconst 4, 1) := by decide +kernel
theorem dX4_init_165 : decode cX4_init 165 = .ok (.if_icmp .ge 16, 3) := by decide +kernel
theorem dX4_init_168 : decode cX4_init 168 = .ok (.aload_n 0, 1) := by decide +kernel
theorem dX4_init_169 : decode cX4_init 169 = .ok (.getfield 23, 3) := by decide +kernel
theorem dX4_init_172 : decode cX4_init 172 = .ok (.iload_n 1, 1) := by decide +kernel
theorem dX4_init_173 : decode cX4_init 173 = .ok (.iconst (-1), 1) := by decide +kernel
theorem dX4_init_174 : decode cX4_init 174 = .ok (.iastore, 1) := by decide +kernel
theorem dX4_init_175 : decode cX4_init 175 = .ok (.iinc 1 1, 3) := by decide +kernel
theorem dX4_init_178 : decode cX4_init 178 = .ok (.goto (-15), 3) := by decide +kernel
theorem dX4_init_181 : decode cX4_init 181 = .ok (.iconst 0, 1) := by decide +kernel
theorem dX4_init_182 : decode cX4_init 182 = .ok (.istore_n 1, 1) := by decide +kernel
theorem dX4_init_183 : decode cX4_init 183 = .ok (.iload_n 1, 1) := by decide +kernel
theorem dX4_init_184 : decode cX4_init 184 = .ok (.iconst 3, 1) := by decide +kernel
theorem dX4_init_185 : decode cX4_init 185 = .ok (.if_icmp .ge 16, 3) := by decide +kernel
theorem dX4_init_188 : decode cX4_init 188 = .ok (.aload_n 0, 1) := by decide +kernel
theorem dX4_init_189 : decode cX4_init 189 = .ok (.getfield 50, 3) := by decide +kernel
theorem dX4_init_192 : decode cX4_init 192 = .ok (.iload_n 1, 1) := by decide +kernel
theorem dX4_init_193 : decode cX4_init 193 = .ok (.iconst (-1), 1) := by decide +kernel
theorem dX4_init_194 : decode cX4_init 194 = .ok (.iastore, 1) := by decide +kernel
theorem dX4_init_195 : decode cX4_init 195 = .ok (.iinc 1 1, 3) := by decide +kernel
theorem dX4_init_198 : decode cX4_init 198 = .ok (.goto (-15), 3) := by decide +kernel
theorem dX4_init_201 : decode cX4_init 201 = .ok (.return_, 1) := by decide +kernel
theorem dX4_finds_0 : decode cX4_finds 0 = .ok (.aload_n 0, 1) := by decide +kernel
theorem dX4_finds_1 : decode cX4_finds 1 = .ok (.iload_n 1, 1) := by decide +kernel
theorem dX4_finds_2 : decode cX4_finds 2 = .ok (.putfield 62, 3) := by decide +kernel
theorem dX4_finds_5 : decode cX4_finds 5 = .ok (.aload_n 0, 1) := by decide +kernel
theorem dX4_finds_6 : decode cX4_finds 6 = .ok (.getfield 7, 3) := by decide +kernel
theorem dX4_finds_9 : decode cX4_finds 9 = .ok (.iload_n 1, 1) := by decide +kernel
theorem dX4_finds_10 : decode cX4_finds 10 = .ok (.dup2, 1) := by decide +kernel
theorem dX4_finds_11 : decode cX4_finds 11 = .ok (.iaload, 1) := by decide +kernel
theorem dX4_finds_12 : decode cX4_finds 12 = .ok (.iconst 1, 1) := by decide +kernel
theorem dX4_finds_13 : decode cX4_finds 13 = .ok (.iadd, 1) := by decide +kernel
theorem dX4_finds_14 : decode cX4_finds 14 = .ok (.iastore, 1) := by decide +kernel
theorem dX4_finds_15 : decode cX4_finds 15 = .ok (.bipush (-3), 2) := by decide +kernel
theorem dX4_finds_17 : decode cX4_finds 17 = .ok (.ireturn, 1) := by decide +kernel
theorem dX4_tells_0 : decode cX4_tells 0 = .ok (.aload_n 0, 1) := by decide +kernel
theorem dX4_tells_1 : decode cX4_tells 1 = .ok (.iload_n 2, 1) := by decide +kernel
theorem dX4_tells_2 : decode cX4_tells 2 = .ok (.putfield 66, 3) := by decide +kernel
theorem dX4_tells_5 : decode cX4_tells 5 = .ok (.iload_n 1, 1) := by decide +kernel
theorem dX4_tells_6 : decode cX4_tells 6 = .ok (.ireturn, 1) := by decide +kernel
theorem dX4_fraction_0 : decode cX4_fraction 0 = .ok (.lload_n 1, 1) := by decide +kernel
theorem dX4_fraction_1 : decode cX4_fraction 1 = .ok (.lstore 5, 2) := by decide +kernel
theorem dX4_fraction_3 : decode cX4_fraction 3 = .ok (.lload_n 3, 1) := by decide +kernel
theorem dX4_fraction_4 : decode cX4_fraction 4 = .ok (.lstore 7, 2) := by decide +kernel
theorem dX4_fraction_6 : decode cX4_fraction 6 = .ok (.lload 7, 2) := by decide +kernel
theorem dX4_fraction_8 : decode cX4_fraction 8 = .ok (.lconst 0, 1) := by decide +kernel
theorem dX4_fraction_9 : decode cX4_fraction 9 = .ok (.lcmp, 1) := by decide +kernel
theorem dX4_fraction_10 : decode cX4_fraction 10 = .ok (.ifCond .eq 21, 3) := by decide +kernel
theorem dX4_fraction_13 : decode cX4_fraction 13 = .ok (.lload 5, 2) := by decide +kernel
theorem dX4_fraction_15 : decode cX4_fraction 15 = .ok (.lload 7, 2) := by decide +kernel
theorem dX4_fraction_17 : decode cX4_fraction 17 = .ok (.lrem, 1) := by decide +kernel
theorem dX4_fraction_18 : decode cX4_fraction 18 = .ok (.lstore 9, 2) := by decide +kernel
theorem dX4_fraction_20 : decode cX4_fraction 20 = .ok (.lload 7, 2) := by decide +kernel
theorem dX4_fraction_22 : decode cX4_fraction 22 = .ok (.lstore 5, 2) := by decide +kernel
theorem dX4_fraction_24 : decode cX4_fraction 24 = .ok (.lload 9, 2) := by decide +kernel
theorem dX4_fraction_26 : decode cX4_fraction 26 = .ok (.lstore 7, 2) := by decide +kernel
theorem dX4_fraction_28 : decode cX4_fraction 28 = .ok (.goto (-22), 3) := by decide +kernel
theorem dX4_fraction_31 : decode cX4_fraction 31 = .ok (.aload_n 0, 1) := by decide +kernel
theorem dX4_fraction_32 : decode cX4_fraction 32 = .ok (.lload_n 1, 1) := by decide +kernel
theorem dX4_fraction_33 : decode cX4_fraction 33 = .ok (.lload 5, 2) := by decide +kernel
theorem dX4_fraction_35 : decode cX4_fraction 35 = .ok (.ldiv, 1) := by decide +kernel
theorem dX4_fraction_36 : decode cX4_fraction 36 = .ok (.putfield 69, 3) := by decide +kernel
theorem dX4_fraction_39 : decode cX4_fraction 39 = .ok (.aload_n 0, 1) := by decide +kernel
theorem dX4_fraction_40 : decode cX4_fraction 40 = .ok (.lload_n 3, 1) := by decide +kernel
theorem dX4_fraction_41 : decode cX4_fraction 41 = .ok (.lload 5, 2) := by decide +kernel
theorem dX4_fraction_43 : decode cX4_fraction 43 = .ok (.ldiv, 1) := by decide +kernel
theorem dX4_fraction_44 : decode cX4_fraction 44 = .ok (.putfield 13, 3) := by decide +kernel
theorem dX4_fraction_47 : decode cX4_fraction 47 = .ok (.iconst 1, 1) := by decide +kernel
theorem dX4_fraction_48 : decode cX4_fraction 48 = .ok (.ireturn, 1) := by decide +kernel
set_option maxRecDepth 20000 in
theorem ggX4_isRow_X4_in : GoodIn wsX4_isRow wsX4_in := goodIn_r _ [5] (by decide +kernel) (by decide +kernel)
set_option maxRecDepth 20000 in
theorem gX4_isRow_X4_in : GoodIn wsX4_isRow (va_wsS RX4 74 yX4_in wsX4_in) := goodIn_app (goodIn_of _ (by decide +kernel)) ggX4_isRow_X4_in
theorem dX4_isRow_0 : decode cX4_isRow 0 = .ok (.iload_n 0, 1) := by decide +kernel
theorem dX4_isRow_1 : decode cX4_isRow 1 = .ok (.i2l, 1) := by decide +kernel
theorem dX4_isRow_2 : decode cX4_isRow 2 = .ok (.lconst 0, 1) := by decide +kernel
theorem dX4_isRow_3 : decode cX4_isRow 3 = .ok (.ldc2_w 72, 3) := by decide +kernel
theorem dX4_isRow_6 : decode cX4_isRow 6 = .ok (.invokestatic 74, 3) := by decide +kernel
theorem dX4_isRow_9 : decode cX4_isRow 9 = .ok (.ireturn, 1) := by decide +kernel
set_option maxRecDepth 20000 in
theorem ggX4_isText_X4_in : GoodIn wsX4_isText wsX4_in := goodIn_r _ [5] (by decide +kernel) (by decide +kernel)
set_option maxRecDepth 20000 in
theorem gX4_isText_X4_in : GoodIn wsX4_isText (va_wsS RX4 74 yX4_in wsX4_in) := goodIn_app (goodIn_of _ (by decide +kernel)) ggX4_isText_X4_in
theorem dX4_isText_0 : decode cX4_isText 0 = .ok (.iload_n 0, 1) := by decide +kernel
theorem dX4_isText_1 : decode cX4_isText 1 = .ok (.i2l, 1) := by decide +kernel
theorem dX4_isText_2 : decode cX4_isText 2 = .ok (.lconst 0, 1) := by decide +kernel
theorem dX4_isText_3 : decode cX4_isText 3 = .ok (.ldc2_w 78, 3) := by decide +kernel
theorem dX4_isText_6 : decode cX4_isText 6 = .ok (.invokestatic 74, 3) := by decide +kernel
theorem dX4_isText_9 : decode cX4_isText 9 = .ok (.ireturn, 1) := by decide +kernel
set_option maxRecDepth 20000 in
theorem ggX4_row_X4_isRow : GoodIn wsX4_row wsX4_isRow := goodIn_r _ [6, 7, 8, 9, 5, 10] (by decide +kernel) (by decide +kernel)
set_option maxRecDepth 20000 in
theorem gX4_row_X4_isRow : GoodIn wsX4_row (va_wsS RX4 80 yX4_isRow wsX4_isRow) := goodIn_app (goodIn_of _ (by decide +kernel)) ggX4_row_X4_isRow
set_option maxRecDepth 20000 in
theorem ggX4_row_X4_finds : GoodIn wsX4_row wsX4_finds := goodIn_r _ [14, 15, 16, 17, 18, 19, 20, 21, 22, 23, 24, 25, 26, 27, 28, 29, 30, 31, 32, 33, 34, 35, 36, 37, 38, 39] (by decide +kernel) (by decide +kernel)
set_option maxRecDepth 20000 in
theorem gX4_row_X4_finds : GoodIn wsX4_row (wsV RX4 84 RX4 yX4_finds wsX4_finds) := goodIn_app (goodIn_of _ (by decide +kernel)) ggX4_row_X4_finds
theorem dX4_row_0 : decode cX4_row 0 = .ok (.iload_n 1, 1) := by decide +kernel
theorem dX4_row_1 : decode cX4_row 1 = .ok (.invokestatic 80, 3) := by decide +kernel
theorem dX4_row_4 : decode cX4_row 4 = .ok (.ifCond .eq 9, 3) := by decide +kernel
theorem dX4_row_7 : decode cX4_row 7 = .ok (.iload_n 2, 1) := by decide +kernel
theorem dX4_row_8 : decode cX4_row 8 = .ok (.bipush 40, 2) := by decide +kernel
theorem dX4_row_10 : decode cX4_row 10 = .ok (.if_icmp .le 5, 3) := by decide +kernel
theorem dX4_row_13 : decode cX4_row 13 = .ok (.iconst (-1), 1) := by decide +kernel
theorem dX4_row_14 : decode cX4_row 14 = .ok (.ireturn, 1) := by decide +kernel
theorem dX4_row_15 : decode cX4_row 15 = .ok (.iload_n 2, 1) := by decide +kernel
theorem dX4_row_16 : decode cX4_row 16 = .ok (.ifCond .ge 9, 3) := by decide +kernel
theorem dX4_row_19 : decode cX4_row 19 = .ok (.aload_n 0, 1) := by decide +kernel
theorem dX4_row_20 : decode cX4_row 20 = .ok (.iconst 5, 1) := by decide +kernel
theorem dX4_row_21 : decode cX4_row 21 = .ok (.invokevirtual 84, 3) := by decide +kernel
theorem dX4_row_24 : decode cX4_row 24 = .ok (.ireturn, 1) := by decide +kernel
theorem dX4_row_25 : decode cX4_row 25 = .ok (.aload_n 0, 1) := by decide +kernel
theorem dX4_row_26 : decode cX4_row 26 = .ok (.getfield 17, 3) := by decide +kernel
theorem dX4_row_29 : decode cX4_row 29 = .ok (.iload_n 1, 1) := by decide +kernel
theorem dX4_row_30 : decode cX4_row 30 = .ok (.iload_n 2, 1) := by decide +kernel
theorem dX4_row_31 : decode cX4_row 31 = .ok (.iastore, 1) := by decide +kernel
theorem dX4_row_32 : decode cX4_row 32 = .ok (.iconst 0, 1) := by decide +kernel
theorem dX4_row_33 : decode cX4_row 33 = .ok (.istore_n 3, 1) := by decide +kernel
theorem dX4_row_34 : decode cX4_row 34 = .ok (.iload_n 3, 1) := by decide +kernel
theorem dX4_row_35 : decode cX4_row 35 = .ok (.bipush 40, 2) := by decide +kernel
theorem dX4_row_37 : decode cX4_row 37 = .ok (.if_icmp .ge 21, 3) := by decide +kernel
theorem dX4_row_40 : decode cX4_row 40 = .ok (.aload_n 0, 1) := by decide +kernel
theorem dX4_row_41 : decode cX4_row 41 = .ok (.getfield 20, 3) := by decide +kernel
theorem dX4_row_44 : decode cX4_row 44 = .ok (.bipush 40, 2) := by decide +kernel
theorem dX4_row_46 : decode cX4_row 46 = .ok (.iload_n 1, 1) := by decide +kernel
theorem dX4_row_47 : decode cX4_row 47 = .ok (.imul, 1) := by decide +kernel
theorem dX4_row_48 : decode cX4_row 48 = .ok (.iload_n 3, 1) := by decide +kernel
theorem dX4_row_49 : decode cX4_row 49 = .ok (.iadd, 1) := by decide +kernel
theorem dX4_row_50 : decode cX4_row 50 = .ok (.iconst 0, 1) := by decide +kernel
theorem dX4_row_51 : decode cX4_row 51 = .ok (.iastore, 1) := by decide +kernel
theorem dX4_row_52 : decode cX4_row 52 = .ok (.iinc 3 1, 3) := by decide +kernel
theorem dX4_row_55 : decode cX4_row 55 = .ok (.goto (-21), 3) := by decide +kernel
theorem dX4_row_58 : decode cX4_row 58 = .ok (.iload_n 2, 1) := by decide +kernel
theorem dX4_row_59 : decode cX4_row 59 = .ok (.ireturn, 1) := by decide +kernel
set_option maxRecDepth 20000 in
theorem ggX4_why_X4_isRow : GoodIn wsX4_why wsX4_isRow := goodIn_r _ [5, 6, 7, 8, 4, 9] (by decide +kernel) (by decide +kernel)
set_option maxRecDepth 20000 in
theorem gX4_why_X4_isRow : GoodIn wsX4_why (va_wsS RX4 80 yX4_isRow wsX4_isRow) := goodIn_app (goodIn_of _ (by decide +kernel)) ggX4_why_X4_isRow
set_option maxRecDepth 20000 in
theorem ggX4_why_X4_finds : GoodIn wsX4_why wsX4_finds := goodIn_r _ [13, 14, 15, 16, 17, 18, 19, 20, 21, 22, 23, 24, 25, 26, 27, 28, 29, 30, 31, 32, 33, 34, 35, 36, 37, 38] (by decide +kernel) (by decide +kernel)
set_option maxRecDepth 20000 in
theorem gX4_why_X4_finds : GoodIn wsX4_why (wsV RX4 84 RX4 yX4_finds wsX4_finds) := goodIn_app (goodIn_of _ (by decide +kernel)) ggX4_why_X4_finds
set_option maxRecDepth 20000 in
theorem ggX4_why_X4_in : GoodIn wsX4_why wsX4_in := goodIn_r _ [9] (by decide +kernel) (by decide +kernel)
set_option maxRecDepth 20000 in
theorem gX4_why_X4_in : GoodIn wsX4_why (va_wsS RX4 74 yX4_in wsX4_in) := goodIn_app (goodIn_of _ (by decide +kernel)) ggX4_why_X4_in
theorem dX4_why_0 : decode cX4_why 0 = .ok (.iload_n 1, 1) := by decide +kernel
theorem dX4_why_1 : decode cX4_why 1 = .ok (.invokestatic 80, 3) := by decide +kernel
theorem dX4_why_4 : decode cX4_why 4 = .ok (.ifCond .ne 5, 3) := by decide +kernel
theorem dX4_why_7 : decode cX4_why 7 = .ok (.iconst (-1), 1) := by decide +kernel
theorem dX4_why_8 : decode cX4_why 8 = .ok (.ireturn, 1) := by decide +kernel
theorem dX4_why_9 : decode cX4_why 9 = .ok (.aload_n 0, 1) := by decide +kernel
theorem dX4_why_10 : decode cX4_why 10 = .ok (.getfield 17, 3) := by decide +kernel
theorem dX4_why_13 : decode cX4_why 13 = .ok (.iload_n 1, 1) := by decide +kernel
theorem dX4_why_14 : decode cX4_why 14 = .ok (.iaload, 1) := by decide +kernel
theorem dX4_why_15 : decode cX4_why 15 = .ok (.ifCond .ge 9, 3) := by decide +kernel
theorem dX4_why_18 : decode cX4_why 18 = .ok (.aload_n 0, 1) := by decide +kernel
theorem dX4_why_19 : decode cX4_why 19 = .ok (.iconst 1, 1) := by decide +kernel
theorem dX4_why_20 : decode cX4_why 20 = .ok (.invokevirtual 84, 3) := by decide +kernel
theorem dX4_why_23 : decode cX4_why 23 = .ok (.ireturn, 1) := by decide +kernel
theorem dX4_why_24 : decode cX4_why 24 = .ok (.iload_n 2, 1) := by decide +kernel
theorem dX4_why_25 : decode cX4_why 25 = .ok (.i2l, 1) := by decide +kernel
theorem dX4_why_26 : decode cX4_why 26 = .ok (.lconst 0, 1) := by decide +kernel
theorem dX4_why_27 : decode cX4_why 27 = .ok (.aload_n 0, 1) := by decide +kernel
theorem dX4_why_28 : decode cX4_why 28 = .ok (.getfield 17, 3) := by decide +kernel
theorem dX4_why_31 : decode cX4_why 31 = .ok (.iload_n 1, 1) := by decide +kernel
theorem dX4_why_32 : decode cX4_why 32 = .ok (.iaload, 1) := by decide +kernel
theorem dX4_why_33 : decode cX4_why 33 = .ok (.iconst 1, 1) := by decide +kernel
theorem dX4_why_34 : decode cX4_why 34 = .ok (.isub, 1) := by decide +kernel
theorem dX4_why_35 : decode cX4_why 35 = .ok (.i2l, 1) := by decide +kernel
theorem dX4_why_36 : decode cX4_why 36 = .ok (.invokestatic 74, 3) := by decide +kernel
theorem dX4_why_39 : decode cX4_why 39 = .ok (.ifCond .eq 7, 3) := by decide +kernel
theorem dX4_why_42 : decode cX4_why 42 = .ok (.iconst 0, 1) := by decide +kernel
theorem dX4_why_43 : decode cX4_why 43 = .ok (.goto 8, 3) := by decide +kernel
theorem dX4_why_46 : decode cX4_why 46 = .ok (.aload_n 0, 1) := by decide +kernel
theorem dX4_why_47 : decode cX4_why 47 = .ok (.iconst 2, 1) := by decide +kernel
theorem dX4_why_48 : decode cX4_why 48 = .ok (.invokevirtual 84, 3) := by decide +kernel
theorem dX4_why_51 : decode cX4_why 51 = .ok (.ireturn, 1) := by decide +kernel
set_option maxRecDepth 20000 in
theorem ggX4_lay_X4_why : GoodIn wsX4_lay wsX4_why := goodIn_r _ [6, 7, 8, 9, 5, 10, 11, 12, 13, 14, 15, 16, 17, 18, 19, 20, 26, 27, 28, 29, 30, 31, 32, 33, 34, 35, 36, 37, 38, 39, 40, 41, 42, 43, 44, 45, 46, 47, 48] (by decide +kernel) (by decide +kernel)
set_option maxRecDepth 20000 in
theorem gX4_lay_X4_why : GoodIn wsX4_lay (wsV RX4 88 RX4 yX4_why wsX4_why) := goodIn_app (goodIn_of _ (by decide +kernel)) ggX4_lay_X4_why
set_option maxRecDepth 20000 in
theorem ggX4_lay_X4_tells : GoodIn wsX4_lay wsX4_tells := goodIn_r _ [24, 25, 26, 27, 28, 29, 30, 31, 32, 33, 34, 35, 36, 37, 38, 39, 40, 41, 42, 43, 44, 45, 46, 47, 48] (by decide +kernel) (by decide +kernel)
set_option maxRecDepth 20000 in
theorem gX4_lay_X4_tells : GoodIn wsX4_lay (wsV RX4 92 RX4 yX4_tells wsX4_tells) := goodIn_app (goodIn_of _ (by decide +kernel)) ggX4_lay_X4_tells
theorem dX4_lay_0 : decode cX4_lay 0 = .ok (.aload_n 0, 1) := by decide +kernel
theorem dX4_lay_1 : decode cX4_lay 1 = .ok (.iload_n 1, 1) := by decide +kernel
theorem dX4_lay_2 : decode cX4_lay 2 = .ok (.iload_n 2, 1) := by decide +kernel
theorem dX4_lay_3 : decode cX4_lay 3 = .ok (.invokevirtual 88, 3) := by decide +kernel
theorem dX4_lay_6 : decode cX4_lay 6 = .ok (.istore 4, 2) := by decide +kernel
theorem dX4_lay_8 : decode cX4_lay 8 = .ok (.iload 4, 2) := by decide +kernel
theorem dX4_lay_10 : decode cX4_lay 10 = .ok (.ifCond .ge 6, 3) := by decide +kernel
theorem dX4_lay_13 : decode cX4_lay 13 = .ok (.iload 4, 2) := by decide +kernel
theorem dX4_lay_15 : decode cX4_lay 15 = .ok (.ireturn, 1) := by decide +kernel
theorem dX4_lay_16 : decode cX4_lay 16 = .ok (.aload_n 0, 1) := by decide +kernel
theorem dX4_lay_17 : decode cX4_lay 17 = .ok (.getfield 20, 3) := by decide +kernel
theorem dX4_lay_20 : decode cX4_lay 20 = .ok (.bipush 40, 2) := by decide +kernel
theorem dX4_lay_22 : decode cX4_lay 22 = .ok (.iload_n 1, 1) := by decide +kernel
theorem dX4_lay_23 : decode cX4_lay 23 = .ok (.imul, 1) := by decide +kernel
theorem dX4_lay_24 : decode cX4_lay 24 = .ok (.iload_n 2, 1) := by decide +kernel
theorem dX4_lay_25 : decode cX4_lay 25 = .ok (.iadd, 1) := by decide +kernel
theorem dX4_lay_26 : decode cX4_lay 26 = .ok (.iaload, 1) := by decide +kernel
theorem dX4_lay_27 : decode cX4_lay 27 = .ok (.istore 5, 2) := by decide +kernel
theorem dX4_lay_29 : decode cX4_lay 29 = .ok (.aload_n 0, 1) := by decide +kernel
theorem dX4_lay_30 : decode cX4_lay 30 = .ok (.getfield 20, 3) := by decide +kernel
theorem dX4_lay_33 : decode cX4_lay 33 = .ok (.bipush 40, 2) := by decide +kernel
theorem dX4_lay_35 : decode cX4_lay 35 = .ok (.iload_n 1, 1) := by decide +kernel
theorem dX4_lay_36 : decode cX4_lay 36 = .ok (.imul, 1) := by decide +kernel
theorem dX4_lay_37 : decode cX4_lay 37 = .ok (.iload_n 2, 1) := by decide +kernel
theorem dX4_lay_38 : decode cX4_lay 38 = .ok (.iadd, 1) := by decide +kernel
theorem dX4_lay_39 : decode cX4_lay 39 = .ok (.iload_n 3, 1) := by decide +kernel
theorem dX4_lay_40 : decode cX4_lay 40 = .ok (.iastore, 1) := by decide +kernel
theorem dX4_lay_41 : decode cX4_lay 41 = .ok (.aload_n 0, 1) := by decide +kernel
theorem dX4_lay_42 : decode cX4_lay 42 = .ok (.iconst 1, 1) := by decide +kernel
theorem dX4_lay_43 : decode cX4_lay 43 = .ok (.iload 5, 2) := by decide +kernel
theorem dX4_lay_45 : decode cX4_lay 45 = .ok (.invokevirtual 92, 3) := by decide +kernel
theorem dX4_lay_48 : decode cX4_lay 48 = .ok (.ireturn, 1) := by decide +kernel
set_option maxRecDepth 20000 in
theorem ggX4_at_X4_why : GoodIn wsX4_at wsX4_why := goodIn_r _ [6, 7, 8, 9, 5, 10, 11, 12, 13, 14, 15, 16, 17, 18, 19, 20, 26, 27, 28, 29, 30, 31, 32, 33, 34, 35, 36, 37, 38, 39, 40, 41, 42, 43, 44, 45, 46, 47, 48] (by decide +kernel) (by decide +kernel)
set_option maxRecDepth 20000 in
theorem gX4_at_X4_why : GoodIn wsX4_at (wsV RX4 88 RX4 yX4_why wsX4_why) := goodIn_app (goodIn_of _ (by decide +kernel)) ggX4_at_X4_why
set_option maxRecDepth 20000 in
theorem ggX4_at_X4_tells : GoodIn wsX4_at wsX4_tells := goodIn_r _ [24, 25, 26, 27, 28, 29, 30, 31, 32, 33, 34, 35, 36, 37, 38, 39, 40, 41, 42, 43, 44, 45, 46, 47, 48] (by decide +kernel) (by decide +kernel)
set_option maxRecDepth 20000 in
theorem gX4_at_X4_tells : GoodIn wsX4_at (wsV RX4 92 RX4 yX4_tells wsX4_tells) := goodIn_app (goodIn_of _ (by decide +kernel)) ggX4_at_X4_tells
theorem dX4_at_0 : decode cX4_at 0 = .ok (.aload_n 0, 1) := by decide +kernel
theorem dX4_at_1 : decode cX4_at 1 = .ok (.iload_n 1, 1) := by decide +kernel
theorem dX4_at_2 : decode cX4_at 2 = .ok (.iload_n 2, 1) := by decide +kernel
theorem dX4_at_3 : decode cX4_at 3 = .ok (.invokevirtual 88, 3) := by decide +kernel
theorem dX4_at_6 : decode cX4_at 6 = .ok (.istore_n 3, 1) := by decide +kernel
theorem dX4_at_7 : decode cX4_at 7 = .ok (.iload_n 3, 1) := by decide +kernel
theorem dX4_at_8 : decode cX4_at 8 = .ok (.ifCond .ge 7, 3) := by decide +kernel
theorem dX4_at_11 : decode cX4_at 11 = .ok (.iload_n 3, 1) := by decide +kernel
theorem dX4_at_12 : decode cX4_at 12 = .ok (.goto 19, 3) := by decide +kernel
theorem dX4_at_15 : decode cX4_at 15 = .ok (.aload_n 0, 1) := by decide +kernel
theorem dX4_at_16 : decode cX4_at 16 = .ok (.iconst 1, 1) := by decide +kernel
theorem dX4_at_17 : decode cX4_at 17 = .ok (.aload_n 0, 1) := by decide +kernel
theorem dX4_at_18 : decode cX4_at 18 = .ok (.getfield 20, 3) := by decide +kernel
theorem dX4_at_21 : decode cX4_at 21 = .ok (.bipush 40, 2) := by decide +kernel
theorem dX4_at_23 : decode cX4_at 23 = .ok (.iload_n 1, 1) := by decide +kernel
theorem dX4_at_24 : decode cX4_at 24 = .ok (.imul, 1) := by decide +kernel
theorem dX4_at_25 : decode cX4_at 25 = .ok (.iload_n 2, 1) := by decide +kernel
theorem dX4_at_26 : decode cX4_at 26 = .ok (.iadd, 1) := by decide +kernel
theorem dX4_at_27 : decode cX4_at 27 = .ok (.iaload, 1) := by decide +kernel
theorem dX4_at_28 : decode cX4_at 28 = .ok (.invokevirtual 92, 3) := by decide +kernel
theorem dX4_at_31 : decode cX4_at 31 = .ok (.ireturn, 1) := by decide +kernel
set_option maxRecDepth 20000 in
theorem ggX4_tear_X4_isRow : GoodIn wsX4_tear wsX4_isRow := goodIn_r _ [5, 6, 7, 8, 4, 9] (by decide +kernel) (by decide +kernel)
set_option maxRecDepth 20000 in
theorem gX4_tear_X4_isRow : GoodIn wsX4_tear (va_wsS RX4 80 yX4_isRow wsX4_isRow) := goodIn_app (goodIn_of _ (by decide +kernel)) ggX4_tear_X4_isRow
set_option maxRecDepth 20000 in
theorem ggX4_tear_X4_finds : GoodIn wsX4_tear wsX4_finds := goodIn_r _ [13, 14, 15, 16, 17, 18, 19, 20, 21, 22, 23, 24, 25, 26, 27, 28, 29, 30, 31, 32, 33, 34, 35, 36, 37, 38] (by decide +kernel) (by decide +kernel)
set_option maxRecDepth 20000 in
theorem gX4_tear_X4_finds : GoodIn wsX4_tear (wsV RX4 84 RX4 yX4_finds wsX4_finds) := goodIn_app (goodIn_of _ (by decide +kernel)) ggX4_tear_X4_finds
theorem dX4_tear_0 : decode cX4_tear 0 = .ok (.iload_n 1, 1) := by decide +kernel
theorem dX4_tear_1 : decode cX4_tear 1 = .ok (.invokestatic 80, 3) := by decide +kernel
theorem dX4_tear_4 : decode cX4_tear 4 = .ok (.ifCond .ne 5, 3) := by decide +kernel
theorem dX4_tear_7 : decode cX4_tear 7 = .ok (.iconst (-1), 1) := by decide +kernel
theorem dX4_tear_8 : decode cX4_tear 8 = .ok (.ireturn, 1) := by decide +kernel
theorem dX4_tear_9 : decode cX4_tear 9 = .ok (.aload_n 0, 1) := by decide +kernel
theorem dX4_tear_10 : decode cX4_tear 10 = .ok (.getfield 17, 3) := by decide +kernel
theorem dX4_tear_13 : decode cX4_tear 13 = .ok (.iload_n 1, 1) := by decide +kernel
theorem dX4_tear_14 : decode cX4_tear 14 = .ok (.iaload, 1) := by decide +kernel
theorem dX4_tear_15 : decode cX4_tear 15 = .ok (.ifCond .ge 9, 3) := by decide +kernel
theorem dX4_tear_18 : decode cX4_tear 18 = .ok (.aload_n 0, 1) := by decide +kernel
theorem dX4_tear_19 : decode cX4_tear 19 = .ok (.iconst 1, 1) := by decide +kernel
theorem dX4_tear_20 : decode cX4_tear 20 = .ok (.invokevirtual 84, 3) := by decide +kernel
theorem dX4_tear_23 : decode cX4_tear 23 = .ok (.ireturn, 1) := by decide +kernel
theorem dX4_tear_24 : decode cX4_tear 24 = .ok (.aload_n 0, 1) := by decide +kernel
theorem dX4_tear_25 : decode cX4_tear 25 = .ok (.getfield 17, 3) := by decide +kernel
theorem dX4_tear_28 : decode cX4_tear 28 = .ok (.iload_n 1, 1) := by decide +kernel
theorem dX4_tear_29 : decode cX4_tear 29 = .ok (.iconst (-1), 1) := by decide +kernel
theorem dX4_tear_30 : decode cX4_tear 30 = .ok (.iastore, 1) := by decide +kernel
theorem dX4_tear_31 : decode cX4_tear 31 = .ok (.iconst 1, 1) := by decide +kernel
theorem dX4_tear_32 : decode cX4_tear 32 = .ok (.ireturn, 1) := by decide +kernel
set_option maxRecDepth 20000 in
theorem ggX4_copy_X4_isRow : GoodIn wsX4_copy wsX4_isRow := goodIn_r _ [7, 8, 9, 10, 6, 11] (by decide +kernel) (by decide +kernel)
set_option maxRecDepth 20000 in
theorem gX4_copy_X4_isRow : GoodIn wsX4_copy (va_wsS RX4 80 yX4_isRow wsX4_isRow) := goodIn_app (goodIn_of _ (by decide +kernel)) ggX4_copy_X4_isRow
set_option maxRecDepth 20000 in
theorem ggX4_copy_X4_finds : GoodIn wsX4_copy wsX4_finds := goodIn_r _ [15, 16, 17, 18, 19, 20, 21, 22, 23, 24, 25, 26, 27, 28, 29, 30, 31, 32, 33, 34, 35, 36, 37, 38, 39, 40] (by decide +kernel) (by decide +kernel)
set_option maxRecDepth 20000 in
theorem gX4_copy_X4_finds : GoodIn wsX4_copy (wsV RX4 84 RX4 yX4_finds wsX4_finds) := goodIn_app (goodIn_of _ (by decide +kernel)) ggX4_copy_X4_finds
theorem dX4_copy_0 : decode cX4_copy 0 = .ok (.iload_n 1, 1) := by decide +kernel
theorem dX4_copy_1 : decode cX4_copy 1 = .ok (.invokestatic 80, 3) := by decide +kernel
theorem dX4_copy_4 : decode cX4_copy 4 = .ok (.ifCond .eq 10, 3) := by decide +kernel
theorem dX4_copy_7 : decode cX4_copy 7 = .ok (.iload_n 3, 1) := by decide +kernel
theorem dX4_copy_8 : decode cX4_copy 8 = .ok (.invokestatic 80, 3) := by decide +kernel
theorem dX4_copy_11 : decode cX4_copy 11 = .ok (.ifCond .ne 5, 3) := by decide +kernel
theorem dX4_copy_14 : decode cX4_copy 14 = .ok (.iconst (-1), 1) := by decide +kernel
theorem dX4_copy_15 : decode cX4_copy 15 = .ok (.ireturn, 1) := by decide +kernel
theorem dX4_copy_16 : decode cX4_copy 16 = .ok (.iload 5, 2) := by decide +kernel
theorem dX4_copy_18 : decode cX4_copy 18 = .ok (.ifCond .ge 9, 3) := by decide +kernel
theorem dX4_copy_21 : decode cX4_copy 21 = .ok (.aload_n 0, 1) := by decide +kernel
theorem dX4_copy_22 : decode cX4_copy 22 = .ok (.iconst 5, 1) := by decide +kernel
theorem dX4_copy_23 : decode cX4_copy 23 = .ok (.invokevirtual 84, 3) := by decide +kernel
theorem dX4_copy_26 : decode cX4_copy 26 = .ok (.ireturn, 1) := by decide +kernel
theorem dX4_copy_27 : decode cX4_copy 27 = .ok (.aload_n 0, 1) := by decide +kernel
theorem dX4_copy_28 : decode cX4_copy 28 = .ok (.getfield 17, 3) := by decide +kernel
theorem dX4_copy_31 : decode cX4_copy 31 = .ok (.iload_n 1, 1) := by decide +kernel
theorem dX4_copy_32 : decode cX4_copy 32 = .ok (.iaload, 1) := by decide +kernel
theorem dX4_copy_33 : decode cX4_copy 33 = .ok (.ifCond .lt 12, 3) := by decide +kernel
theorem dX4_copy_36 : decode cX4_copy 36 = .ok (.aload_n 0, 1) := by decide +kernel
theorem dX4_copy_37 : decode cX4_copy 37 = .ok (.getfield 17, 3) := by decide +kernel
theorem dX4_copy_40 : decode cX4_copy 40 = .ok (.iload_n 3, 1) := by decide +kernel
theorem dX4_copy_41 : decode cX4_copy 41 = .ok (.iaload, 1) := by decide +kernel
theorem dX4_copy_42 : decode cX4_copy 42 = .ok (.ifCond .ge 9, 3) := by decide +kernel
theorem dX4_copy_45 : decode cX4_copy 45 = .ok (.aload_n 0, 1) := by decide +kernel
theorem dX4_copy_46 : decode cX4_copy 46 = .ok (.iconst 1, 1) := by decide +kernel
theorem dX4_copy_47 : decode cX4_copy 47 = .ok (.invokevirtual 84, 3) := by decide +kernel
theorem dX4_copy_50 : decode cX4_copy 50 = .ok (.ireturn, 1) := by decide +kernel
theorem dX4_copy_51 : decode cX4_copy 51 = .ok (.iload_n 2, 1) := by decide +kernel
theorem dX4_copy_52 : decode cX4_copy 52 = .ok (.ifCond .lt 43, 3) := by decide +kernel
theorem dX4_copy_55 : decode cX4_copy 55 = .ok (.iload 4, 2) := by decide +kernel
theorem dX4_copy_57 : decode cX4_copy 57 = .ok (.ifCond .lt 38, 3) := by decide +kernel
theorem dX4_copy_60 : decode cX4_copy 60 = .ok (.iload_n 2, 1) := by decide +kernel
theorem dX4_copy_61 : decode cX4_copy 61 = .ok (.i2l, 1) := by decide +kernel
theorem dX4_copy_62 : decode cX4_copy 62 = .ok (.iload 5, 2) := by decide +kernel
theorem dX4_copy_64 : decode cX4_copy 64 = .ok (.i2l, 1) := by decide +kernel
theorem dX4_copy_65 : decode cX4_copy 65 = .ok (.ladd, 1) := by decide +kernel
theorem dX4_copy_66 : decode cX4_copy 66 = .ok (.aload_n 0, 1) := by decide +kernel
theorem dX4_copy_67 : decode cX4_copy 67 = .ok (.getfield 17, 3) := by decide +kernel
theorem dX4_copy_70 : decode cX4_copy 70 = .ok (.iload_n 1, 1) := by decide +kernel
theorem dX4_copy_71 : decode cX4_copy 71 = .ok (.iaload, 1) := by decide +kernel
theorem dX4_copy_72 : decode cX4_copy 72 = .ok (.i2l, 1) := by decide +kernel
theorem dX4_copy_73 : decode cX4_copy 73 = .ok (.lcmp, 1) := by decide +kernel
theorem dX4_copy_74 : decode cX4_copy 74 = .ok (.ifCond .gt 21, 3) := by decide +kernel
theorem dX4_copy_77 : decode cX4_copy 77 = .ok (.iload 4, 2) := by decide +kernel
theorem dX4_copy_79 : decode cX4_copy 79 = .ok (.i2l, 1) := by decide +kernel
theorem dX4_copy_80 : decode cX4_copy 80 = .ok (.iload 5, 2) := by decide +kernel
theorem dX4_copy_82 : decode cX4_copy 82 = .ok (.i2l, 1) := by decide +kernel
theorem dX4_copy_83 : decode cX4_copy 83 = .ok (.ladd, 1) := by decide +kernel
theorem dX4_copy_84 : decode cX4_copy 84 = .ok (.aload_n 0, 1) := by decide +kernel
theorem dX4_copy_85 : decode cX4_copy 85 = .ok (.getfield 17, 3) := by decide +kernel
theorem dX4_copy_88 : decode cX4_copy 88 = .ok (.iload_n 3, 1) := by decide +kernel
theorem dX4_copy_89 : decode cX4_copy 89 = .ok (.iaload, 1) := by decide +kernel
theorem dX4_copy_90 : decode cX4_copy 90 = .ok (.i2l, 1) := by decide +kernel
theorem dX4_copy_91 : decode cX4_copy 91 = .ok (.lcmp, 1) := by decide +kernel
theorem dX4_copy_92 : decode cX4_copy 92 = .ok (.ifCond .le 9, 3) := by decide +kernel
theorem dX4_copy_95 : decode cX4_copy 95 = .ok (.aload_n 0, 1) := by decide +kernel
theorem dX4_copy_96 : decode cX4_copy 96 = .ok (.iconst 2, 1) := by decide +kernel
theorem dX4_copy_97 : decode cX4_copy 97 = .ok (.invokevirtual 84, 3) := by decide +kernel
theorem dX4_copy_100 : decode cX4_copy 100 = .ok (.ireturn, 1) := by decide +kernel
theorem dX4_copy_101 : decode cX4_copy 101 = .ok (.iconst 0, 1) := by decide +kernel
theorem dX4_copy_102 : decode cX4_copy 102 = .ok (.istore 6, 2) := by decide +kernel
theorem dX4_copy_104 : decode cX4_copy 104 = .ok (.iload 6, 2) := by decide +kernel
theorem dX4_copy_106 : decode cX4_copy 106 = .ok (.iload 5, 2) := by decide +kernel
theorem dX4_copy_108 : decode cX4_copy 108 = .ok (.if_icmp .ge 30, 3) := by decide +kernel
theorem dX4_copy_111 : decode cX4_copy 111 = .ok (.aload_n 0, 1) := by decide +kernel
theorem dX4_copy_112 : decode cX4_copy 112 = .ok (.getfield 29, 3) := by decide +kernel
theorem dX4_copy_115 : decode cX4_copy 115 = .ok (.iload 6, 2) := by decide +kernel
theorem dX4_copy_117 : decode cX4_copy 117 = .ok (.aload_n 0, 1) := by decide +kernel
theorem dX4_copy_118 : decode cX4_copy 118 = .ok (.getfield 20, 3) := by decide +kernel
theorem dX4_copy_121 : decode cX4_copy 121 = .ok (.bipush 40, 2) := by decide +kernel
theorem dX4_copy_123 : decode cX4_copy 123 = .ok (.iload_n 1, 1) := by decide +kernel
theorem dX4_copy_124 : decode cX4_copy 124 = .ok (.imul, 1) := by decide +kernel
theorem dX4_copy_125 : decode cX4_copy 125 = .ok (.iload_n 2, 1) := by decide +kernel
theorem dX4_copy_126 : decode cX4_copy 126 = .ok (.iadd, 1) := by decide +kernel
theorem dX4_copy_127 : decode cX4_copy 127 = .ok (.iload 6, 2) := by decide +kernel
theorem dX4_copy_129 : decode cX4_copy 129 = .ok (.iadd, 1) := by decide +kernel
theorem dX4_copy_130 : decode cX4_copy 130 = .ok (.iaload, 1) := by decide +kernel
theorem dX4_copy_131 : decode cX4_copy 131 = .ok (.iastore, 1) := by decide +kernel
theorem dX4_copy_132 : decode cX4_copy 132 = .ok (.iinc 6 1, 3) := by decide +kernel
theorem dX4_copy_135 : decode cX4_copy 135 = .ok (.goto (-31), 3) := by decide +kernel
theorem dX4_copy_138 : decode cX4_copy 138 = .ok (.iconst 0, 1) := by decide +kernel
theorem dX4_copy_139 : decode cX4_copy 139 = .ok (.istore 6, 2) := by decide +kernel
theorem dX4_copy_141 : decode cX4_copy 141 = .ok (.iload 6, 2) := by decide +kernel
theorem dX4_copy_143 : decode cX4_copy 143 = .ok (.iload 5, 2) := by decide +kernel
theorem dX4_copy_145 : decode cX4_copy 145 = .ok (.if_icmp .ge 31, 3) := by decide +kernel
theorem dX4_copy_148 : decode cX4_copy 148 = .ok (.aload_n 0, 1) := by decide +kernel
theorem dX4_copy_149 : decode cX4_copy 149 = .ok (.getfield 20, 3) := by decide +kernel
theorem dX4_copy_152 : decode cX4_copy 152 = .ok (.bipush 40, 2) := by decide +kernel
theorem dX4_copy_154 : decode cX4_copy 154 = .ok (.iload_n 3, 1) := by decide +kernel
theorem dX4_copy_155 : decode cX4_copy 155 = .ok (.imul, 1) := by decide +kernel
theorem dX4_copy_156 : decode cX4_copy 156 = .ok (.iload 4, 2) := by decide +kernel
theorem dX4_copy_158 : decode cX4_copy 158 = .ok (.iadd, 1) := by decide +kernel
theorem dX4_copy_159 : decode cX4_copy 159 = .ok (.iload 6, 2) := by decide +kernel
theorem dX4_copy_161 : decode cX4_copy 161 = .ok (.iadd, 1) := by decide +kernel
theorem dX4_copy_162 : decode cX4_copy 162 = .ok (.aload_n 0, 1) := by decide +kernel
theorem dX4_copy_163 : decode cX4_copy 163 = .ok (.getfield 29, 3) := by decide +kernel
theorem dX4_copy_166 : decode cX4_copy 166 = .ok (.iload 6, 2) := by decide +kernel
theorem dX4_copy_168 : decode cX4_copy 168 = .ok (.iaload, 1) := by decide +kernel
theorem dX4_copy_169 : decode cX4_copy 169 = .ok (.iastore, 1) := by decide +kernel
theorem dX4_copy_170 : decode cX4_copy 170 = .ok (.iinc 6 1, 3) := by decide +kernel
theorem dX4_copy_173 : decode cX4_copy 173 = .ok (.goto (-32), 3) := by decide +kernel
theorem dX4_copy_176 : decode cX4_copy 176 = .ok (.iconst 1, 1) := by decide +kernel
theorem dX4_copy_177 : decode cX4_copy 177 = .ok (.ireturn, 1) := by decide +kernel
set_option maxRecDepth 20000 in
theorem ggX4_mean_X4_isRow : GoodIn wsX4_mean wsX4_isRow := goodIn_r _ [6, 7, 8, 9, 5, 10] (by decide +kernel) (by decide +kernel)
set_option maxRecDepth 20000 in
theorem gX4_mean_X4_isRow : GoodIn wsX4_mean (va_wsS RX4 80 yX4_isRow wsX4_isRow) := goodIn_app (goodIn_of _ (by decide +kernel)) ggX4_mean_X4_isRow
set_option maxRecDepth 20000 in
theorem ggX4_mean_X4_finds : GoodIn wsX4_mean wsX4_finds := goodIn_r _ [14, 15, 16, 22, 23, 24, 25, 26, 27, 28, 29, 30, 31, 32, 33, 34, 35, 36, 37, 38, 39, 40, 41, 42, 43, 44] (by decide +kernel) (by decide +kernel)
set_option maxRecDepth 20000 in
theorem gX4_mean_X4_finds : GoodIn wsX4_mean (wsV RX4 84 RX4 yX4_finds wsX4_finds) := goodIn_app (goodIn_of _ (by decide +kernel)) ggX4_mean_X4_finds
set_option maxRecDepth 20000 in
theorem ggX4_mean_X4_tells : GoodIn wsX4_mean wsX4_tells := goodIn_r _ [20, 21, 22, 23, 24, 25, 26, 27, 28, 29, 30, 31, 32, 33, 34, 35, 36, 37, 38, 39, 40, 41, 42, 43, 44] (by decide +kernel) (by decide +kernel)
set_option maxRecDepth 20000 in
theorem gX4_mean_X4_tells : GoodIn wsX4_mean (wsV RX4 92 RX4 yX4_tells wsX4_tells) := goodIn_app (goodIn_of _ (by decide +kernel)) ggX4_mean_X4_tells
theorem dX4_mean_0 : decode cX4_mean 0 = .ok (.iload_n 1, 1) := by decide +kernel
theorem dX4_mean_1 : decode cX4_mean 1 = .ok (.invokestatic 80, 3) := by decide +kernel
theorem dX4_mean_4 : decode cX4_mean 4 = .ok (.ifCond .ne 5, 3) := by decide +kernel
theorem dX4_mean_7 : decode cX4_mean 7 = .ok (.iconst (-1), 1) := by decide +kernel
theorem dX4_mean_8 : decode cX4_mean 8 = .ok (.ireturn, 1) := by decide +kernel
theorem dX4_mean_9 : decode cX4_mean 9 = .ok (.aload_n 0, 1) := by decide +kernel
theorem dX4_mean_10 : decode cX4_mean 10 = .ok (.getfield 17, 3) := by decide +kernel
theorem dX4_mean_13 : decode cX4_mean 13 = .ok (.iload_n 1, 1) := by decide +kernel
theorem dX4_mean_14 : decode cX4_mean 14 = .ok (.iaload, 1) := by decide +kernel
theorem dX4_mean_15 : decode cX4_mean 15 = .ok (.ifCond .ge 9, 3) := by decide +kernel
theorem dX4_mean_18 : decode cX4_mean 18 = .ok (.aload_n 0, 1) := by decide +kernel
theorem dX4_mean_19 : decode cX4_mean 19 = .ok (.iconst 1, 1) := by decide +kernel
theorem dX4_mean_20 : decode cX4_mean 20 = .ok (.invokevirtual 84, 3) := by decide +kernel
theorem dX4_mean_23 : decode cX4_mean 23 = .ok (.ireturn, 1) := by decide +kernel
theorem dX4_mean_24 : decode cX4_mean 24 = .ok (.aload_n 0, 1) := by decide +kernel
theorem dX4_mean_25 : decode cX4_mean 25 = .ok (.getfield 17, 3) := by decide +kernel
theorem dX4_mean_28 : decode cX4_mean 28 = .ok (.iload_n 1, 1) := by decide +kernel
theorem dX4_mean_29 : decode cX4_mean 29 = .ok (.iaload, 1) := by decide +kernel
theorem dX4_mean_30 : decode cX4_mean 30 = .ok (.ifCond .ne 9, 3) := by decide +kernel
theorem dX4_mean_33 : decode cX4_mean 33 = .ok (.aload_n 0, 1) := by decide +kernel
theorem dX4_mean_34 : decode cX4_mean 34 = .ok (.iconst 4, 1) := by decide +kernel
theorem dX4_mean_35 : decode cX4_mean 35 = .ok (.invokevirtual 84, 3) := by decide +kernel
theorem dX4_mean_38 : decode cX4_mean 38 = .ok (.ireturn, 1) := by decide +kernel
theorem dX4_mean_39 : decode cX4_mean 39 = .ok (.lconst 0, 1) := by decide +kernel
theorem dX4_mean_40 : decode cX4_mean 40 = .ok (.lstore_n 2, 1) := by decide +kernel
theorem dX4_mean_41 : decode cX4_mean 41 = .ok (.iconst 0, 1) := by decide +kernel
theorem dX4_mean_42 : decode cX4_mean 42 = .ok (.istore 4, 2) := by decide +kernel
theorem dX4_mean_44 : decode cX4_mean 44 = .ok (.iload 4, 2) := by decide +kernel
theorem dX4_mean_46 : decode cX4_mean 46 = .ok (.aload_n 0, 1) := by decide +kernel
theorem dX4_mean_47 : decode cX4_mean 47 = .ok (.getfield 17, 3) := by decide +kernel
theorem dX4_mean_50 : decode cX4_mean 50 = .ok (.iload_n 1, 1) := by decide +kernel
theorem dX4_mean_51 : decode cX4_mean 51 = .ok (.iaload, 1) := by decide +kernel
theorem dX4_mean_52 : decode cX4_mean 52 = .ok (.if_icmp .ge 25, 3) := by decide +kernel
theorem dX4_mean_55 : decode cX4_mean 55 = .ok (.lload_n 2, 1) := by decide +kernel
theorem dX4_mean_56 : decode cX4_mean 56 = .ok (.aload_n 0, 1) := by decide +kernel
theorem dX4_mean_57 : decode cX4_mean 57 = .ok (.getfield 20, 3) := by decide +kernel
theorem dX4_mean_60 : decode cX4_mean 60 = .ok (.bipush 40, 2) := by decide +kernel
theorem dX4_mean_62 : decode cX4_mean 62 = .ok (.iload_n 1, 1) := by decide +kernel
theorem dX4_mean_63 : decode cX4_mean 63 = .ok (.imul, 1) := by decide +kernel
theorem dX4_mean_64 : decode cX4_mean 64 = .ok (.iload 4, 2) := by decide +kernel
theorem dX4_mean_66 : decode cX4_mean 66 = .ok (.iadd, 1) := by decide +kernel
theorem dX4_mean_67 : decode cX4_mean 67 = .ok (.iaload, 1) := by decide +kernel
theorem dX4_mean_68 : decode cX4_mean 68 = .ok (.i2l, 1) := by decide +kernel
theorem dX4_mean_69 : decode cX4_mean 69 = .ok (.ladd, 1) := by decide +kernel
theorem dX4_mean_70 : decode cX4_mean 70 = .ok (.lstore_n 2, 1) := by decide +kernel
theorem dX4_mean_71 : decode cX4_mean 71 = .ok (.iinc 4 1, 3) := by decide +kernel
theorem dX4_mean_74 : decode cX4_mean 74 = .ok (.goto (-30), 3) := by decide +kernel
theorem dX4_mean_77 : decode cX4_mean 77 = .ok (.aload_n 0, 1) := by decide +kernel
theorem dX4_mean_78 : decode cX4_mean 78 = .ok (.iconst 1, 1) := by decide +kernel
theorem dX4_mean_79 : decode cX4_mean 79 = .ok (.lload_n 2, 1) := by decide +kernel
theorem dX4_mean_80 : decode cX4_mean 80 = .ok (.aload_n 0, 1) := by decide +kernel
theorem dX4_mean_81 : decode cX4_mean 81 = .ok (.getfield 17, 3) := by decide +kernel
theorem dX4_mean_84 : decode cX4_mean 84 = .ok (.iload_n 1, 1) := by decide +kernel
theorem dX4_mean_85 : decode cX4_mean 85 = .ok (.iaload, 1) := by decide +kernel
theorem dX4_mean_86 : decode cX4_mean 86 = .ok (.i2l, 1) := by decide +kernel
theorem dX4_mean_87 : decode cX4_mean 87 = .ok (.ldiv, 1) := by decide +kernel
theorem dX4_mean_88 : decode cX4_mean 88 = .ok (.l2i, 1) := by decide +kernel
theorem dX4_mean_89 : decode cX4_mean 89 = .ok (.invokevirtual 92, 3) := by decide +kernel
theorem dX4_mean_92 : decode cX4_mean 92 = .ok (.ireturn, 1) := by decide +kernel
set_option maxRecDepth 20000 in
theorem ggX4_text_X4_isText : GoodIn wsX4_text wsX4_isText := goodIn_r _ [6, 7, 8, 9, 5, 10] (by decide +kernel) (by decide +kernel)
set_option maxRecDepth 20000 in
theorem gX4_text_X4_isText : GoodIn wsX4_text (va_wsS RX4 95 yX4_isText wsX4_isText) := goodIn_app (goodIn_of _ (by decide +kernel)) ggX4_text_X4_isText
set_option maxRecDepth 20000 in
theorem ggX4_text_X4_finds : GoodIn wsX4_text wsX4_finds := goodIn_r _ [14, 15, 16, 17, 18, 19, 20, 21, 22, 23, 24, 25, 26, 27, 28, 29, 30, 31, 32, 33, 34, 35, 36, 37, 38, 39] (by decide +kernel) (by decide +kernel)
set_option maxRecDepth 20000 in
theorem gX4_text_X4_finds : GoodIn wsX4_text (wsV RX4 84 RX4 yX4_finds wsX4_finds) := goodIn_app (goodIn_of _ (by decide +kernel)) ggX4_text_X4_finds
theorem dX4_text_0 : decode cX4_text 0 = .ok (.iload_n 1, 1) := by decide +kernel
theorem dX4_text_1 : decode cX4_text 1 = .ok (.invokestatic 95, 3) := by decide +kernel
theorem dX4_text_4 : decode cX4_text 4 = .ok (.ifCond .eq 9, 3) := by decide +kernel
theorem dX4_text_7 : decode cX4_text 7 = .ok (.iload_n 2, 1) := by decide +kernel
theorem dX4_text_8 : decode cX4_text 8 = .ok (.bipush 60, 2) := by decide +kernel
theorem dX4_text_10 : decode cX4_text 10 = .ok (.if_icmp .le 5, 3) := by decide +kernel
theorem dX4_text_13 : decode cX4_text 13 = .ok (.iconst (-1), 1) := by decide +kernel
theorem dX4_text_14 : decode cX4_text 14 = .ok (.ireturn, 1) := by decide +kernel
theorem dX4_text_15 : decode cX4_text 15 = .ok (.iload_n 2, 1) := by decide +kernel
theorem dX4_text_16 : decode cX4_text 16 = .ok (.ifCond .ge 9, 3) := by decide +kernel
theorem dX4_text_19 : decode cX4_text 19 = .ok (.aload_n 0, 1) := by decide +kernel
theorem dX4_text_20 : decode cX4_text 20 = .ok (.iconst 5, 1) := by decide +kernel
theorem dX4_text_21 : decode cX4_text 21 = .ok (.invokevirtual 84, 3) := by decide +kernel
theorem dX4_text_24 : decode cX4_text 24 = .ok (.ireturn, 1) := by decide +kernel
theorem dX4_text_25 : decode cX4_text 25 = .ok (.aload_n 0, 1) := by decide +kernel
theorem dX4_text_26 : decode cX4_text 26 = .ok (.getfield 23, 3) := by decide +kernel
theorem dX4_text_29 : decode cX4_text 29 = .ok (.iload_n 1, 1) := by decide +kernel
theorem dX4_text_30 : decode cX4_text 30 = .ok (.iload_n 2, 1) := by decide +kernel
theorem dX4_text_31 : decode cX4_text 31 = .ok (.iastore, 1) := by decide +kernel
theorem dX4_text_32 : decode cX4_text 32 = .ok (.iconst 0, 1) := by decide +kernel
theorem dX4_text_33 : decode cX4_text 33 = .ok (.istore_n 3, 1) := by decide +kernel
theorem dX4_text_34 : decode cX4_text 34 = .ok (.iload_n 3, 1) := by decide +kernel
theorem dX4_text_35 : decode cX4_text 35 = .ok (.bipush 60, 2) := by decide +kernel
theorem dX4_text_37 : decode cX4_text 37 = .ok (.if_icmp .ge 22, 3) := by decide +kernel
theorem dX4_text_40 : decode cX4_text 40 = .ok (.aload_n 0, 1) := by decide +kernel
theorem dX4_text_41 : decode cX4_text 41 = .ok (.getfield 26, 3) := by decide +kernel
theorem dX4_text_44 : decode cX4_text 44 = .ok (.bipush 60, 2) := by decide +kernel
theorem dX4_text_46 : decode cX4_text 46 = .ok (.iload_n 1, 1) := by decide +kernel
theorem dX4_text_47 : decode cX4_text 47 = .ok (.imul, 1) := by decide +kernel
theorem dX4_text_48 : decode cX4_text 48 = .ok (.iload_n 3, 1) := by decide +kernel
theorem dX4_text_49 : decode cX4_text 49 = .ok (.iadd, 1) := by decide +kernel
theorem dX4_text_50 : decode cX4_text 50 = .ok (.bipush 32, 2) := by decide +kernel
theorem dX4_text_52 : decode cX4_text 52 = .ok (.iastore, 1) := by decide +kernel
theorem dX4_text_53 : decode cX4_text 53 = .ok (.iinc 3 1, 3) := by decide +kernel
theorem dX4_text_56 : decode cX4_text 56 = .ok (.goto (-22), 3) := by decide +kernel
theorem dX4_text_59 : decode cX4_text 59 = .ok (.iload_n 2, 1) := by decide +kernel
theorem dX4_text_60 : decode cX4_text 60 = .ok (.ireturn, 1) := by decide +kernel
set_option maxRecDepth 20000 in
theorem ggX4_put_X4_isText : GoodIn wsX4_put wsX4_isText := goodIn_r _ [6, 7, 8, 9, 5, 10] (by decide +kernel) (by decide +kernel)
set_option maxRecDepth 20000 in
theorem gX4_put_X4_isText : GoodIn wsX4_put (va_wsS RX4 95 yX4_isText wsX4_isText) := goodIn_app (goodIn_of _ (by decide +kernel)) ggX4_put_X4_isText
set_option maxRecDepth 20000 in
theorem ggX4_put_X4_finds : GoodIn wsX4_put wsX4_finds := goodIn_r _ [14, 15, 16, 17, 18, 19, 20, 21, 22, 23, 24, 25, 26, 27, 28, 29, 30, 31, 32, 33, 34, 35, 36, 37, 38, 39] (by decide +kernel) (by decide +kernel)
set_option maxRecDepth 20000 in
theorem gX4_put_X4_finds : GoodIn wsX4_put (wsV RX4 84 RX4 yX4_finds wsX4_finds) := goodIn_app (goodIn_of _ (by decide +kernel)) ggX4_put_X4_finds
set_option maxRecDepth 20000 in
theorem ggX4_put_X4_in : GoodIn wsX4_put wsX4_in := goodIn_r _ [10] (by decide +kernel) (by decide +kernel)
set_option maxRecDepth 20000 in
theorem gX4_put_X4_in : GoodIn wsX4_put (va_wsS RX4 74 yX4_in wsX4_in) := goodIn_app (goodIn_of _ (by decide +kernel)) ggX4_put_X4_in
theorem dX4_put_0 : decode cX4_put 0 = .ok (.iload_n 1, 1) := by decide +kernel
theorem dX4_put_1 : decode cX4_put 1 = .ok (.invokestatic 95, 3) := by decide +kernel
theorem dX4_put_4 : decode cX4_put 4 = .ok (.ifCond .ne 5, 3) := by decide +kernel
theorem dX4_put_7 : decode cX4_put 7 = .ok (.iconst (-1), 1) := by decide +kernel
theorem dX4_put_8 : decode cX4_put 8 = .ok (.ireturn, 1) := by decide +kernel
theorem dX4_put_9 : decode cX4_put 9 = .ok (.aload_n 0, 1) := by decide +kernel
theorem dX4_put_10 : decode cX4_put 10 = .ok (.getfield 23, 3) := by decide +kernel
theorem dX4_put_13 : decode cX4_put 13 = .ok (.iload_n 1, 1) := by decide +kernel
theorem dX4_put_14 : decode cX4_put 14 = .ok (.iaload, 1) := by decide +kernel
theorem dX4_put_15 : decode cX4_put 15 = .ok (.ifCond .ge 9, 3) := by decide +kernel
theorem dX4_put_18 : decode cX4_put 18 = .ok (.aload_n 0, 1) := by decide +kernel
theorem dX4_put_19 : decode cX4_put 19 = .ok (.iconst 1, 1) := by decide +kernel
theorem dX4_put_20 : decode cX4_put 20 = .ok (.invokevirtual 84, 3) := by decide +kernel
theorem dX4_put_23 : decode cX4_put 23 = .ok (.ireturn, 1) := by decide +kernel
theorem dX4_put_24 : decode cX4_put 24 = .ok (.iload_n 2, 1) := by decide +kernel
theorem dX4_put_25 : decode cX4_put 25 = .ok (.i2l, 1) := by decide +kernel
theorem dX4_put_26 : decode cX4_put 26 = .ok (.lconst 0, 1) := by decide +kernel
theorem dX4_put_27 : decode cX4_put 27 = .ok (.aload_n 0, 1) := by decide +kernel
theorem dX4_put_28 : decode cX4_put 28 = .ok (.getfield 23, 3) := by decide +kernel
theorem dX4_put_31 : decode cX4_put 31 = .ok (.iload_n 1, 1) := by decide +kernel
theorem dX4_put_32 : decode cX4_put 32 = .ok (.iaload, 1) := by decide +kernel
theorem dX4_put_33 : decode cX4_put 33 = .ok (.iconst 1, 1) := by decide +kernel
theorem dX4_put_34 : decode cX4_put 34 = .ok (.isub, 1) := by decide +kernel
theorem dX4_put_35 : decode cX4_put 35 = .ok (.i2l, 1) := by decide +kernel
theorem dX4_put_36 : decode cX4_put 36 = .ok (.invokestatic 74, 3) := by decide +kernel
theorem dX4_put_39 : decode cX4_put 39 = .ok (.ifCond .ne 9, 3) := by decide +kernel
theorem dX4_put_42 : decode cX4_put 42 = .ok (.aload_n 0, 1) := by decide +kernel
theorem dX4_put_43 : decode cX4_put 43 = .ok (.iconst 2, 1) := by decide +kernel
theorem dX4_put_44 : decode cX4_put 44 = .ok (.invokevirtual 84, 3) := by decide +kernel
theorem dX4_put_47 : decode cX4_put 47 = .ok (.ireturn, 1) := by decide +kernel
theorem dX4_put_48 : decode cX4_put 48 = .ok (.aload_n 0, 1) := by decide +kernel
theorem dX4_put_49 : decode cX4_put 49 = .ok (.getfield 26, 3) := by decide +kernel
theorem dX4_put_52 : decode cX4_put 52 = .ok (.bipush 60, 2) := by decide +kernel
theorem dX4_put_54 : decode cX4_put 54 = .ok (.iload_n 1, 1) := by decide +kernel
theorem dX4_put_55 : decode cX4_put 55 = .ok (.imul, 1) := by decide +kernel
theorem dX4_put_56 : decode cX4_put 56 = .ok (.iload_n 2, 1) := by decide +kernel
theorem dX4_put_57 : decode cX4_put 57 = .ok (.iadd, 1) := by decide +kernel
theorem dX4_put_58 : decode cX4_put 58 = .ok (.iaload, 1) := by decide +kernel
theorem dX4_put_59 : decode cX4_put 59 = .ok (.istore 4, 2) := by decide +kernel
theorem dX4_put_61 : decode cX4_put 61 = .ok (.aload_n 0, 1) := by decide +kernel
theorem dX4_put_62 : decode cX4_put 62 = .ok (.getfield 26, 3) := by decide +kernel
theorem dX4_put_65 : decode cX4_put 65 = .ok (.bipush 60, 2) := by decide +kernel
theorem dX4_put_67 : decode cX4_put 67 = .ok (.iload_n 1, 1) := by decide +kernel
theorem dX4_put_68 : decode cX4_put 68 = .ok (.imul, 1) := by decide +kernel
theorem dX4_put_69 : decode cX4_put 69 = .ok (.iload_n 2, 1) := by decide +kernel
theorem dX4_put_70 : decode cX4_put 70 = .ok (.iadd, 1) := by decide +kernel
theorem dX4_put_71 : decode cX4_put 71 = .ok (.iload_n 3, 1) := by decide +kernel
theorem dX4_put_72 : decode cX4_put 72 = .ok (.i2b, 1) := by decide +kernel
theorem dX4_put_73 : decode cX4_put 73 = .ok (.iastore, 1) := by decide +kernel
theorem dX4_put_74 : decode cX4_put 74 = .ok (.iload 4, 2) := by decide +kernel
theorem dX4_put_76 : decode cX4_put 76 = .ok (.sipush 1000, 3) := by decide +kernel
theorem dX4_put_79 : decode cX4_put 79 = .ok (.iadd, 1) := by decide +kernel
theorem dX4_put_80 : decode cX4_put 80 = .ok (.ireturn, 1) := by decide +kernel
theorem dX4_kindBy_0 : decode cX4_kindBy 0 = .ok (.iload_n 0, 1) := by decide +kernel
theorem dX4_kindBy_1 : decode cX4_kindBy 1 = .ok (.bipush 104, 2) := by decide +kernel
theorem dX4_kindBy_3 : decode cX4_kindBy 3 = .ok (.if_icmp .ne 7, 3) := by decide +kernel
theorem dX4_kindBy_6 : decode cX4_kindBy 6 = .ok (.iconst 0, 1) := by decide +kernel
theorem dX4_kindBy_7 : decode cX4_kindBy 7 = .ok (.goto 54, 3) := by decide +kernel
theorem dX4_kindBy_10 : decode cX4_kindBy 10 = .ok (.iload_n 0, 1) := by decide +kernel
theorem dX4_kindBy_11 : decode cX4_kindBy 11 = .ok (.bipush 119, 2) := by decide +kernel
theorem dX4_kindBy_13 : decode cX4_kindBy 13 = .ok (.if_icmp .ne 7, 3) := by decide +kernel
theorem dX4_kindBy_16 : decode cX4_kindBy 16 = .ok (.iconst 1, 1) := by decide +kernel
theorem dX4_kindBy_17 : decode cX4_kindBy 17 = .ok (.goto 44, 3) := by decide +kernel
theorem dX4_kindBy_20 : decode cX4_kindBy 20 = .ok (.iload_n 0, 1) := by decide +kernel
theorem dX4_kindBy_21 : decode cX4_kindBy 21 = .ok (.bipush 103, 2) := by decide +kernel
theorem dX4_kindBy_23 : decode cX4_kindBy 23 = .ok (.if_icmp .ne 7, 3) := by decide +kernel
theorem dX4_kindBy_26 : decode cX4_kindBy 26 = .ok (.iconst 2, 1) := by decide +kernel
theorem dX4_kindBy_27 : decode cX4_kindBy 27 = .ok (.goto 34, 3) := by decide +kernel
theorem dX4_kindBy_30 : decode cX4_kindBy 30 = .ok (.iload_n 0, 1) := by decide +kernel
theorem dX4_kindBy_31 : decode cX4_kindBy 31 = .ok (.bipush 107, 2) := by decide +kernel
theorem dX4_kindBy_33 : decode cX4_kindBy 33 = .ok (.if_icmp .ne 7, 3) := by decide +kernel
theorem dX4_kindBy_36 : decode cX4_kindBy 36 = .ok (.iconst 3, 1) := by decide +kernel
theorem dX4_kindBy_37 : decode cX4_kindBy 37 = .ok (.goto 24, 3) := by decide +kernel
theorem dX4_kindBy_40 : decode cX4_kindBy 40 = .ok (.iload_n 0, 1) := by decide +kernel
theorem dX4_kindBy_41 : decode cX4_kindBy 41 = .ok (.bipush 111, 2) := by decide +kernel
theorem dX4_kindBy_43 : decode cX4_kindBy 43 = .ok (.if_icmp .ne 7, 3) := by decide +kernel
theorem dX4_kindBy_46 : decode cX4_kindBy 46 = .ok (.iconst 4, 1) := by decide +kernel
theorem dX4_kindBy_47 : decode cX4_kindBy 47 = .ok (.goto 14, 3) := by decide +kernel
theorem dX4_kindBy_50 : decode cX4_kindBy 50 = .ok (.iload_n 0, 1) := by decide +kernel
theorem dX4_kindBy_51 : decode cX4_kindBy 51 = .ok (.bipush 99, 2) := by decide +kernel
theorem dX4_kindBy_53 : decode cX4_kindBy 53 = .ok (.if_icmp .ne 7, 3) := by decide +kernel
theorem dX4_kindBy_56 : decode cX4_kindBy 56 = .ok (.iconst 5, 1) := by decide +kernel
theorem dX4_kindBy_57 : decode cX4_kindBy 57 = .ok (.goto 4, 3) := by decide +kernel
theorem dX4_kindBy_60 : decode cX4_kindBy 60 = .ok (.iconst (-1), 1) := by decide +kernel
theorem dX4_kindBy_61 : decode cX4_kindBy 61 = .ok (.ireturn, 1) := by decide +kernel
set_option maxRecDepth 20000 in
theorem ggX4_reads_X4_in : GoodIn wsX4_reads wsX4_in := goodIn_r _ [10] (by decide +kernel) (by decide +kernel)
set_option maxRecDepth 20000 in
theorem gX4_reads_X4_in : GoodIn wsX4_reads (va_wsS RX4 74 yX4_in wsX4_in) := goodIn_app (goodIn_of _ (by decide +kernel)) ggX4_reads_X4_in
set_option maxRecDepth 20000 in
theorem ggX4_reads_X4_kindBy : GoodIn wsX4_reads wsX4_kindBy := goodIn_r _ [13] (by decide +kernel) (by decide +kernel)
set_option maxRecDepth 20000 in
theorem gX4_reads_X4_kindBy : GoodIn wsX4_reads (va_wsS RX4 105 yX4_kindBy wsX4_kindBy) := goodIn_app (goodIn_of _ (by decide +kernel)) ggX4_reads_X4_kindBy
theorem dX4_reads_0 : decode cX4_reads 0 = .ok (.aload_n 0, 1) := by decide +kernel
theorem dX4_reads_1 : decode cX4_reads 1 = .ok (.getfield 23, 3) := by decide +kernel
theorem dX4_reads_4 : decode cX4_reads 4 = .ok (.iload_n 1, 1) := by decide +kernel
theorem dX4_reads_5 : decode cX4_reads 5 = .ok (.iaload, 1) := by decide +kernel
theorem dX4_reads_6 : decode cX4_reads 6 = .ok (.istore_n 2, 1) := by decide +kernel
theorem dX4_reads_7 : decode cX4_reads 7 = .ok (.iconst 0, 1) := by decide +kernel
theorem dX4_reads_8 : decode cX4_reads 8 = .ok (.istore_n 3, 1) := by decide +kernel
theorem dX4_reads_9 : decode cX4_reads 9 = .ok (.iconst 0, 1) := by decide +kernel
theorem dX4_reads_10 : decode cX4_reads 10 = .ok (.istore 4, 2) := by decide +kernel
theorem dX4_reads_12 : decode cX4_reads 12 = .ok (.aload_n 0, 1) := by decide +kernel
theorem dX4_reads_13 : decode cX4_reads 13 = .ok (.iconst 0, 1) := by decide +kernel
theorem dX4_reads_14 : decode cX4_reads 14 = .ok (.putfield 98, 3) := by decide +kernel
theorem dX4_reads_17 : decode cX4_reads 17 = .ok (.iload_n 3, 1) := by decide +kernel
theorem dX4_reads_18 : decode cX4_reads 18 = .ok (.iload_n 2, 1) := by decide +kernel
theorem dX4_reads_19 : decode cX4_reads 19 = .ok (.if_icmp .ge 213, 3) := by decide +kernel
theorem dX4_reads_22 : decode cX4_reads 22 = .ok (.aload_n 0, 1) := by decide +kernel
theorem dX4_reads_23 : decode cX4_reads 23 = .ok (.getfield 26, 3) := by decide +kernel
theorem dX4_reads_26 : decode cX4_reads 26 = .ok (.bipush 60, 2) := by decide +kernel
theorem dX4_reads_28 : decode cX4_reads 28 = .ok (.iload_n 1, 1) := by decide +kernel
theorem dX4_reads_29 : decode cX4_reads 29 = .ok (.imul, 1) := by decide +kernel
theorem dX4_reads_30 : decode cX4_reads 30 = .ok (.iload_n 3, 1) := by decide +kernel
theorem dX4_reads_31 : decode cX4_reads 31 = .ok (.iadd, 1) := by decide +kernel
theorem dX4_reads_32 : decode cX4_reads 32 = .ok (.iaload, 1) := by decide +kernel
theorem dX4_reads_33 : decode cX4_reads 33 = .ok (.istore 5, 2) := by decide +kernel
theorem dX4_reads_35 : decode cX4_reads 35 = .ok (.iconst 4, 1) := by decide +kernel
theorem dX4_reads_36 : decode cX4_reads 36 = .ok (.aload_n 0, 1) := by decide +kernel
theorem dX4_reads_37 : decode cX4_reads 37 = .ok (.getfield 98, 3) := by decide +kernel
theorem dX4_reads_40 : decode cX4_reads 40 = .ok (.imul, 1) := by decide +kernel
theorem dX4_reads_41 : decode cX4_reads 41 = .ok (.istore 6, 2) := by decide +kernel
theorem dX4_reads_43 : decode cX4_reads 43 = .ok (.iload 5, 2) := by decide +kernel
theorem dX4_reads_45 : decode cX4_reads 45 = .ok (.i2l, 1) := by decide +kernel
theorem dX4_reads_46 : decode cX4_reads 46 = .ok (.ldc2_w 101, 3) := by decide +kernel
theorem dX4_reads_49 : decode cX4_reads 49 = .ok (.ldc2_w 103, 3) := by decide +kernel
theorem dX4_reads_52 : decode cX4_reads 52 = .ok (.invokestatic 74, 3) := by decide +kernel
theorem dX4_reads_55 : decode cX4_reads 55 = .ok (.istore 7, 2) := by decide +kernel
theorem dX4_reads_57 : decode cX4_reads 57 = .ok (.iload 4, 2) := by decide +kernel
theorem dX4_reads_59 : decode cX4_reads 59 = .ok (.ifCond .ne 77, 3) := by decide +kernel
theorem dX4_reads_62 : decode cX4_reads 62 = .ok (.iload 5, 2) := by decide +kernel
theorem dX4_reads_64 : decode cX4_reads 64 = .ok (.bipush 32, 2) := by decide +kernel
theorem dX4_reads_66 : decode cX4_reads 66 = .ok (.if_icmp .eq 70, 3) := by decide +kernel
theorem dX4_reads_69 : decode cX4_reads 69 = .ok (.iload 5, 2) := by decide +kernel
theorem dX4_reads_71 : decode cX4_reads 71 = .ok (.invokestatic 105, 3) := by decide +kernel
theorem dX4_reads_74 : decode cX4_reads 74 = .ok (.ifCond .lt 12, 3) := by decide +kernel
theorem dX4_reads_77 : decode cX4_reads 77 = .ok (.aload_n 0, 1) := by decide +kernel
theorem dX4_reads_78 : decode cX4_reads 78 = .ok (.getfield 98, 3) := by decide +kernel
theorem dX4_reads_81 : decode cX4_reads 81 = .ok (.bipush 7, 2) := by decide +kernel
theorem dX4_reads_83 : decode cX4_reads 83 = .ok (.if_icmp .ne 5, 3) := by decide +kernel
theorem dX4_reads_86 : decode cX4_reads 86 = .ok (.iload_n 3, 1) := by decide +kernel
theorem dX4_reads_87 : decode cX4_reads 87 = .ok (.ireturn, 1) := by decide +kernel
theorem dX4_reads_88 : decode cX4_reads 88 = .ok (.aload_n 0, 1) := by decide +kernel
theorem dX4_reads_89 : decode cX4_reads 89 = .ok (.getfield 32, 3) := by decide +kernel
theorem dX4_reads_92 : decode cX4_reads 92 = .ok (.iload 6, 2) := by decide +kernel
theorem dX4_reads_94 : decode cX4_reads 94 = .ok (.iload 5, 2) := by decide +kernel
theorem dX4_reads_96 : decode cX4_reads 96 = .ok (.invokestatic 105, 3) := by decide +kernel
theorem dX4_reads_99 : decode cX4_reads 99 = .ok (.iastore, 1) := by decide +kernel
theorem dX4_reads_100 : decode cX4_reads 100 = .ok (.aload_n 0, 1) := by decide +kernel
theorem dX4_reads_101 : decode cX4_reads 101 = .ok (.getfield 32, 3) := by decide +kernel
theorem dX4_reads_104 : decode cX4_reads 104 = .ok (.iload 6, 2) := by decide +kernel
theorem dX4_reads_106 : decode cX4_reads 106 = .ok (.iconst 1, 1) := by decide +kernel
theorem dX4_reads_107 : decode cX4_reads 107 = .ok (.iadd, 1) := by decide +kernel
theorem dX4_reads_108 : decode cX4_reads 108 = .ok (.iconst 0, 1) := by decide +kernel
theorem dX4_reads_109 : decode cX4_reads 109 = .ok (.iastore, 1) := by decide +kernel
theorem dX4_reads_110 : decode cX4_reads 110 = .ok (.aload_n 0, 1) := by decide +kernel
theorem dX4_reads_111 : decode cX4_reads 111 = .ok (.getfield 32, 3) := by decide +kernel
theorem dX4_reads_114 : decode cX4_reads 114 = .ok (.iload 6, 2) := by decide +kernel
theorem dX4_reads_116 : decode cX4_reads 116 = .ok (.iconst 2, 1) := by decide +kernel
theorem dX4_reads_117 : decode cX4_reads 117 = .ok (.iadd, 1) := by decide +kernel
theorem dX4_reads_118 : decode cX4_reads 118 = .ok (.iconst 0, 1) := by decide +kernel
theorem dX4_reads_119 : decode cX4_reads 119 = .ok (.iastore, 1) := by decide +kernel
theorem dX4_reads_120 : decode cX4_reads 120 = .ok (.aload_n 0, 1) := by decide +kernel
theorem dX4_reads_121 : decode cX4_reads 121 = .ok (.getfield 32, 3) := by decide +kernel
theorem dX4_reads_124 : decode cX4_reads 124 = .ok (.iload 6, 2) := by decide +kernel
theorem dX4_reads_126 : decode cX4_reads 126 = .ok (.iconst 3, 1) := by decide +kernel
theorem dX4_reads_127 : decode cX4_reads 127 = .ok (.iadd, 1) := by decide +kernel
theorem dX4_reads_128 : decode cX4_reads 128 = .ok (.iconst 0, 1) := by decide +kernel
theorem dX4_reads_129 : decode cX4_reads 129 = .ok (.iastore, 1) := by decide +kernel
theorem dX4_reads_130 : decode cX4_reads 130 = .ok (.iconst 1, 1) := by decide +kernel
theorem dX4_reads_131 : decode cX4_reads 131 = .ok (.istore 4, 2) := by decide +kernel
theorem dX4_reads_133 : decode cX4_reads 133 = .ok (.goto 93, 3) := by decide +kernel
theorem dX4_reads_136 : decode cX4_reads 136 = .ok (.iload 4, 2) := by decide +kernel
theorem dX4_reads_138 : decode cX4_reads 138 = .ok (.ifCond .le 88, 3) := by decide +kernel
theorem dX4_reads_141 : decode cX4_reads 141 = .ok (.iload 7, 2) := by decide +kernel
theorem dX4_reads_143 : decode cX4_reads 143 = .ok (.ifCond .ne 5, 3) := by decide +kernel
theorem dX4_reads_146 : decode cX4_reads 146 = .ok (.iload_n 3, 1) := by decide +kernel
theorem dX4_reads_147 : decode cX4_reads 147 = .ok (.ireturn, 1) := by decide +kernel
theorem dX4_reads_148 : decode cX4_reads 148 = .ok (.iload 4, 2) := by decide +kernel
theorem dX4_reads_150 : decode cX4_reads 150 = .ok (.iconst 3, 1) := by decide +kernel
theorem dX4_reads_151 : decode cX4_reads 151 = .ok (.if_icmp .ge 8, 3) := by decide +kernel
theorem dX4_reads_154 : decode cX4_reads 154 = .ok (.iload 4, 2) := by decide +kernel
theorem dX4_reads_156 : decode cX4_reads 156 = .ok (.goto 4, 3) := by decide +kernel
theorem dX4_reads_159 : decode cX4_reads 159 = .ok (.iconst 3, 1) := by decide +kernel
theorem dX4_reads_160 : decode cX4_reads 160 = .ok (.istore 8, 2) := by decide +kernel
theorem dX4_reads_162 : decode cX4_reads 162 = .ok (.aload_n 0, 1) := by decide +kernel
theorem dX4_reads_163 : decode cX4_reads 163 = .ok (.getfield 32, 3) := by decide +kernel
theorem dX4_reads_166 : decode cX4_reads 166 = .ok (.iload 6, 2) := by decide +kernel
theorem dX4_reads_168 : decode cX4_reads 168 = .ok (.iload 8, 2) := by decide +kernel
theorem dX4_reads_170 : decode cX4_reads 170 = .ok (.iadd, 1) := by decide +kernel
theorem dX4_reads_171 : decode cX4_reads 171 = .ok (.bipush 10, 2) := by decide +kernel
theorem dX4_reads_173 : decode cX4_reads 173 = .ok (.aload_n 0, 1) := by decide +kernel
theorem dX4_reads_174 : decode cX4_reads 174 = .ok (.getfield 32, 3) := by decide +kernel
theorem dX4_reads_177 : decode cX4_reads 177 = .ok (.iload 6, 2) := by decide +kernel
theorem dX4_reads_179 : decode cX4_reads 179 = .ok (.iload 8, 2) := by decide +kernel
theorem dX4_reads_181 : decode cX4_reads 181 = .ok (.iadd, 1) := by decide +kernel
theorem dX4_reads_182 : decode cX4_reads 182 = .ok (.iaload, 1) := by decide +kernel
theorem dX4_reads_183 : decode cX4_reads 183 = .ok (.imul, 1) := by decide +kernel
theorem dX4_reads_184 : decode cX4_reads 184 = .ok (.iload 5, 2) := by decide +kernel
theorem dX4_reads_186 : decode cX4_reads 186 = .ok (.iadd, 1) := by decide +kernel
theorem dX4_reads_187 : decode cX4_reads 187 = .ok (.bipush 48, 2) := by decide +kernel
theorem dX4_reads_189 : decode cX4_reads 189 = .ok (.isub, 1) := by decide +kernel
theorem dX4_reads_190 : decode cX4_reads 190 = .ok (.iastore, 1) := by decide +kernel
theorem dX4_reads_191 : decode cX4_reads 191 = .ok (.iload 4, 2) := by decide +kernel
theorem dX4_reads_193 : decode cX4_reads 193 = .ok (.iconst 4, 1) := by decide +kernel
theorem dX4_reads_194 : decode cX4_reads 194 = .ok (.if_icmp .ne 7, 3) := by decide +kernel
theorem dX4_reads_197 : decode cX4_reads 197 = .ok (.iconst 0, 1) := by decide +kernel
theorem dX4_reads_198 : decode cX4_reads 198 = .ok (.goto 7, 3) := by decide +kernel
theorem dX4_reads_201 : decode cX4_reads 201 = .ok (.iload 4, 2) := by decide +kernel
theorem dX4_reads_203 : decode cX4_reads 203 = .ok (.iconst 1, 1) := by decide +kernel
theorem dX4_reads_204 : decode cX4_reads 204 = .ok (.iadd, 1) := by decide +kernel
theorem dX4_reads_205 : decode cX4_reads 205 = .ok (.istore 4, 2) := by decide +kernel
theorem dX4_reads_207 : decode cX4_reads 207 = .ok (.aload_n 0, 1) := by decide +kernel
theorem dX4_reads_208 : decode cX4_reads 208 = .ok (.dup, 1) := by decide +kernel
theorem dX4_reads_209 : decode cX4_reads 209 = .ok (.getfield 98, 3) := by decide +kernel
theorem dX4_reads_212 : decode cX4_reads 212 = .ok (.iload 4, 2) := by decide +kernel
theorem dX4_reads_214 : decode cX4_reads 214 = .ok (.ifCond .ne 7, 3) := by decide +kernel
theorem dX4_reads_217 : decode cX4_reads 217 = .ok (.iconst 1, 1) := by decide +kernel
theorem dX4_reads_218 : decode cX4_reads 218 = .ok (.goto 4, 3) := by decide +kernel
theorem dX4_reads_221 : decode cX4_reads 221 = .ok (.iconst 0, 1) := by decide +kernel
theorem dX4_reads_222 : decode cX4_reads 222 = .ok (.iadd, 1) := by decide +kernel
theorem dX4_reads_223 : decode cX4_reads 223 = .ok (.putfield 98, 3) := by decide +kernel
theorem dX4_reads_226 : decode cX4_reads 226 = .ok (.iinc 3 1, 3) := by decide +kernel
theorem dX4_reads_229 : decode cX4_reads 229 = .ok (.goto (-212), 3) := by decide +kernel
theorem dX4_reads_232 : decode cX4_reads 232 = .ok (.iload 4, 2) := by decide +kernel
theorem dX4_reads_234 : decode cX4_reads 234 = .ok (.ifCond .gt 11, 3) := by decide +kernel
theorem dX4_reads_237 : decode cX4_reads 237 = .ok (.aload_n 0, 1) := by decide +kernel
theorem dX4_reads_238 : decode cX4_reads 238 = .ok (.getfield 98, 3) := by decide +kernel
theorem dX4_reads_241 : decode cX4_reads 241 = .ok (.iconst 2, 1) := by decide +kernel
theorem dX4_reads_242 : decode cX4_reads 242 = .ok (.if_icmp .ge 7, 3) := by decide +kernel
theorem dX4_reads_245 : decode cX4_reads 245 = .ok (.iload_n 2, 1) := by decide +kernel
theorem dX4_reads_246 : decode cX4_reads 246 = .ok (.goto 4, 3) := by decide +kernel
theorem dX4_reads_249 : decode cX4_reads 249 = .ok (.iconst (-1), 1) := by decide +kernel
theorem dX4_reads_250 : decode cX4_reads 250 = .ok (.ireturn, 1) := by decide +kernel
set_option maxRecDepth 20000 in
theorem ggX4_fault_X4_isText : GoodIn wsX4_fault wsX4_isText := goodIn_r _ [5, 6, 7, 8, 4, 9] (by decide +kernel) (by decide +kernel)
set_option maxRecDepth 20000 in
theorem gX4_fault_X4_isText : GoodIn wsX4_fault (va_wsS RX4 95 yX4_isText wsX4_isText) := goodIn_app (goodIn_of _ (by decide +kernel)) ggX4_fault_X4_isText
set_option maxRecDepth 20000 in
theorem ggX4_fault_X4_finds : GoodIn wsX4_fault wsX4_finds := goodIn_r _ [13, 14, 15, 28, 29, 30, 31, 32, 33, 34, 35, 36, 37, 38, 39, 40, 41, 42, 43, 44, 45, 46, 47, 48, 49, 50] (by decide +kernel) (by decide +kernel)
set_option maxRecDepth 20000 in
theorem gX4_fault_X4_finds : GoodIn wsX4_fault (wsV RX4 84 RX4 yX4_finds wsX4_finds) := goodIn_app (goodIn_of _ (by decide +kernel)) ggX4_fault_X4_finds
set_option maxRecDepth 20000 in
theorem ggX4_fault_X4_reads : GoodIn wsX4_fault wsX4_reads := goodIn_r _ [19, 1, 20, 21, 22, 23, 24, 7, 8, 4, 9, 25, 26, 27, 28, 29, 30, 31, 32, 33, 34, 35, 36, 37, 38, 39, 40, 41, 42, 43, 44, 45, 46, 47, 48, 49, 50] (by decide +kernel) (by decide +kernel)
set_option maxRecDepth 20000 in
theorem gX4_fault_X4_reads : GoodIn wsX4_fault (wsV RX4 108 RX4 yX4_reads wsX4_reads) := goodIn_app (goodIn_of _ (by decide +kernel)) ggX4_fault_X4_reads
theorem dX4_fault_0 : decode cX4_fault 0 = .ok (.iload_n 1, 1) := by decide +kernel
theorem dX4_fault_1 : decode cX4_fault 1 = .ok (.invokestatic 95, 3) := by decide +kernel
theorem dX4_fault_4 : decode cX4_fault 4 = .ok (.ifCond .ne 5, 3) := by decide +kernel
theorem dX4_fault_7 : decode cX4_fault 7 = .ok (.iconst (-1), 1) := by decide +kernel
theorem dX4_fault_8 : decode cX4_fault 8 = .ok (.ireturn, 1) := by decide +kernel
theorem dX4_fault_9 : decode cX4_fault 9 = .ok (.aload_n 0, 1) := by decide +kernel
theorem dX4_fault_10 : decode cX4_fault 10 = .ok (.getfield 23, 3) := by decide +kernel
theorem dX4_fault_13 : decode cX4_fault 13 = .ok (.iload_n 1, 1) := by decide +kernel
theorem dX4_fault_14 : decode cX4_fault 14 = .ok (.iaload, 1) := by decide +kernel
theorem dX4_fault_15 : decode cX4_fault 15 = .ok (.ifCond .ge 9, 3) := by decide +kernel
theorem dX4_fault_18 : decode cX4_fault 18 = .ok (.aload_n 0, 1) := by decide +kernel
theorem dX4_fault_19 : decode cX4_fault 19 = .ok (.iconst 1, 1) := by decide +kernel
theorem dX4_fault_20 : decode cX4_fault 20 = .ok (.invokevirtual 84, 3) := by decide +kernel
theorem dX4_fault_23 : decode cX4_fault 23 = .ok (.ireturn, 1) := by decide +kernel
theorem dX4_fault_24 : decode cX4_fault 24 = .ok (.aload_n 0, 1) := by decide +kernel
theorem dX4_fault_25 : decode cX4_fault 25 = .ok (.iload_n 1, 1) := by decide +kernel
theorem dX4_fault_26 : decode cX4_fault 26 = .ok (.invokevirtual 108, 3) := by decide +kernel
theorem dX4_fault_29 : decode cX4_fault 29 = .ok (.istore_n 2, 1) := by decide +kernel
theorem dX4_fault_30 : decode cX4_fault 30 = .ok (.iload_n 2, 1) := by decide +kernel
theorem dX4_fault_31 : decode cX4_fault 31 = .ok (.ifCond .ge 8, 3) := by decide +kernel
theorem dX4_fault_34 : decode cX4_fault 34 = .ok (.bipush (-9), 2) := by decide +kernel
theorem dX4_fault_36 : decode cX4_fault 36 = .ok (.goto 4, 3) := by decide +kernel
theorem dX4_fault_39 : decode cX4_fault 39 = .ok (.iload_n 2, 1) := by decide +kernel
theorem dX4_fault_40 : decode cX4_fault 40 = .ok (.ireturn, 1) := by decide +kernel
set_option maxRecDepth 20000 in
theorem ggX4_place_X4_isText : GoodIn wsX4_place wsX4_isText := goodIn_r _ [14, 15, 16, 17, 13, 18] (by decide +kernel) (by decide +kernel)
set_option maxRecDepth 20000 in
theorem gX4_place_X4_isText : GoodIn wsX4_place (va_wsS RX4 95 yX4_isText wsX4_isText) := goodIn_app (goodIn_of _ (by decide +kernel)) ggX4_place_X4_isText
set_option maxRecDepth 20000 in
theorem ggX4_place_X4_finds : GoodIn wsX4_place wsX4_finds := goodIn_r _ [22, 23, 24, 35, 36, 37, 38, 39, 40, 41, 42, 43, 44, 45, 46, 47, 48, 49, 50, 51, 52, 53, 54, 55, 56, 57] (by decide +kernel) (by decide +kernel)
set_option maxRecDepth 20000 in
theorem gX4_place_X4_finds : GoodIn wsX4_place (wsV RX4 84 RX4 yX4_finds wsX4_finds) := goodIn_app (goodIn_of _ (by decide +kernel)) ggX4_place_X4_finds
set_option maxRecDepth 20000 in
theorem ggX4_place_X4_reads : GoodIn wsX4_place wsX4_reads := goodIn_r _ [28, 1, 2, 29, 30, 31, 7, 16, 17, 13, 18, 32, 33, 34, 35, 36, 37, 38, 39, 40, 41, 42, 43, 44, 45, 46, 47, 48, 49, 50, 51, 52, 53, 54, 55, 56, 57] (by decide +kernel) (by decide +kernel)
set_option maxRecDepth 20000 in
theorem gX4_place_X4_reads : GoodIn wsX4_place (wsV RX4 108 RX4 yX4_reads wsX4_reads) := goodIn_app (goodIn_of _ (by decide +kernel)) ggX4_place_X4_reads
theorem dX4_place_0 : decode cX4_place 0 = .ok (.iload_n 1, 1) := by decide +kernel
theorem dX4_place_1 : decode cX4_place 1 = .ok (.invokestatic 95, 3) := by decide +kernel
theorem dX4_place_4 : decode cX4_place 4 = .ok (.ifCond .ne 5, 3) := by decide +kernel
theorem dX4_place_7 : decode cX4_place 7 = .ok (.iconst (-1), 1) := by decide +kernel
theorem dX4_place_8 : decode cX4_place 8 = .ok (.ireturn, 1) := by decide +kernel
theorem dX4_place_9 : decode cX4_place 9 = .ok (.aload_n 0, 1) := by decide +kernel
theorem dX4_place_10 : decode cX4_place 10 = .ok (.getfield 23, 3) := by decide +kernel
theorem dX4_place_13 : decode cX4_place 13 = .ok (.iload_n 1, 1) := by decide +kernel
theorem dX4_place_14 : decode cX4_place 14 = .ok (.iaload, 1) := by decide +kernel
theorem dX4_place_15 : decode cX4_place 15 = .ok (.ifCond .ge 9, 3) := by decide +kernel
theorem dX4_place_18 : decode cX4_place 18 = .ok (.aload_n 0, 1) := by decide +kernel
theorem dX4_place_19 : decode cX4_place 19 = .ok (.iconst 1, 1) := by decide +kernel
theorem dX4_place_20 : decode cX4_place 20 = .ok (.invokevirtual 84, 3) := by decide +kernel
theorem dX4_place_23 : decode cX4_place 23 = .ok (.ireturn, 1) := by decide +kernel
theorem dX4_place_24 : decode cX4_place 24 = .ok (.aload_n 0, 1) := by decide +kernel
theorem dX4_place_25 : decode cX4_place 25 = .ok (.iload_n 1, 1) := by decide +kernel
theorem dX4_place_26 : decode cX4_place 26 = .ok (.invokevirtual 108, 3) := by decide +kernel
theorem dX4_place_29 : decode cX4_place 29 = .ok (.ifCond .lt 6, 3) := by decide +kernel
theorem dX4_place_32 : decode cX4_place 32 = .ok (.bipush (-4), 2) := by decide +kernel
theorem dX4_place_34 : decode cX4_place 34 = .ok (.ireturn, 1) := by decide +kernel
theorem dX4_place_35 : decode cX4_place 35 = .ok (.aload_n 0, 1) := by decide +kernel
theorem dX4_place_36 : decode cX4_place 36 = .ok (.aload_n 0, 1) := by decide +kernel
theorem dX4_place_37 : decode cX4_place 37 = .ok (.getfield 98, 3) := by decide +kernel
theorem dX4_place_40 : decode cX4_place 40 = .ok (.putfield 111, 3) := by decide +kernel
theorem dX4_place_43 : decode cX4_place 43 = .ok (.aload_n 0, 1) := by decide +kernel
theorem dX4_place_44 : decode cX4_place 44 = .ok (.iconst 0, 1) := by decide +kernel
theorem dX4_place_45 : decode cX4_place 45 = .ok (.putfield 114, 3) := by decide +kernel
theorem dX4_place_48 : decode cX4_place 48 = .ok (.iconst 0, 1) := by decide +kernel
theorem dX4_place_49 : decode cX4_place 49 = .ok (.istore_n 2, 1) := by decide +kernel
theorem dX4_place_50 : decode cX4_place 50 = .ok (.iload_n 2, 1) := by decide +kernel
theorem dX4_place_51 : decode cX4_place 51 = .ok (.bipush 9, 2) := by decide +kernel
theorem dX4_place_53 : decode cX4_place 53 = .ok (.if_icmp .ge 16, 3) := by decide +kernel
theorem dX4_place_56 : decode cX4_place 56 = .ok (.aload_n 0, 1) := by decide +kernel
theorem dX4_place_57 : decode cX4_place 57 = .ok (.getfield 44, 3) := by decide +kernel
theorem dX4_place_60 : decode cX4_place 60 = .ok (.iload_n 2, 1) := by decide +kernel
theorem dX4_place_61 : decode cX4_place 61 = .ok (.iconst 0, 1) := by decide +kernel
theorem dX4_place_62 : decode cX4_place 62 = .ok (.iastore, 1) := by decide +kernel
theorem dX4_place_63 : decode cX4_place 63 = .ok (.iinc 2 1, 3) := by decide +kernel
theorem dX4_place_66 : decode cX4_place 66 = .ok (.goto (-16), 3) := by decide +kernel
theorem dX4_place_69 : decode cX4_place 69 = .ok (.iconst 0, 1) := by decide +kernel
theorem dX4_place_70 : decode cX4_place 70 = .ok (.istore_n 2, 1) := by decide +kernel
theorem dX4_place_71 : decode cX4_place 71 = .ok (.iload_n 2, 1) := by decide +kernel
theorem dX4_place_72 : decode cX4_place 72 = .ok (.aload_n 0, 1) := by decide +kernel
theorem dX4_place_73 : decode cX4_place 73 = .ok (.getfield 111, 3) := by decide +kernel
theorem dX4_place_76 : decode cX4_place 76 = .ok (.if_icmp .ge 73, 3) := by decide +kernel
theorem dX4_place_79 : decode cX4_place 79 = .ok (.aload_n 0, 1) := by decide +kernel
theorem dX4_place_80 : decode cX4_place 80 = .ok (.getfield 35, 3) := by decide +kernel
theorem dX4_place_83 : decode cX4_place 83 = .ok (.iload_n 2, 1) := by decide +kernel
theorem dX4_place_84 : decode cX4_place 84 = .ok (.aload_n 0, 1) := by decide +kernel
theorem dX4_place_85 : decode cX4_place 85 = .ok (.getfield 32, 3) := by decide +kernel
theorem dX4_place_88 : decode cX4_place 88 = .ok (.iconst 4, 1) := by decide +kernel
theorem dX4_place_89 : decode cX4_place 89 = .ok (.iload_n 2, 1) := by decide +kernel
theorem dX4_place_90 : decode cX4_place 90 = .ok (.imul, 1) := by decide +kernel
theorem dX4_place_91 : decode cX4_place 91 = .ok (.iaload, 1) := by decide +kernel
theorem dX4_place_92 : decode cX4_place 92 = .ok (.iastore, 1) := by decide +kernel
theorem dX4_place_93 : decode cX4_place 93 = .ok (.aload_n 0, 1) := by decide +kernel
theorem dX4_place_94 : decode cX4_place 94 = .ok (.getfield 38, 3) := by decide +kernel
theorem dX4_place_97 : decode cX4_place 97 = .ok (.iload_n 2, 1) := by decide +kernel
theorem dX4_place_98 : decode cX4_place 98 = .ok (.aload_n 0, 1) := by decide +kernel
theorem dX4_place_99 : decode cX4_place 99 = .ok (.getfield 32, 3) := by decide +kernel
theorem dX4_place_102 : decode cX4_place 102 = .ok (.iconst 4, 1) := by decide +kernel
theorem dX4_place_103 : decode cX4_place 103 = .ok (.iload_n 2, 1) := by decide +kernel
theorem dX4_place_104 : decode cX4_place 104 = .ok (.imul, 1) := by decide +kernel
theorem dX4_place_105 : decode cX4_place 105 = .ok (.iconst 1, 1) := by decide +kernel
theorem dX4_place_106 : decode cX4_place 106 = .ok (.iadd, 1) := by decide +kernel
theorem dX4_place_107 : decode cX4_place 107 = .ok (.iaload, 1) := by decide +kernel
theorem dX4_place_108 : decode cX4_place 108 = .ok (.iastore, 1) := by decide +kernel
theorem dX4_place_109 : decode cX4_place 109 = .ok (.aload_n 0, 1) := by decide +kernel
theorem dX4_place_110 : decode cX4_place 110 = .ok (.getfield 41, 3) := by decide +kernel
theorem dX4_place_113 : decode cX4_place 113 = .ok (.iload_n 2, 1) := by decide +kernel
theorem dX4_place_114 : decode cX4_place 114 = .ok (.aload_n 0, 1) := by decide +kernel
theorem dX4_place_115 : decode cX4_place 115 = .ok (.getfield 32, 3) := by decide +kernel
theorem dX4_place_118 : decode cX4_place 118 = .ok (.iconst 4, 1) := by decide +kernel
theorem dX4_place_119 : decode cX4_place 119 = .ok (.iload_n 2, 1) := by decide +kernel
theorem dX4_place_120 : decode cX4_place 120 = .ok (.imul, 1) := by decide +kernel
theorem dX4_place_121 : decode cX4_place 121 = .ok (.iconst 2, 1) := by decide +kernel
theorem dX4_place_122 : decode cX4_place 122 = .ok (.iadd, 1) := by decide +kernel
theorem dX4_place_123 : decode cX4_place 123 = .ok (.iaload, 1) := by decide +kernel
theorem dX4_place_124 : decode cX4_place 124 = .ok (.iastore, 1) := by decide +kernel
theorem dX4_place_125 : decode cX4_place 125 = .ok (.aload_n 0, 1) := by decide +kernel
theorem dX4_place_126 : decode cX4_place 126 = .ok (.getfield 44, 3) := by decide +kernel
theorem dX4_place_129 : decode cX4_place 129 = .ok (.iconst 2, 1) := by decide +kernel
theorem dX4_place_130 : decode cX4_place 130 = .ok (.iload_n 2, 1) := by decide +kernel
theorem dX4_place_131 : decode cX4_place 131 = .ok (.iadd, 1) := by decide +kernel
theorem dX4_place_132 : decode cX4_place 132 = .ok (.aload_n 0, 1) := by decide +kernel
theorem dX4_place_133 : decode cX4_place 133 = .ok (.getfield 32, 3) := by decide +kernel
theorem dX4_place_136 : decode cX4_place 136 = .ok (.iconst 4, 1) := by decide +kernel
theorem dX4_place_137 : decode cX4_place 137 = .ok (.iload_n 2, 1) := by decide +kernel
theorem dX4_place_138 : decode cX4_place 138 = .ok (.imul, 1) := by decide +kernel
theorem dX4_place_139 : decode cX4_place 139 = .ok (.iconst 3, 1) := by decide +kernel
theorem dX4_place_140 : decode cX4_place 140 = .ok (.iadd, 1) := by decide +kernel
theorem dX4_place_141 : decode cX4_place 141 = .ok (.iaload, 1) := by decide +kernel
theorem dX4_place_142 : decode cX4_place 142 = .ok (.iastore, 1) := by decide +kernel
theorem dX4_place_143 : decode cX4_place 143 = .ok (.iinc 2 1, 3) := by decide +kernel
theorem dX4_place_146 : decode cX4_place 146 = .ok (.goto (-75), 3) := by decide +kernel
theorem dX4_place_149 : decode cX4_place 149 = .ok (.iconst 0, 1) := by decide +kernel
theorem dX4_place_150 : decode cX4_place 150 = .ok (.istore_n 2, 1) := by decide +kernel
theorem dX4_place_151 : decode cX4_place 151 = .ok (.iload_n 2, 1) := by decide +kernel
theorem dX4_place_152 : decode cX4_place 152 = .ok (.iconst 3, 1) := by decide +kernel
theorem dX4_place_153 : decode cX4_place 153 = .ok (.if_icmp .ge 16, 3) := by decide +kernel
theorem dX4_place_156 : decode cX4_place 156 = .ok (.aload_n 0, 1) := by decide +kernel
theorem dX4_place_157 : decode cX4_place 157 = .ok (.getfield 50, 3) := by decide +kernel
theorem dX4_place_160 : decode cX4_place 160 = .ok (.iload_n 2, 1) := by decide +kernel
theorem dX4_place_161 : decode cX4_place 161 = .ok (.iconst (-1), 1) := by decide +kernel
theorem dX4_place_162 : decode cX4_place 162 = .ok (.iastore, 1) := by decide +kernel
theorem dX4_place_163 : decode cX4_place 163 = .ok (.iinc 2 1, 3) := by decide +kernel
theorem dX4_place_166 : decode cX4_place 166 = .ok (.goto (-15), 3) := by decide +kernel
theorem dX4_place_169 : decode cX4_place 169 = .ok (.aload_n 0, 1) := by decide +kernel
theorem dX4_place_170 : decode cX4_place 170 = .ok (.getfield 111, 3) := by decide +kernel
theorem dX4_place_173 : decode cX4_place 173 = .ok (.ireturn, 1) := by decide +kernel
set_option maxRecDepth 20000 in
theorem ggX4_isHouse_X4_in : GoodIn wsX4_isHouse wsX4_in := goodIn_r _ [5] (by decide +kernel) (by decide +kernel)
set_option maxRecDepth 20000 in
theorem gX4_isHouse_X4_in : GoodIn wsX4_isHouse (va_wsS RX4 74 yX4_in wsX4_in) := goodIn_app (goodIn_of _ (by decide +kernel)) ggX4_isHouse_X4_in
theorem dX4_isHouse_0 : decode cX4_isHouse 0 = .ok (.iload_n 1, 1) := by decide +kernel
theorem dX4_isHouse_1 : decode cX4_isHouse 1 = .ok (.i2l, 1) := by decide +kernel
theorem dX4_isHouse_2 : decode cX4_isHouse 2 = .ok (.lconst 0, 1) := by decide +kernel
theorem dX4_isHouse_3 : decode cX4_isHouse 3 = .ok (.aload_n 0, 1) := by decide +kernel
theorem dX4_isHouse_4 : decode cX4_isHouse 4 = .ok (.getfield 111, 3) := by decide +kernel
theorem dX4_isHouse_7 : decode cX4_isHouse 7 = .ok (.iconst 1, 1) := by decide +kernel
theorem dX4_isHouse_8 : decode cX4_isHouse 8 = .ok (.isub, 1) := by decide +kernel
theorem dX4_isHouse_9 : decode cX4_isHouse 9 = .ok (.i2l, 1) := by decide +kernel
theorem dX4_isHouse_10 : decode cX4_isHouse 10 = .ok (.invokestatic 74, 3) := by decide +kernel
theorem dX4_isHouse_13 : decode cX4_isHouse 13 = .ok (.ireturn, 1) := by decide +kernel
theorem dX4_jar_0 : decode cX4_jar 0 = .ok (.aload_n 0, 1) := by decide +kernel
theorem dX4_jar_1 : decode cX4_jar 1 = .ok (.getfield 44, 3) := by decide +kernel
theorem dX4_jar_4 : decode cX4_jar 4 = .ok (.iconst 2, 1) := by decide +kernel
theorem dX4_jar_5 : decode cX4_jar 5 = .ok (.iload_n 1, 1) := by decide +kernel
theorem dX4_jar_6 : decode cX4_jar 6 = .ok (.iadd, 1) := by decide +kernel
theorem dX4_jar_7 : decode cX4_jar 7 = .ok (.iaload, 1) := by decide +kernel
theorem dX4_jar_8 : decode cX4_jar 8 = .ok (.ireturn, 1) := by decide +kernel
theorem dX4_worthTo_0 : decode cX4_worthTo 0 = .ok (.iload_n 0, 1) := by decide +kernel
theorem dX4_worthTo_1 : decode cX4_worthTo 1 = .ok (.tableswitch 63 0 4 #[35, 37, 41, 45, 57], 35) := by decide +kernel
theorem dX4_worthTo_36 : decode cX4_worthTo 36 = .ok (.iload_n 1, 1) := by decide +kernel
theorem dX4_worthTo_37 : decode cX4_worthTo 37 = .ok (.ireturn, 1) := by decide +kernel
theorem dX4_worthTo_38 : decode cX4_worthTo 38 = .ok (.iload_n 1, 1) := by decide +kernel
theorem dX4_worthTo_39 : decode cX4_worthTo 39 = .ok (.iconst 3, 1) := by decide +kernel
theorem dX4_worthTo_40 : decode cX4_worthTo 40 = .ok (.iadd, 1) := by decide +kernel
theorem dX4_worthTo_41 : decode cX4_worthTo 41 = .ok (.ireturn, 1) := by decide +kernel
theorem dX4_worthTo_42 : decode cX4_worthTo 42 = .ok (.iconst 2, 1) := by decide +kernel
theorem dX4_worthTo_43 : decode cX4_worthTo 43 = .ok (.iload_n 1, 1) := by decide +kernel
theorem dX4_worthTo_44 : decode cX4_worthTo 44 = .ok (.imul, 1) := by decide +kernel
theorem dX4_worthTo_45 : decode cX4_worthTo 45 = .ok (.ireturn, 1) := by decide +kernel
theorem dX4_worthTo_46 : decode cX4_worthTo 46 = .ok (.iload_n 1, 1) := by decide +kernel
theorem dX4_worthTo_47 : decode cX4_worthTo 47 = .ok (.bipush 20, 2) := by decide +kernel
theorem dX4_worthTo_49 : decode cX4_worthTo 49 = .ok (.if_icmp .le 7, 3) := by decide +kernel
theorem dX4_worthTo_52 : decode cX4_worthTo 52 = .ok (.iconst 0, 1) := by decide +kernel
theorem dX4_worthTo_53 : decode cX4_worthTo 53 = .ok (.goto 4, 3) := by decide +kernel
theorem dX4_worthTo_56 : decode cX4_worthTo 56 = .ok (.iload_n 1, 1) := by decide +kernel
theorem dX4_worthTo_57 : decode cX4_worthTo 57 = .ok (.ireturn, 1) := by decide +kernel
theorem dX4_worthTo_58 : decode cX4_worthTo 58 = .ok (.iconst 2, 1) := by decide +kernel
theorem dX4_worthTo_59 : decode cX4_worthTo 59 = .ok (.iload_n 1, 1) := by decide +kernel
theorem dX4_worthTo_60 : decode cX4_worthTo 60 = .ok (.iconst 3, 1) := by decide +kernel
theorem dX4_worthTo_61 : decode cX4_worthTo 61 = .ok (.iadd, 1) := by decide +kernel
theorem dX4_worthTo_62 : decode cX4_worthTo 62 = .ok (.imul, 1) := by decide +kernel
theorem dX4_worthTo_63 : decode cX4_worthTo 63 = .ok (.ireturn, 1) := by decide +kernel
theorem dX4_worthTo_64 : decode cX4_worthTo 64 = .ok (.iconst 2, 1) := by decide +kernel
theorem dX4_worthTo_65 : decode cX4_worthTo 65 = .ok (.iload_n 1, 1) := by decide +kernel
theorem dX4_worthTo_66 : decode cX4_worthTo 66 = .ok (.imul, 1) := by decide +kernel
theorem dX4_worthTo_67 : decode cX4_worthTo 67 = .ok (.iconst 5, 1) := by decide +kernel
theorem dX4_worthTo_68 : decode cX4_worthTo 68 = .ok (.if_icmp .ge 7, 3) := by decide +kernel
theorem dX4_worthTo_71 : decode cX4_worthTo 71 = .ok (.iconst 0, 1) := by decide +kernel
theorem dX4_worthTo_72 : decode cX4_worthTo 72 = .ok (.goto 8, 3) := by decide +kernel
theorem dX4_worthTo_75 : decode cX4_worthTo 75 = .ok (.iconst 2, 1) := by decide +kernel
theorem dX4_worthTo_76 : decode cX4_worthTo 76 = .ok (.iload_n 1, 1) := by decide +kernel
theorem dX4_worthTo_77 : decode cX4_worthTo 77 = .ok (.imul, 1) := by decide +kernel
theorem dX4_worthTo_78 : decode cX4_worthTo 78 = .ok (.iconst 5, 1) := by decide +kernel
theorem dX4_worthTo_79 : decode cX4_worthTo 79 = .ok (.isub, 1) := by decide +kernel
theorem dX4_worthTo_80 : decode cX4_worthTo 80 = .ok (.ireturn, 1) := by decide +kernel
theorem dX4_broughtBy_0 : decode cX4_broughtBy 0 = .ok (.iload_n 1, 1) := by decide +kernel
theorem dX4_broughtBy_1 : decode cX4_broughtBy 1 = .ok (.tableswitch 58 0 4 #[35, 37, 35, 41, 56], 35) := by decide +kernel
theorem dX4_broughtBy_36 : decode cX4_broughtBy 36 = .ok (.iload_n 2, 1) := by decide +kernel
theorem dX4_broughtBy_37 : decode cX4_broughtBy 37 = .ok (.ireturn, 1) := by decide +kernel
theorem dX4_broughtBy_38 : decode cX4_broughtBy 38 = .ok (.iload_n 2, 1) := by decide +kernel
theorem dX4_broughtBy_39 : decode cX4_broughtBy 39 = .ok (.iconst 2, 1) := by decide +kernel
theorem dX4_broughtBy_40 : decode cX4_broughtBy 40 = .ok (.idiv, 1) := by decide +kernel
theorem dX4_broughtBy_41 : decode cX4_broughtBy 41 = .ok (.ireturn, 1) := by decide +kernel
theorem dX4_broughtBy_42 : decode cX4_broughtBy 42 = .ok (.iload_n 2, 1) := by decide +kernel
theorem dX4_broughtBy_43 : decode cX4_broughtBy 43 = .ok (.bipush 7, 2) := by decide +kernel
theorem dX4_broughtBy_45 : decode cX4_broughtBy 45 = .ok (.if_icmp .ge 7, 3) := by decide +kernel
theorem dX4_broughtBy_48 : decode cX4_broughtBy 48 = .ok (.iconst 0, 1) := by decide +kernel
theorem dX4_broughtBy_49 : decode cX4_broughtBy 49 = .ok (.goto 7, 3) := by decide +kernel
theorem dX4_broughtBy_52 : decode cX4_broughtBy 52 = .ok (.iload_n 2, 1) := by decide +kernel
theorem dX4_broughtBy_53 : decode cX4_broughtBy 53 = .ok (.bipush 7, 2) := by decide +kernel
theorem dX4_broughtBy_55 : decode cX4_broughtBy 55 = .ok (.isub, 1) := by decide +kernel
theorem dX4_broughtBy_56 : decode cX4_broughtBy 56 = .ok (.ireturn, 1) := by decide +kernel
theorem dX4_broughtBy_57 : decode cX4_broughtBy 57 = .ok (.iconst 0, 1) := by decide +kernel
theorem dX4_broughtBy_58 : decode cX4_broughtBy 58 = .ok (.ireturn, 1) := by decide +kernel
theorem dX4_broughtBy_59 : decode cX4_broughtBy 59 = .ok (.aload_n 0, 1) := by decide +kernel
theorem dX4_broughtBy_60 : decode cX4_broughtBy 60 = .ok (.getfield 44, 3) := by decide +kernel
theorem dX4_broughtBy_63 : decode cX4_broughtBy 63 = .ok (.iconst 0, 1) := by decide +kernel
theorem dX4_broughtBy_64 : decode cX4_broughtBy 64 = .ok (.iaload, 1) := by decide +kernel
theorem dX4_broughtBy_65 : decode cX4_broughtBy 65 = .ok (.iconst 2, 1) := by decide +kernel
theorem dX4_broughtBy_66 : decode cX4_broughtBy 66 = .ok (.irem, 1) := by decide +kernel
theorem dX4_broughtBy_67 : decode cX4_broughtBy 67 = .ok (.iconst 1, 1) := by decide +kernel
theorem dX4_broughtBy_68 : decode cX4_broughtBy 68 = .ok (.if_icmp .ne 7, 3) := by decide +kernel
theorem dX4_broughtBy_71 : decode cX4_broughtBy 71 = .ok (.iconst 0, 1) := by decide +kernel
theorem dX4_broughtBy_72 : decode cX4_broughtBy 72 = .ok (.goto 4, 3) := by decide +kernel
theorem dX4_broughtBy_75 : decode cX4_broughtBy 75 = .ok (.iload_n 2, 1) := by decide +kernel
theorem dX4_broughtBy_76 : decode cX4_broughtBy 76 = .ok (.ireturn, 1) := by decide +kernel
set_option maxRecDepth 20000 in
theorem ggX4_worthNow_X4_jar : GoodIn wsX4_worthNow wsX4_jar := goodIn_r _ [6, 7, 11, 12, 13, 14, 15, 16, 17, 18, 19, 20, 21, 22, 23, 24, 25, 26, 27, 28, 29, 30, 31, 32, 33] (by decide +kernel) (by decide +kernel)
set_option maxRecDepth 20000 in
theorem gX4_worthNow_X4_jar : GoodIn wsX4_worthNow (wsV RX4 117 RX4 yX4_jar wsX4_jar) := goodIn_app (goodIn_of _ (by decide +kernel)) ggX4_worthNow_X4_jar
set_option maxRecDepth 20000 in
theorem ggX4_worthNow_X4_worthTo : GoodIn wsX4_worthNow wsX4_worthTo := goodIn_r _ [10] (by decide +kernel) (by decide +kernel)
set_option maxRecDepth 20000 in
theorem gX4_worthNow_X4_worthTo : GoodIn wsX4_worthNow (va_wsS RX4 120 yX4_worthTo wsX4_worthTo) := goodIn_app (goodIn_of _ (by decide +kernel)) ggX4_worthNow_X4_worthTo
theorem dX4_worthNow_0 : decode cX4_worthNow 0 = .ok (.aload_n 0, 1) := by decide +kernel
theorem dX4_worthNow_1 : decode cX4_worthNow 1 = .ok (.getfield 35, 3) := by decide +kernel
theorem dX4_worthNow_4 : decode cX4_worthNow 4 = .ok (.iload_n 1, 1) := by decide +kernel
theorem dX4_worthNow_5 : decode cX4_worthNow 5 = .ok (.iaload, 1) := by decide +kernel
theorem dX4_worthNow_6 : decode cX4_worthNow 6 = .ok (.aload_n 0, 1) := by decide +kernel
theorem dX4_worthNow_7 : decode cX4_worthNow 7 = .ok (.iload_n 1, 1) := by decide +kernel
theorem dX4_worthNow_8 : decode cX4_worthNow 8 = .ok (.invokevirtual 117, 3) := by decide +kernel
theorem dX4_worthNow_11 : decode cX4_worthNow 11 = .ok (.invokestatic 120, 3) := by decide +kernel
theorem dX4_worthNow_14 : decode cX4_worthNow 14 = .ok (.ireturn, 1) := by decide +kernel
set_option maxRecDepth 20000 in
theorem ggX4_brings_X4_jar : GoodIn wsX4_brings wsX4_jar := goodIn_r _ [6, 7, 12, 13, 14, 15, 16, 17, 18, 19, 20, 21, 22, 23, 24, 25, 26, 27, 28, 29, 30, 31, 32, 33, 34] (by decide +kernel) (by decide +kernel)
set_option maxRecDepth 20000 in
theorem gX4_brings_X4_jar : GoodIn wsX4_brings (wsV RX4 117 RX4 yX4_jar wsX4_jar) := goodIn_app (goodIn_of _ (by decide +kernel)) ggX4_brings_X4_jar
set_option maxRecDepth 20000 in
theorem ggX4_brings_X4_broughtBy : GoodIn wsX4_brings wsX4_broughtBy := goodIn_r _ [11, 7, 12, 13, 14, 15, 16, 17, 18, 19, 20, 21, 22, 23, 24, 25, 26, 27, 28, 29, 30, 31, 32, 33, 34] (by decide +kernel) (by decide +kernel)
set_option maxRecDepth 20000 in
theorem gX4_brings_X4_broughtBy : GoodIn wsX4_brings (wsV RX4 123 RX4 yX4_broughtBy wsX4_broughtBy) := goodIn_app (goodIn_of _ (by decide +kernel)) ggX4_brings_X4_broughtBy
theorem dX4_brings_0 : decode cX4_brings 0 = .ok (.aload_n 0, 1) := by decide +kernel
theorem dX4_brings_1 : decode cX4_brings 1 = .ok (.aload_n 0, 1) := by decide +kernel
theorem dX4_brings_2 : decode cX4_brings 2 = .ok (.getfield 35, 3) := by decide +kernel
theorem dX4_brings_5 : decode cX4_brings 5 = .ok (.iload_n 1, 1) := by decide +kernel
theorem dX4_brings_6 : decode cX4_brings 6 = .ok (.iaload, 1) := by decide +kernel
theorem dX4_brings_7 : decode cX4_brings 7 = .ok (.aload_n 0, 1) := by decide +kernel
theorem dX4_brings_8 : decode cX4_brings 8 = .ok (.iload_n 1, 1) := by decide +kernel
theorem dX4_brings_9 : decode cX4_brings 9 = .ok (.invokevirtual 117, 3) := by decide +kernel
theorem dX4_brings_12 : decode cX4_brings 12 = .ok (.invokevirtual 123, 3) := by decide +kernel
theorem dX4_brings_15 : decode cX4_brings 15 = .ok (.ireturn, 1) := by decide +kernel
set_option maxRecDepth 20000 in
theorem ggX4_comesOff_X4_worthNow : GoodIn wsX4_comesOff wsX4_worthNow := goodIn_r _ [6, 7, 8, 9, 10, 5, 11, 12, 13, 14, 15, 16, 17, 18, 19, 20, 21, 22, 23, 24, 25, 26, 27, 28, 29, 30, 31, 32, 33, 34, 35, 36, 37, 38] (by decide +kernel) (by decide +kernel)
set_option maxRecDepth 20000 in
theorem gX4_comesOff_X4_worthNow : GoodIn wsX4_comesOff (wsV RX4 126 RX4 yX4_worthNow wsX4_worthNow) := goodIn_app (goodIn_of _ (by decide +kernel)) ggX4_comesOff_X4_worthNow
theorem dX4_comesOff_0 : decode cX4_comesOff 0 = .ok (.aload_n 0, 1) := by decide +kernel
theorem dX4_comesOff_1 : decode cX4_comesOff 1 = .ok (.iload_n 1, 1) := by decide +kernel
theorem dX4_comesOff_2 : decode cX4_comesOff 2 = .ok (.invokevirtual 126, 3) := by decide +kernel
theorem dX4_comesOff_5 : decode cX4_comesOff 5 = .ok (.iconst 5, 1) := by decide +kernel
theorem dX4_comesOff_6 : decode cX4_comesOff 6 = .ok (.aload_n 0, 1) := by decide +kernel
theorem dX4_comesOff_7 : decode cX4_comesOff 7 = .ok (.getfield 41, 3) := by decide +kernel
theorem dX4_comesOff_10 : decode cX4_comesOff 10 = .ok (.iload_n 1, 1) := by decide +kernel
theorem dX4_comesOff_11 : decode cX4_comesOff 11 = .ok (.iaload, 1) := by decide +kernel
theorem dX4_comesOff_12 : decode cX4_comesOff 12 = .ok (.imul, 1) := by decide +kernel
theorem dX4_comesOff_13 : decode cX4_comesOff 13 = .ok (.if_icmp .lt 7, 3) := by decide +kernel
theorem dX4_comesOff_16 : decode cX4_comesOff 16 = .ok (.iconst 1, 1) := by decide +kernel
theorem dX4_comesOff_17 : decode cX4_comesOff 17 = .ok (.goto 4, 3) := by decide +kernel
theorem dX4_comesOff_20 : decode cX4_comesOff 20 = .ok (.iconst 0, 1) := by decide +kernel
theorem dX4_comesOff_21 : decode cX4_comesOff 21 = .ok (.ireturn, 1) := by decide +kernel
theorem dX4_isOf_0 : decode cX4_isOf 0 = .ok (.iload_n 0, 1) := by decide +kernel
theorem dX4_isOf_1 : decode cX4_isOf 1 = .ok (.iload_n 1, 1) := by decide +kernel
theorem dX4_isOf_2 : decode cX4_isOf 2 = .ok (.if_icmp .eq 23, 3) := by decide +kernel
theorem dX4_isOf_5 : decode cX4_isOf 5 = .ok (.iload_n 0, 1) := by decide +kernel
theorem dX4_isOf_6 : decode cX4_isOf 6 = .ok (.iconst 4, 1) := by decide +kernel
theorem dX4_isOf_7 : decode cX4_isOf 7 = .ok (.if_icmp .ne 8, 3) := by decide +kernel
theorem dX4_isOf_10 : decode cX4_isOf 10 = .ok (.iload_n 1, 1) := by decide +kernel
theorem dX4_isOf_11 : decode cX4_isOf 11 = .ok (.iconst 1, 1) := by decide +kernel
theorem dX4_isOf_12 : decode cX4_isOf 12 = .ok (.if_icmp .eq 13, 3) := by decide +kernel
theorem dX4_isOf_15 : decode cX4_isOf 15 = .ok (.iload_n 0, 1) := by decide +kernel
theorem dX4_isOf_16 : decode cX4_isOf 16 = .ok (.iconst 5, 1) := by decide +kernel
theorem dX4_isOf_17 : decode cX4_isOf 17 = .ok (.if_icmp .ne 12, 3) := by decide +kernel
theorem dX4_isOf_20 : decode cX4_isOf 20 = .ok (.iload_n 1, 1) := by decide +kernel
theorem dX4_isOf_21 : decode cX4_isOf 21 = .ok (.iconst 2, 1) := by decide +kernel
theorem dX4_isOf_22 : decode cX4_isOf 22 = .ok (.if_icmp .ne 7, 3) := by decide +kernel
theorem dX4_isOf_25 : decode cX4_isOf 25 = .ok (.iconst 1, 1) := by decide +kernel
theorem dX4_isOf_26 : decode cX4_isOf 26 = .ok (.goto 4, 3) := by decide +kernel
theorem dX4_isOf_29 : decode cX4_isOf 29 = .ok (.iconst 0, 1) := by decide +kernel
theorem dX4_isOf_30 : decode cX4_isOf 30 = .ok (.ireturn, 1) := by decide +kernel
set_option maxRecDepth 20000 in
theorem ggX4_told_X4_jar : GoodIn wsX4_told wsX4_jar := goodIn_r _ [8, 9, 29, 30, 31, 32, 33, 34, 35, 36, 37, 38, 39, 40, 41, 42, 43, 44, 45, 46, 47, 48, 49, 50, 51] (by decide +kernel) (by decide +kernel)
set_option maxRecDepth 20000 in
theorem gX4_told_X4_jar : GoodIn wsX4_told (wsV RX4 117 RX4 yX4_jar wsX4_jar) := goodIn_app (goodIn_of _ (by decide +kernel)) ggX4_told_X4_jar
set_option maxRecDepth 20000 in
theorem ggX4_told_X4_brings : GoodIn wsX4_told wsX4_brings := goodIn_r _ [13, 1, 4, 5, 6, 7, 8, 9, 14, 15, 16, 17, 29, 30, 31, 32, 33, 34, 35, 36, 37, 38, 39, 40, 41, 42, 43, 44, 45, 46, 47, 48, 49, 50, 51] (by decide +kernel) (by decide +kernel)
set_option maxRecDepth 20000 in
theorem gX4_told_X4_brings : GoodIn wsX4_told (wsV RX4 129 RX4 yX4_brings wsX4_brings) := goodIn_app (goodIn_of _ (by decide +kernel)) ggX4_told_X4_brings
set_option maxRecDepth 20000 in
theorem ggX4_told_X4_worthNow : GoodIn wsX4_told wsX4_worthNow := goodIn_r _ [21, 1, 4, 5, 6, 7, 8, 9, 22, 23, 24, 29, 30, 31, 32, 33, 34, 35, 36, 37, 38, 39, 40, 41, 42, 43, 44, 45, 46, 47, 48, 49, 50, 51] (by decide +kernel) (by decide +kernel)
set_option maxRecDepth 20000 in
theorem gX4_told_X4_worthNow : GoodIn wsX4_told (wsV RX4 126 RX4 yX4_worthNow wsX4_worthNow) := goodIn_app (goodIn_of _ (by decide +kernel)) ggX4_told_X4_worthNow
set_option maxRecDepth 20000 in
theorem ggX4_told_X4_comesOff : GoodIn wsX4_told wsX4_comesOff := goodIn_r _ [28, 3, 18, 19, 20, 7, 21, 1, 4, 5, 6, 8, 9, 22, 23, 24, 29, 30, 31, 32, 33, 34, 35, 36, 37, 38, 39, 40, 41, 42, 43, 44, 45, 46, 47, 48, 49, 50, 51] (by decide +kernel) (by decide +kernel)
set_option maxRecDepth 20000 in
theorem gX4_told_X4_comesOff : GoodIn wsX4_told (wsV RX4 132 RX4 yX4_comesOff wsX4_comesOff) := goodIn_app (goodIn_of _ (by decide +kernel)) ggX4_told_X4_comesOff
theorem dX4_told_0 : decode cX4_told 0 = .ok (.iload_n 2, 1) := by decide +kernel
theorem dX4_told_1 : decode cX4_told 1 = .ok (.tableswitch 78 0 5 #[39, 46, 53, 60, 66, 72], 39) := by decide +kernel
theorem dX4_told_40 : decode cX4_told 40 = .ok (.aload_n 0, 1) := by decide +kernel
theorem dX4_told_41 : decode cX4_told 41 = .ok (.getfield 35, 3) := by decide +kernel
theorem dX4_told_44 : decode cX4_told 44 = .ok (.iload_n 1, 1) := by decide +kernel
theorem dX4_told_45 : decode cX4_told 45 = .ok (.iaload, 1) := by decide +kernel
theorem dX4_told_46 : decode cX4_told 46 = .ok (.ireturn, 1) := by decide +kernel
theorem dX4_told_47 : decode cX4_told 47 = .ok (.aload_n 0, 1) := by decide +kernel
theorem dX4_told_48 : decode cX4_told 48 = .ok (.getfield 38, 3) := by decide +kernel
theorem dX4_told_51 : decode cX4_told 51 = .ok (.iload_n 1, 1) := by decide +kernel
theorem dX4_told_52 : decode cX4_told 52 = .ok (.iaload, 1) := by decide +kernel
theorem dX4_told_53 : decode cX4_told 53 = .ok (.ireturn, 1) := by decide +kernel
theorem dX4_told_54 : decode cX4_told 54 = .ok (.aload_n 0, 1) := by decide +kernel
theorem dX4_told_55 : decode cX4_told 55 = .ok (.getfield 41, 3) := by decide +kernel
theorem dX4_told_58 : decode cX4_told 58 = .ok (.iload_n 1, 1) := by decide +kernel
theorem dX4_told_59 : decode cX4_told 59 = .ok (.iaload, 1) := by decide +kernel
theorem dX4_told_60 : decode cX4_told 60 = .ok (.ireturn, 1) := by decide +kernel
theorem dX4_told_61 : decode cX4_told 61 = .ok (.aload_n 0, 1) := by decide +kernel
theorem dX4_told_62 : decode cX4_told 62 = .ok (.iload_n 1, 1) := by decide +kernel
theorem dX4_told_63 : decode cX4_told 63 = .ok (.invokevirtual 117, 3) := by decide +kernel
theorem dX4_told_66 : decode cX4_told 66 = .ok (.ireturn, 1) := by decide +kernel
theorem dX4_told_67 : decode cX4_told 67 = .ok (.aload_n 0, 1) := by decide +kernel
theorem dX4_told_68 : decode cX4_told 68 = .ok (.iload_n 1, 1) := by decide +kernel
theorem dX4_told_69 : decode cX4_told 69 = .ok (.invokevirtual 129, 3) := by decide +kernel
theorem dX4_told_72 : decode cX4_told 72 = .ok (.ireturn, 1) := by decide +kernel
theorem dX4_told_73 : decode cX4_told 73 = .ok (.aload_n 0, 1) := by decide +kernel
theorem dX4_told_74 : decode cX4_told 74 = .ok (.iload_n 1, 1) := by decide +kernel
theorem dX4_told_75 : decode cX4_told 75 = .ok (.invokevirtual 126, 3) := by decide +kernel
theorem dX4_told_78 : decode cX4_told 78 = .ok (.ireturn, 1) := by decide +kernel
theorem dX4_told_79 : decode cX4_told 79 = .ok (.aload_n 0, 1) := by decide +kernel
theorem dX4_told_80 : decode cX4_told 80 = .ok (.iload_n 1, 1) := by decide +kernel
theorem dX4_told_81 : decode cX4_told 81 = .ok (.invokevirtual 132, 3) := by decide +kernel
theorem dX4_told_84 : decode cX4_told 84 = .ok (.ifCond .eq 7, 3) := by decide +kernel
theorem dX4_told_87 : decode cX4_told 87 = .ok (.iconst 1, 1) := by decide +kernel
theorem dX4_told_88 : decode cX4_told 88 = .ok (.goto 4, 3) := by decide +kernel
theorem dX4_told_91 : decode cX4_told 91 = .ok (.iconst 0, 1) := by decide +kernel
theorem dX4_told_92 : decode cX4_told 92 = .ok (.ireturn, 1) := by decide +kernel
set_option maxRecDepth 20000 in
theorem ggX4_house_X4_isHouse : GoodIn wsX4_house wsX4_isHouse := goodIn_r _ [6, 7, 8, 9, 5, 10, 47, 48, 49, 50, 51, 52, 53, 54, 55, 56, 57, 58, 59, 60, 61, 62, 63, 64, 65, 66, 67, 68, 69] (by decide +kernel) (by decide +kernel)
set_option maxRecDepth 20000 in
theorem gX4_house_X4_isHouse : GoodIn wsX4_house (wsV RX4 135 RX4 yX4_isHouse wsX4_isHouse) := goodIn_app (goodIn_of _ (by decide +kernel)) ggX4_house_X4_isHouse
set_option maxRecDepth 20000 in
theorem ggX4_house_X4_in : GoodIn wsX4_house wsX4_in := goodIn_r _ [10] (by decide +kernel) (by decide +kernel)
set_option maxRecDepth 20000 in
theorem gX4_house_X4_in : GoodIn wsX4_house (va_wsS RX4 74 yX4_in wsX4_in) := goodIn_app (goodIn_of _ (by decide +kernel)) ggX4_house_X4_in
set_option maxRecDepth 20000 in
theorem ggX4_house_X4_told : GoodIn wsX4_house wsX4_told := goodIn_r _ [14, 15, 16, 17, 18, 19, 20, 5, 21, 22, 23, 24, 25, 26, 27, 28, 29, 30, 31, 32, 33, 34, 35, 36, 37, 38, 39, 40, 41, 47, 48, 49, 50, 51, 52, 53, 54, 55, 56, 57, 58, 59, 60, 61, 62, 63, 64, 65, 66, 67, 68, 69] (by decide +kernel) (by decide +kernel)
set_option maxRecDepth 20000 in
theorem gX4_house_X4_told : GoodIn wsX4_house (wsV RX4 140 RX4 yX4_told wsX4_told) := goodIn_app (goodIn_of _ (by decide +kernel)) ggX4_house_X4_told
set_option maxRecDepth 20000 in
theorem ggX4_house_X4_tells : GoodIn wsX4_house wsX4_tells := goodIn_r _ [45, 46, 47, 48, 49, 50, 51, 52, 53, 54, 55, 56, 57, 58, 59, 60, 61, 62, 63, 64, 65, 66, 67, 68, 69] (by decide +kernel) (by decide +kernel)
set_option maxRecDepth 20000 in
theorem gX4_house_X4_tells : GoodIn wsX4_house (wsV RX4 92 RX4 yX4_tells wsX4_tells) := goodIn_app (goodIn_of _ (by decide +kernel)) ggX4_house_X4_tells
theorem dX4_house_0 : decode cX4_house 0 = .ok (.aload_n 0, 1) := by decide +kernel
theorem dX4_house_1 : decode cX4_house 1 = .ok (.iload_n 1, 1) := by decide +kernel
theorem dX4_house_2 : decode cX4_house 2 = .ok (.invokevirtual 135, 3) := by decide +kernel
theorem dX4_house_5 : decode cX4_house 5 = .ok (.ifCond .eq 29, 3) := by decide +kernel
theorem dX4_house_8 : decode cX4_house 8 = .ok (.iload_n 2, 1) := by decide +kernel
theorem dX4_house_9 : decode cX4_house 9 = .ok (.i2l, 1) := by decide +kernel
theorem dX4_house_10 : decode cX4_house 10 = .ok (.lconst 0, 1) := by decide +kernel
theorem dX4_house_11 : decode cX4_house 11 = .ok (.ldc2_w 138, 3) := by decide +kernel
theorem dX4_house_14 : decode cX4_house 14 = .ok (.invokestatic 74, 3) := by decide +kernel
theorem dX4_house_17 : decode cX4_house 17 = .ok (.ifCond .eq 17, 3) := by decide +kernel
theorem dX4_house_20 : decode cX4_house 20 = .ok (.aload_n 0, 1) := by decide +kernel
theorem dX4_house_21 : decode cX4_house 21 = .ok (.iconst 1, 1) := by decide +kernel
theorem dX4_house_22 : decode cX4_house 22 = .ok (.aload_n 0, 1) := by decide +kernel
theorem dX4_house_23 : decode cX4_house 23 = .ok (.iload_n 1, 1) := by decide +kernel
theorem dX4_house_24 : decode cX4_house 24 = .ok (.iload_n 2, 1) := by decide +kernel
theorem dX4_house_25 : decode cX4_house 25 = .ok (.invokevirtual 140, 3) := by decide +kernel
theorem dX4_house_28 : decode cX4_house 28 = .ok (.invokevirtual 92, 3) := by decide +kernel
theorem dX4_house_31 : decode cX4_house 31 = .ok (.goto 4, 3) := by decide +kernel
theorem dX4_house_34 : decode cX4_house 34 = .ok (.iconst (-1), 1) := by decide +kernel
theorem dX4_house_35 : decode cX4_house 35 = .ok (.ireturn, 1) := by decide +kernel
set_option maxRecDepth 20000 in
theorem ggX4_mark_X4_isHouse : GoodIn wsX4_mark wsX4_isHouse := goodIn_r _ [6, 7, 8, 9, 5, 10, 51, 52, 53, 54, 55, 56, 57, 58, 59, 60, 61, 62, 63, 64, 65, 66, 67, 68, 69, 70, 71, 72, 73] (by decide +kernel) (by decide +kernel)
set_option maxRecDepth 20000 in
theorem gX4_mark_X4_isHouse : GoodIn wsX4_mark (wsV RX4 135 RX4 yX4_isHouse wsX4_isHouse) := goodIn_app (goodIn_of _ (by decide +kernel)) ggX4_mark_X4_isHouse
set_option maxRecDepth 20000 in
theorem ggX4_mark_X4_in : GoodIn wsX4_mark wsX4_in := goodIn_r _ [10] (by decide +kernel) (by decide +kernel)
set_option maxRecDepth 20000 in
theorem gX4_mark_X4_in : GoodIn wsX4_mark (va_wsS RX4 74 yX4_in wsX4_in) := goodIn_app (goodIn_of _ (by decide +kernel)) ggX4_mark_X4_in
set_option maxRecDepth 20000 in
theorem ggX4_mark_X4_told : GoodIn wsX4_mark wsX4_told := goodIn_r _ [14, 15, 16, 17, 18, 19, 20, 5, 21, 22, 23, 24, 25, 26, 27, 28, 29, 30, 31, 32, 33, 34, 35, 36, 37, 38, 39, 40, 41, 51, 52, 53, 54, 55, 56, 57, 58, 59, 60, 61, 62, 63, 64, 65, 66, 67, 68, 69, 70, 71, 72, 73] (by decide +kernel) (by decide +kernel)
set_option maxRecDepth 20000 in
theorem gX4_mark_X4_told : GoodIn wsX4_mark (wsV RX4 140 RX4 yX4_told wsX4_told) := goodIn_app (goodIn_of _ (by decide +kernel)) ggX4_mark_X4_told
set_option maxRecDepth 20000 in
theorem ggX4_mark_X4_isOf : GoodIn wsX4_mark wsX4_isOf := goodIn_r _ [44] (by decide +kernel) (by decide +kernel)
set_option maxRecDepth 20000 in
theorem gX4_mark_X4_isOf : GoodIn wsX4_mark (va_wsS RX4 143 yX4_isOf wsX4_isOf) := goodIn_app (goodIn_of _ (by decide +kernel)) ggX4_mark_X4_isOf
set_option maxRecDepth 20000 in
theorem ggX4_mark_X4_finds : GoodIn wsX4_mark wsX4_finds := goodIn_r _ [48, 49, 50, 51, 52, 53, 54, 55, 56, 57, 58, 59, 60, 61, 62, 63, 64, 65, 66, 67, 68, 69, 70, 71, 72, 73] (by decide +kernel) (by decide +kernel)
set_option maxRecDepth 20000 in
theorem gX4_mark_X4_finds : GoodIn wsX4_mark (wsV RX4 84 RX4 yX4_finds wsX4_finds) := goodIn_app (goodIn_of _ (by decide +kernel)) ggX4_mark_X4_finds
set_option maxRecDepth 20000 in
theorem ggX4_mark_X4_jar : GoodIn wsX4_mark wsX4_jar := goodIn_r _ [21, 22, 51, 52, 53, 54, 55, 56, 57, 58, 59, 60, 61, 62, 63, 64, 65, 66, 67, 68, 69, 70, 71, 72, 73] (by decide +kernel) (by decide +kernel)
set_option maxRecDepth 20000 in
theorem gX4_mark_X4_jar : GoodIn wsX4_mark (wsV RX4 117 RX4 yX4_jar wsX4_jar) := goodIn_app (goodIn_of _ (by decide +kernel)) ggX4_mark_X4_jar
set_option maxRecDepth 20000 in
theorem ggX4_mark_X4_worthNow : GoodIn wsX4_mark wsX4_worthNow := goodIn_r _ [34, 15, 18, 19, 20, 5, 21, 22, 35, 36, 37, 51, 52, 53, 54, 55, 56, 57, 58, 59, 60, 61, 62, 63, 64, 65, 66, 67, 68, 69, 70, 71, 72, 73] (by decide +kernel) (by decide +kernel)
set_option maxRecDepth 20000 in
theorem gX4_mark_X4_worthNow : GoodIn wsX4_mark (wsV RX4 126 RX4 yX4_worthNow wsX4_worthNow) := goodIn_app (goodIn_of _ (by decide +kernel)) ggX4_mark_X4_worthNow
set_option maxRecDepth 20000 in
theorem ggX4_mark_X4_brings : GoodIn wsX4_mark wsX4_brings := goodIn_r _ [26, 15, 18, 19, 20, 5, 21, 22, 27, 28, 29, 30, 51, 52, 53, 54, 55, 56, 57, 58, 59, 60, 61, 62, 63, 64, 65, 66, 67, 68, 69, 70, 71, 72, 73] (by decide +kernel) (by decide +kernel)
set_option maxRecDepth 20000 in
theorem gX4_mark_X4_brings : GoodIn wsX4_mark (wsV RX4 129 RX4 yX4_brings wsX4_brings) := goodIn_app (goodIn_of _ (by decide +kernel)) ggX4_mark_X4_brings
set_option maxRecDepth 20000 in
theorem ggX4_mark_X4_worthTo : GoodIn wsX4_mark wsX4_worthTo := goodIn_r _ [37] (by decide +kernel) (by decide +kernel)
set_option maxRecDepth 20000 in
theorem gX4_mark_X4_worthTo : GoodIn wsX4_mark (va_wsS RX4 120 yX4_worthTo wsX4_worthTo) := goodIn_app (goodIn_of _ (by decide +kernel)) ggX4_mark_X4_worthTo
theorem dX4_mark_0 : decode cX4_mark 0 = .ok (.aload_n 0, 1) := by decide +kernel
theorem dX4_mark_1 : decode cX4_mark 1 = .ok (.iload_n 1, 1) := by decide +kernel
theorem dX4_mark_2 : decode cX4_mark 2 = .ok (.invokevirtual 135, 3) := by decide +kernel
theorem dX4_mark_5 : decode cX4_mark 5 = .ok (.ifCond .eq 15, 3) := by decide +kernel
theorem dX4_mark_8 : decode cX4_mark 8 = .ok (.iload_n 2, 1) := by decide +kernel
theorem dX4_mark_9 : decode cX4_mark 9 = .ok (.i2l, 1) := by decide +kernel
theorem dX4_mark_10 : decode cX4_mark 10 = .ok (.lconst 1, 1) := by decide +kernel
theorem dX4_mark_11 : decode cX4_mark 11 = .ok (.ldc2_w 72, 3) := by decide +kernel
theorem dX4_mark_14 : decode cX4_mark 14 = .ok (.invokestatic 74, 3) := by decide +kernel
theorem dX4_mark_17 : decode cX4_mark 17 = .ok (.ifCond .ne 5, 3) := by decide +kernel
theorem dX4_mark_20 : decode cX4_mark 20 = .ok (.iconst (-1), 1) := by decide +kernel
theorem dX4_mark_21 : decode cX4_mark 21 = .ok (.ireturn, 1) := by decide +kernel
theorem dX4_mark_22 : decode cX4_mark 22 = .ok (.aload_n 0, 1) := by decide +kernel
theorem dX4_mark_23 : decode cX4_mark 23 = .ok (.iload_n 1, 1) := by decide +kernel
theorem dX4_mark_24 : decode cX4_mark 24 = .ok (.iconst 0, 1) := by decide +kernel
theorem dX4_mark_25 : decode cX4_mark 25 = .ok (.invokevirtual 140, 3) := by decide +kernel
theorem dX4_mark_28 : decode cX4_mark 28 = .ok (.iload_n 2, 1) := by decide +kernel
theorem dX4_mark_29 : decode cX4_mark 29 = .ok (.invokestatic 143, 3) := by decide +kernel
theorem dX4_mark_32 : decode cX4_mark 32 = .ok (.ifCond .ne 9, 3) := by decide +kernel
theorem dX4_mark_35 : decode cX4_mark 35 = .ok (.aload_n 0, 1) := by decide +kernel
theorem dX4_mark_36 : decode cX4_mark 36 = .ok (.iconst 3, 1) := by decide +kernel
theorem dX4_mark_37 : decode cX4_mark 37 = .ok (.invokevirtual 84, 3) := by decide +kernel
theorem dX4_mark_40 : decode cX4_mark 40 = .ok (.ireturn, 1) := by decide +kernel
theorem dX4_mark_41 : decode cX4_mark 41 = .ok (.aload_n 0, 1) := by decide +kernel
theorem dX4_mark_42 : decode cX4_mark 42 = .ok (.iload_n 1, 1) := by decide +kernel
theorem dX4_mark_43 : decode cX4_mark 43 = .ok (.invokevirtual 117, 3) := by decide +kernel
theorem dX4_mark_46 : decode cX4_mark 46 = .ok (.istore_n 3, 1) := by decide +kernel
theorem dX4_mark_47 : decode cX4_mark 47 = .ok (.iload_n 2, 1) := by decide +kernel
theorem dX4_mark_48 : decode cX4_mark 48 = .ok (.tableswitch 71 1 4 #[32, 40, 51, 59], 32) := by decide +kernel
theorem dX4_mark_80 : decode cX4_mark 80 = .ok (.aload_n 0, 1) := by decide +kernel
theorem dX4_mark_81 : decode cX4_mark 81 = .ok (.iload_n 1, 1) := by decide +kernel
theorem dX4_mark_82 : decode cX4_mark 82 = .ok (.invokevirtual 126, 3) := by decide +kernel
theorem dX4_mark_85 : decode cX4_mark 85 = .ok (.iload_n 3, 1) := by decide +kernel
theorem dX4_mark_86 : decode cX4_mark 86 = .ok (.isub, 1) := by decide +kernel
theorem dX4_mark_87 : decode cX4_mark 87 = .ok (.ireturn, 1) := by decide +kernel
theorem dX4_mark_88 : decode cX4_mark 88 = .ok (.aload_n 0, 1) := by decide +kernel
theorem dX4_mark_89 : decode cX4_mark 89 = .ok (.iload_n 1, 1) := by decide +kernel
theorem dX4_mark_90 : decode cX4_mark 90 = .ok (.invokevirtual 126, 3) := by decide +kernel
theorem dX4_mark_93 : decode cX4_mark 93 = .ok (.iload_n 3, 1) := by decide +kernel
theorem dX4_mark_94 : decode cX4_mark 94 = .ok (.isub, 1) := by decide +kernel
theorem dX4_mark_95 : decode cX4_mark 95 = .ok (.bipush 100, 2) := by decide +kernel
theorem dX4_mark_97 : decode cX4_mark 97 = .ok (.iadd, 1) := by decide +kernel
theorem dX4_mark_98 : decode cX4_mark 98 = .ok (.ireturn, 1) := by decide +kernel
theorem dX4_mark_99 : decode cX4_mark 99 = .ok (.iload_n 3, 1) := by decide +kernel
theorem dX4_mark_100 : decode cX4_mark 100 = .ok (.aload_n 0, 1) := by decide +kernel
theorem dX4_mark_101 : decode cX4_mark 101 = .ok (.iload_n 1, 1) := by decide +kernel
theorem dX4_mark_102 : decode cX4_mark 102 = .ok (.invokevirtual 129, 3) := by decide +kernel
theorem dX4_mark_105 : decode cX4_mark 105 = .ok (.isub, 1) := by decide +kernel
theorem dX4_mark_106 : decode cX4_mark 106 = .ok (.ireturn, 1) := by decide +kernel
theorem dX4_mark_107 : decode cX4_mark 107 = .ok (.aload_n 0, 1) := by decide +kernel
theorem dX4_mark_108 : decode cX4_mark 108 = .ok (.iload_n 1, 1) := by decide +kernel
theorem dX4_mark_109 : decode cX4_mark 109 = .ok (.invokevirtual 126, 3) := by decide +kernel
theorem dX4_mark_112 : decode cX4_mark 112 = .ok (.iconst 1, 1) := by decide +kernel
theorem dX4_mark_113 : decode cX4_mark 113 = .ok (.iload_n 3, 1) := by decide +kernel
theorem dX4_mark_114 : decode cX4_mark 114 = .ok (.invokestatic 120, 3) := by decide +kernel
theorem dX4_mark_117 : decode cX4_mark 117 = .ok (.isub, 1) := by decide +kernel
theorem dX4_mark_118 : decode cX4_mark 118 = .ok (.ireturn, 1) := by decide +kernel
theorem dX4_mark_119 : decode cX4_mark 119 = .ok (.iconst 2, 1) := by decide +kernel
theorem dX4_mark_120 : decode cX4_mark 120 = .ok (.iload_n 3, 1) := by decide +kernel
theorem dX4_mark_121 : decode cX4_mark 121 = .ok (.invokestatic 120, 3) := by decide +kernel
theorem dX4_mark_124 : decode cX4_mark 124 = .ok (.aload_n 0, 1) := by decide +kernel
theorem dX4_mark_125 : decode cX4_mark 125 = .ok (.iload_n 1, 1) := by decide +kernel
theorem dX4_mark_126 : decode cX4_mark 126 = .ok (.invokevirtual 126, 3) := by decide +kernel
theorem dX4_mark_129 : decode cX4_mark 129 = .ok (.isub, 1) := by decide +kernel
theorem dX4_mark_130 : decode cX4_mark 130 = .ok (.ireturn, 1) := by decide +kernel
set_option maxRecDepth 20000 in
theorem ggX4_worth_X4_isHouse : GoodIn wsX4_worth wsX4_isHouse := goodIn_r _ [7, 8, 9, 10, 6, 11, 15, 16, 17, 18, 19, 20, 21, 22, 23, 24, 25, 26, 27, 28, 29, 30, 31, 32, 33, 34, 35, 36, 37] (by decide +kernel) (by decide +kernel)
set_option maxRecDepth 20000 in
theorem gX4_worth_X4_isHouse : GoodIn wsX4_worth (wsV RX4 135 RX4 yX4_isHouse wsX4_isHouse) := goodIn_app (goodIn_of _ (by decide +kernel)) ggX4_worth_X4_isHouse
set_option maxRecDepth 20000 in
theorem ggX4_worth_X4_in : GoodIn wsX4_worth wsX4_in := goodIn_r _ [11] (by decide +kernel) (by decide +kernel)
set_option maxRecDepth 20000 in
theorem gX4_worth_X4_in : GoodIn wsX4_worth (va_wsS RX4 74 yX4_in wsX4_in) := goodIn_app (goodIn_of _ (by decide +kernel)) ggX4_worth_X4_in
set_option maxRecDepth 20000 in
theorem ggX4_worth_X4_worthTo : GoodIn wsX4_worth wsX4_worthTo := goodIn_r _ [14] (by decide +kernel) (by decide +kernel)
set_option maxRecDepth 20000 in
theorem gX4_worth_X4_worthTo : GoodIn wsX4_worth (va_wsS RX4 120 yX4_worthTo wsX4_worthTo) := goodIn_app (goodIn_of _ (by decide +kernel)) ggX4_worth_X4_worthTo
theorem dX4_worth_0 : decode cX4_worth 0 = .ok (.aload_n 0, 1) := by decide +kernel
theorem dX4_worth_1 : decode cX4_worth 1 = .ok (.iload_n 1, 1) := by decide +kernel
theorem dX4_worth_2 : decode cX4_worth 2 = .ok (.invokevirtual 135, 3) := by decide +kernel
theorem dX4_worth_5 : decode cX4_worth 5 = .ok (.ifCond .eq 28, 3) := by decide +kernel
theorem dX4_worth_8 : decode cX4_worth 8 = .ok (.iload_n 2, 1) := by decide +kernel
theorem dX4_worth_9 : decode cX4_worth 9 = .ok (.i2l, 1) := by decide +kernel
theorem dX4_worth_10 : decode cX4_worth 10 = .ok (.lconst 0, 1) := by decide +kernel
theorem dX4_worth_11 : decode cX4_worth 11 = .ok (.ldc2_w 147, 3) := by decide +kernel
theorem dX4_worth_14 : decode cX4_worth 14 = .ok (.invokestatic 74, 3) := by decide +kernel
theorem dX4_worth_17 : decode cX4_worth 17 = .ok (.ifCond .eq 16, 3) := by decide +kernel
theorem dX4_worth_20 : decode cX4_worth 20 = .ok (.aload_n 0, 1) := by decide +kernel
theorem dX4_worth_21 : decode cX4_worth 21 = .ok (.getfield 35, 3) := by decide +kernel
theorem dX4_worth_24 : decode cX4_worth 24 = .ok (.iload_n 1, 1) := by decide +kernel
theorem dX4_worth_25 : decode cX4_worth 25 = .ok (.iaload, 1) := by decide +kernel
theorem dX4_worth_26 : decode cX4_worth 26 = .ok (.iload_n 2, 1) := by decide +kernel
theorem dX4_worth_27 : decode cX4_worth 27 = .ok (.invokestatic 120, 3) := by decide +kernel
theorem dX4_worth_30 : decode cX4_worth 30 = .ok (.goto 4, 3) := by decide +kernel
theorem dX4_worth_33 : decode cX4_worth 33 = .ok (.iconst (-1), 1) := by decide +kernel
theorem dX4_worth_34 : decode cX4_worth 34 = .ok (.ireturn, 1) := by decide +kernel
theorem dX4_notes_0 : decode cX4_notes 0 = .ok (.iconst 0, 1) := by decide +kernel
theorem dX4_notes_1 : decode cX4_notes 1 = .ok (.istore_n 1, 1) := by decide +kernel
theorem dX4_notes_2 : decode cX4_notes 2 = .ok (.iload_n 1, 1) := by decide +kernel
theorem dX4_notes_3 : decode cX4_notes 3 = .ok (.bipush 9, 2) := by decide +kernel
theorem dX4_notes_5 : decode cX4_notes 5 = .ok (.if_icmp .ge 29, 3) := by decide +kernel
theorem dX4_notes_8 : decode cX4_notes 8 = .ok (.aload_n 0, 1) := by decide +kernel
theorem dX4_notes_9 : decode cX4_notes 9 = .ok (.getfield 47, 3) := by decide +kernel
theorem dX4_notes_12 : decode cX4_notes 12 = .ok (.bipush 9, 2) := by decide +kernel
theorem dX4_notes_14 : decode cX4_notes 14 = .ok (.aload_n 0, 1) := by decide +kernel
theorem dX4_notes_15 : decode cX4_notes 15 = .ok (.getfield 114, 3) := by decide +kernel
theorem dX4_notes_18 : decode cX4_notes 18 = .ok (.imul, 1) := by decide +kernel
theorem dX4_notes_19 : decode cX4_notes 19 = .ok (.iload_n 1, 1) := by decide +kernel
theorem dX4_notes_20 : decode cX4_notes 20 = .ok (.iadd, 1) := by decide +kernel
theorem dX4_notes_21 : decode cX4_notes 21 = .ok (.aload_n 0, 1) := by decide +kernel
theorem dX4_notes_22 : decode cX4_notes 22 = .ok (.getfield 44, 3) := by decide +kernel
theorem dX4_notes_25 : decode cX4_notes 25 = .ok (.iload_n 1, 1) := by decide +kernel
theorem dX4_notes_26 : decode cX4_notes 26 = .ok (.iaload, 1) := by decide +kernel
theorem dX4_notes_27 : decode cX4_notes 27 = .ok (.iastore, 1) := by decide +kernel
theorem dX4_notes_28 : decode cX4_notes 28 = .ok (.iinc 1 1, 3) := by decide +kernel
theorem dX4_notes_31 : decode cX4_notes 31 = .ok (.goto (-29), 3) := by decide +kernel
theorem dX4_notes_34 : decode cX4_notes 34 = .ok (.aload_n 0, 1) := by decide +kernel
theorem dX4_notes_35 : decode cX4_notes 35 = .ok (.dup, 1) := by decide +kernel
theorem dX4_notes_36 : decode cX4_notes 36 = .ok (.getfield 114, 3) := by decide +kernel
theorem dX4_notes_39 : decode cX4_notes 39 = .ok (.iconst 1, 1) := by decide +kernel
theorem dX4_notes_40 : decode cX4_notes 40 = .ok (.iadd, 1) := by decide +kernel
theorem dX4_notes_41 : decode cX4_notes 41 = .ok (.putfield 114, 3) := by decide +kernel
theorem dX4_notes_44 : decode cX4_notes 44 = .ok (.return_, 1) := by decide +kernel
set_option maxRecDepth 20000 in
theorem ggX4_goesBy_X4_jar : GoodIn wsX4_goesBy wsX4_jar := goodIn_r _ [8, 3, 9, 10, 11, 12, 13, 14, 15, 16, 17, 18, 19, 20, 21, 22, 23, 24, 25, 26, 27, 28, 29, 30, 31] (by decide +kernel) (by decide +kernel)
set_option maxRecDepth 20000 in
theorem gX4_goesBy_X4_jar : GoodIn wsX4_goesBy (wsV RX4 117 RX4 yX4_jar wsX4_jar) := goodIn_app (goodIn_of _ (by decide +kernel)) ggX4_goesBy_X4_jar
theorem dX4_goesBy_0 : decode cX4_goesBy 0 = .ok (.iconst 0, 1) := by decide +kernel
theorem dX4_goesBy_1 : decode cX4_goesBy 1 = .ok (.istore_n 1, 1) := by decide +kernel
theorem dX4_goesBy_2 : decode cX4_goesBy 2 = .ok (.iload_n 1, 1) := by decide +kernel
theorem dX4_goesBy_3 : decode cX4_goesBy 3 = .ok (.aload_n 0, 1) := by decide +kernel
theorem dX4_goesBy_4 : decode cX4_goesBy 4 = .ok (.getfield 111, 3) := by decide +kernel
theorem dX4_goesBy_7 : decode cX4_goesBy 7 = .ok (.if_icmp .ge 42, 3) := by decide +kernel
theorem dX4_goesBy_10 : decode cX4_goesBy 10 = .ok (.aload_n 0, 1) := by decide +kernel
theorem dX4_goesBy_11 : decode cX4_goesBy 11 = .ok (.iload_n 1, 1) := by decide +kernel
theorem dX4_goesBy_12 : decode cX4_goesBy 12 = .ok (.invokevirtual 117, 3) := by decide +kernel
theorem dX4_goesBy_15 : decode cX4_goesBy 15 = .ok (.aload_n 0, 1) := by decide +kernel
theorem dX4_goesBy_16 : decode cX4_goesBy 16 = .ok (.getfield 38, 3) := by decide +kernel
theorem dX4_goesBy_19 : decode cX4_goesBy 19 = .ok (.iload_n 1, 1) := by decide +kernel
theorem dX4_goesBy_20 : decode cX4_goesBy 20 = .ok (.iaload, 1) := by decide +kernel
theorem dX4_goesBy_21 : decode cX4_goesBy 21 = .ok (.iadd, 1) := by decide +kernel
theorem dX4_goesBy_22 : decode cX4_goesBy 22 = .ok (.istore_n 2, 1) := by decide +kernel
theorem dX4_goesBy_23 : decode cX4_goesBy 23 = .ok (.aload_n 0, 1) := by decide +kernel
theorem dX4_goesBy_24 : decode cX4_goesBy 24 = .ok (.getfield 44, 3) := by decide +kernel
theorem dX4_goesBy_27 : decode cX4_goesBy 27 = .ok (.iconst 2, 1) := by decide +kernel
theorem dX4_goesBy_28 : decode cX4_goesBy 28 = .ok (.iload_n 1, 1) := by decide +kernel
theorem dX4_goesBy_29 : decode cX4_goesBy 29 = .ok (.iadd, 1) := by decide +kernel
theorem dX4_goesBy_30 : decode cX4_goesBy 30 = .ok (.iload_n 2, 1) := by decide +kernel
theorem dX4_goesBy_31 : decode cX4_goesBy 31 = .ok (.bipush 99, 2) := by decide +kernel
theorem dX4_goesBy_33 : decode cX4_goesBy 33 = .ok (.if_icmp .le 8, 3) := by decide +kernel
theorem dX4_goesBy_36 : decode cX4_goesBy 36 = .ok (.bipush 99, 2) := by decide +kernel
theorem dX4_goesBy_38 : decode cX4_goesBy 38 = .ok (.goto 4, 3) := by decide +kernel
theorem dX4_goesBy_41 : decode cX4_goesBy 41 = .ok (.iload_n 2, 1) := by decide +kernel
theorem dX4_goesBy_42 : decode cX4_goesBy 42 = .ok (.iastore, 1) := by decide +kernel
theorem dX4_goesBy_43 : decode cX4_goesBy 43 = .ok (.iinc 1 1, 3) := by decide +kernel
theorem dX4_goesBy_46 : decode cX4_goesBy 46 = .ok (.goto (-44), 3) := by decide +kernel
theorem dX4_goesBy_49 : decode cX4_goesBy 49 = .ok (.aload_n 0, 1) := by decide +kernel
theorem dX4_goesBy_50 : decode cX4_goesBy 50 = .ok (.getfield 44, 3) := by decide +kernel
theorem dX4_goesBy_53 : decode cX4_goesBy 53 = .ok (.iconst 0, 1) := by decide +kernel
theorem dX4_goesBy_54 : decode cX4_goesBy 54 = .ok (.dup2, 1) := by decide +kernel
theorem dX4_goesBy_55 : decode cX4_goesBy 55 = .ok (.iaload, 1) := by decide +kernel
theorem dX4_goesBy_56 : decode cX4_goesBy 56 = .ok (.iconst 1, 1) := by decide +kernel
theorem dX4_goesBy_57 : decode cX4_goesBy 57 = .ok (.iadd, 1) := by decide +kernel
theorem dX4_goesBy_58 : decode cX4_goesBy 58 = .ok (.iastore, 1) := by decide +kernel
theorem dX4_goesBy_59 : decode cX4_goesBy 59 = .ok (.return_, 1) := by decide +kernel
set_option maxRecDepth 20000 in
theorem ggX4_springs_X4_brings : GoodIn wsX4_springs wsX4_brings := goodIn_r _ [7, 8, 9, 10, 11, 6, 12, 1, 13, 14, 15, 16, 17, 18, 19, 20, 21, 22, 23, 24, 25, 26, 27, 28, 29, 30, 31, 32, 33, 34, 35, 36, 37, 38, 39] (by decide +kernel) (by decide +kernel)
set_option maxRecDepth 20000 in
theorem gX4_springs_X4_brings : GoodIn wsX4_springs (wsV RX4 129 RX4 yX4_brings wsX4_brings) := goodIn_app (goodIn_of _ (by decide +kernel)) ggX4_springs_X4_brings
set_option maxRecDepth 20000 in
theorem ggX4_springs_X4_jar : GoodIn wsX4_springs wsX4_jar := goodIn_r _ [12, 1, 17, 18, 19, 20, 21, 22, 23, 24, 25, 26, 27, 28, 29, 30, 31, 32, 33, 34, 35, 36, 37, 38, 39] (by decide +kernel) (by decide +kernel)
set_option maxRecDepth 20000 in
theorem gX4_springs_X4_jar : GoodIn wsX4_springs (wsV RX4 117 RX4 yX4_jar wsX4_jar) := goodIn_app (goodIn_of _ (by decide +kernel)) ggX4_springs_X4_jar
theorem dX4_springs_0 : decode cX4_springs 0 = .ok (.aload_n 0, 1) := by decide +kernel
theorem dX4_springs_1 : decode cX4_springs 1 = .ok (.getfield 44, 3) := by decide +kernel
theorem dX4_springs_4 : decode cX4_springs 4 = .ok (.iconst 1, 1) := by decide +kernel
theorem dX4_springs_5 : decode cX4_springs 5 = .ok (.iaload, 1) := by decide +kernel
theorem dX4_springs_6 : decode cX4_springs 6 = .ok (.istore_n 1, 1) := by decide +kernel
theorem dX4_springs_7 : decode cX4_springs 7 = .ok (.iconst 0, 1) := by decide +kernel
theorem dX4_springs_8 : decode cX4_springs 8 = .ok (.istore_n 2, 1) := by decide +kernel
theorem dX4_springs_9 : decode cX4_springs 9 = .ok (.iload_n 2, 1) := by decide +kernel
theorem dX4_springs_10 : decode cX4_springs 10 = .ok (.aload_n 0, 1) := by decide +kernel
theorem dX4_springs_11 : decode cX4_springs 11 = .ok (.getfield 111, 3) := by decide +kernel
theorem dX4_springs_14 : decode cX4_springs 14 = .ok (.if_icmp .ge 31, 3) := by decide +kernel
theorem dX4_springs_17 : decode cX4_springs 17 = .ok (.aload_n 0, 1) := by decide +kernel
theorem dX4_springs_18 : decode cX4_springs 18 = .ok (.iload_n 2, 1) := by decide +kernel
theorem dX4_springs_19 : decode cX4_springs 19 = .ok (.invokevirtual 129, 3) := by decide +kernel
theorem dX4_springs_22 : decode cX4_springs 22 = .ok (.istore_n 3, 1) := by decide +kernel
theorem dX4_springs_23 : decode cX4_springs 23 = .ok (.iload_n 1, 1) := by decide +kernel
theorem dX4_springs_24 : decode cX4_springs 24 = .ok (.iload_n 3, 1) := by decide +kernel
theorem dX4_springs_25 : decode cX4_springs 25 = .ok (.iadd, 1) := by decide +kernel
theorem dX4_springs_26 : decode cX4_springs 26 = .ok (.istore_n 1, 1) := by decide +kernel
theorem dX4_springs_27 : decode cX4_springs 27 = .ok (.aload_n 0, 1) := by decide +kernel
theorem dX4_springs_28 : decode cX4_springs 28 = .ok (.getfield 44, 3) := by decide +kernel
theorem dX4_springs_31 : decode cX4_springs 31 = .ok (.iconst 2, 1) := by decide +kernel
theorem dX4_springs_32 : decode cX4_springs 32 = .ok (.iload_n 2, 1) := by decide +kernel
theorem dX4_springs_33 : decode cX4_springs 33 = .ok (.iadd, 1) := by decide +kernel
theorem dX4_springs_34 : decode cX4_springs 34 = .ok (.dup2, 1) := by decide +kernel
theorem dX4_springs_35 : decode cX4_springs 35 = .ok (.iaload, 1) := by decide +kernel
theorem dX4_springs_36 : decode cX4_springs 36 = .ok (.iload_n 3, 1) := by decide +kernel
theorem dX4_springs_37 : decode cX4_springs 37 = .ok (.isub, 1) := by decide +kernel
theorem dX4_springs_38 : decode cX4_springs 38 = .ok (.iastore, 1) := by decide +kernel
theorem dX4_springs_39 : decode cX4_springs 39 = .ok (.iinc 2 1, 3) := by decide +kernel
theorem dX4_springs_42 : decode cX4_springs 42 = .ok (.goto (-33), 3) := by decide +kernel
theorem dX4_springs_45 : decode cX4_springs 45 = .ok (.iload_n 1, 1) := by decide +kernel
theorem dX4_springs_46 : decode cX4_springs 46 = .ok (.aload_n 0, 1) := by decide +kernel
theorem dX4_springs_47 : decode cX4_springs 47 = .ok (.getfield 111, 3) := by decide +kernel
theorem dX4_springs_50 : decode cX4_springs 50 = .ok (.idiv, 1) := by decide +kernel
theorem dX4_springs_51 : decode cX4_springs 51 = .ok (.istore_n 2, 1) := by decide +kernel
theorem dX4_springs_52 : decode cX4_springs 52 = .ok (.aload_n 0, 1) := by decide +kernel
theorem dX4_springs_53 : decode cX4_springs 53 = .ok (.getfield 44, 3) := by decide +kernel
theorem dX4_springs_56 : decode cX4_springs 56 = .ok (.iconst 1, 1) := by decide +kernel
theorem dX4_springs_57 : decode cX4_springs 57 = .ok (.iload_n 1, 1) := by decide +kernel
theorem dX4_springs_58 : decode cX4_springs 58 = .ok (.aload_n 0, 1) := by decide +kernel
theorem dX4_springs_59 : decode cX4_springs 59 = .ok (.getfield 111, 3) := by decide +kernel
theorem dX4_springs_62 : decode cX4_springs 62 = .ok (.irem, 1) := by decide +kernel
theorem dX4_springs_63 : decode cX4_springs 63 = .ok (.iastore, 1) := by decide +kernel
theorem dX4_springs_64 : decode cX4_springs 64 = .ok (.iconst 0, 1) := by decide +kernel
theorem dX4_springs_65 : decode cX4_springs 65 = .ok (.istore_n 3, 1) := by decide +kernel
theorem dX4_springs_66 : decode cX4_springs 66 = .ok (.iload_n 3, 1) := by decide +kernel
theorem dX4_springs_67 : decode cX4_springs 67 = .ok (.aload_n 0, 1) := by decide +kernel
theorem dX4_springs_68 : decode cX4_springs 68 = .ok (.getfield 111, 3) := by decide +kernel
theorem dX4_springs_71 : decode cX4_springs 71 = .ok (.if_icmp .ge 65, 3) := by decide +kernel
theorem dX4_springs_74 : decode cX4_springs 74 = .ok (.aload_n 0, 1) := by decide +kernel
theorem dX4_springs_75 : decode cX4_springs 75 = .ok (.iload_n 3, 1) := by decide +kernel
theorem dX4_springs_76 : decode cX4_springs 76 = .ok (.invokevirtual 117, 3) := by decide +kernel
theorem dX4_springs_79 : decode cX4_springs 79 = .ok (.iload_n 2, 1) := by decide +kernel
theorem dX4_springs_80 : decode cX4_springs 80 = .ok (.iadd, 1) := by decide +kernel
theorem dX4_springs_81 : decode cX4_springs 81 = .ok (.istore 4, 2) := by decide +kernel
theorem dX4_springs_83 : decode cX4_springs 83 = .ok (.aload_n 0, 1) := by decide +kernel
theorem dX4_springs_84 : decode cX4_springs 84 = .ok (.getfield 44, 3) := by decide +kernel
theorem dX4_springs_87 : decode cX4_springs 87 = .ok (.iconst 1, 1) := by decide +kernel
theorem dX4_springs_88 : decode cX4_springs 88 = .ok (.dup2, 1) := by decide +kernel
theorem dX4_springs_89 : decode cX4_springs 89 = .ok (.iaload, 1) := by decide +kernel
theorem dX4_springs_90 : decode cX4_springs 90 = .ok (.iload 4, 2) := by decide +kernel
theorem dX4_springs_92 : decode cX4_springs 92 = .ok (.bipush 99, 2) := by decide +kernel
theorem dX4_springs_94 : decode cX4_springs 94 = .ok (.if_icmp .le 11, 3) := by decide +kernel
theorem dX4_springs_97 : decode cX4_springs 97 = .ok (.iload 4, 2) := by decide +kernel
theorem dX4_springs_99 : decode cX4_springs 99 = .ok (.bipush 99, 2) := by decide +kernel
theorem dX4_springs_101 : decode cX4_springs 101 = .ok (.isub, 1) := by decide +kernel
theorem dX4_springs_102 : decode cX4_springs 102 = .ok (.goto 4, 3) := by decide +kernel
theorem dX4_springs_105 : decode cX4_springs 105 = .ok (.iconst 0, 1) := by decide +kernel
theorem dX4_springs_106 : decode cX4_springs 106 = .ok (.iadd, 1) := by decide +kernel
theorem dX4_springs_107 : decode cX4_springs 107 = .ok (.iastore, 1) := by decide +kernel
theorem dX4_springs_108 : decode cX4_springs 108 = .ok (.aload_n 0, 1) := by decide +kernel
theorem dX4_springs_109 : decode cX4_springs 109 = .ok (.getfield 44, 3) := by decide +kernel
theorem dX4_springs_112 : decode cX4_springs 112 = .ok (.iconst 2, 1) := by decide +kernel
theorem dX4_springs_113 : decode cX4_springs 113 = .ok (.iload_n 3, 1) := by decide +kernel
theorem dX4_springs_114 : decode cX4_springs 114 = .ok (.iadd, 1) := by decide +kernel
theorem dX4_springs_115 : decode cX4_springs 115 = .ok (.iload 4, 2) := by decide +kernel
theorem dX4_springs_117 : decode cX4_springs 117 = .ok (.bipush 99, 2) := by decide +kernel
theorem dX4_springs_119 : decode cX4_springs 119 = .ok (.if_icmp .le 8, 3) := by decide +kernel
theorem dX4_springs_122 : decode cX4_springs 122 = .ok (.bipush 99, 2) := by decide +kernel
theorem dX4_springs_124 : decode cX4_springs 124 = .ok (.goto 5, 3) := by decide +kernel
theorem dX4_springs_127 : decode cX4_springs 127 = .ok (.iload 4, 2) := by decide +kernel
theorem dX4_springs_129 : decode cX4_springs 129 = .ok (.iastore, 1) := by decide +kernel
theorem dX4_springs_130 : decode cX4_springs 130 = .ok (.iinc 3 1, 3) := by decide +kernel
theorem dX4_springs_133 : decode cX4_springs 133 = .ok (.goto (-67), 3) := by decide +kernel
theorem dX4_springs_136 : decode cX4_springs 136 = .ok (.iload_n 2, 1) := by decide +kernel
theorem dX4_springs_137 : decode cX4_springs 137 = .ok (.ireturn, 1) := by decide +kernel
set_option maxRecDepth 20000 in
theorem ggX4_day_X4_notes : GoodIn wsX4_day wsX4_notes := goodIn_r _ [8, 9, 3, 2, 19, 20, 21, 22, 23, 24, 25, 26, 27, 28, 29, 30, 31, 32, 33, 34, 35, 36, 37, 38, 39, 40, 41] (by decide +kernel) (by decide +kernel)
set_option maxRecDepth 20000 in
theorem gX4_day_X4_notes : GoodIn wsX4_day (wsV RX4 149 RX4 yX4_notes wsX4_notes) := goodIn_app (goodIn_of _ (by decide +kernel)) ggX4_day_X4_notes
set_option maxRecDepth 20000 in
theorem ggX4_day_X4_goesBy : GoodIn wsX4_day wsX4_goesBy := goodIn_r _ [13, 1, 14, 2, 15, 16, 17, 7, 18, 19, 20, 21, 22, 23, 24, 25, 26, 27, 28, 29, 30, 31, 32, 33, 34, 35, 36, 37, 38, 39, 40, 41] (by decide +kernel) (by decide +kernel)
set_option maxRecDepth 20000 in
theorem gX4_day_X4_goesBy : GoodIn wsX4_day (wsV RX4 152 RX4 yX4_goesBy wsX4_goesBy) := goodIn_app (goodIn_of _ (by decide +kernel)) ggX4_day_X4_goesBy
theorem dX4_day_0 : decode cX4_day 0 = .ok (.aload_n 0, 1) := by decide +kernel
theorem dX4_day_1 : decode cX4_day 1 = .ok (.getfield 111, 3) := by decide +kernel
theorem dX4_day_4 : decode cX4_day 4 = .ok (.ifCond .eq 14, 3) := by decide +kernel
theorem dX4_day_7 : decode cX4_day 7 = .ok (.aload_n 0, 1) := by decide +kernel
theorem dX4_day_8 : decode cX4_day 8 = .ok (.getfield 44, 3) := by decide +kernel
theorem dX4_day_11 : decode cX4_day 11 = .ok (.iconst 0, 1) := by decide +kernel
theorem dX4_day_12 : decode cX4_day 12 = .ok (.iaload, 1) := by decide +kernel
theorem dX4_day_13 : decode cX4_day 13 = .ok (.bipush 99, 2) := by decide +kernel
theorem dX4_day_15 : decode cX4_day 15 = .ok (.if_icmp .ne 6, 3) := by decide +kernel
theorem dX4_day_18 : decode cX4_day 18 = .ok (.bipush (-4), 2) := by decide +kernel
theorem dX4_day_20 : decode cX4_day 20 = .ok (.ireturn, 1) := by decide +kernel
theorem dX4_day_21 : decode cX4_day 21 = .ok (.aload_n 0, 1) := by decide +kernel
theorem dX4_day_22 : decode cX4_day 22 = .ok (.getfield 114, 3) := by decide +kernel
theorem dX4_day_25 : decode cX4_day 25 = .ok (.bipush 40, 2) := by decide +kernel
theorem dX4_day_27 : decode cX4_day 27 = .ok (.if_icmp .ne 6, 3) := by decide +kernel
theorem dX4_day_30 : decode cX4_day 30 = .ok (.bipush (-2), 2) := by decide +kernel
theorem dX4_day_32 : decode cX4_day 32 = .ok (.ireturn, 1) := by decide +kernel
theorem dX4_day_33 : decode cX4_day 33 = .ok (.aload_n 0, 1) := by decide +kernel
theorem dX4_day_34 : decode cX4_day 34 = .ok (.invokevirtual 149, 3) := by decide +kernel
theorem dX4_day_37 : decode cX4_day 37 = .ok (.aload_n 0, 1) := by decide +kernel
theorem dX4_day_38 : decode cX4_day 38 = .ok (.invokevirtual 152, 3) := by decide +kernel
theorem dX4_day_41 : decode cX4_day 41 = .ok (.aload_n 0, 1) := by decide +kernel
theorem dX4_day_42 : decode cX4_day 42 = .ok (.getfield 44, 3) := by decide +kernel
theorem dX4_day_45 : decode cX4_day 45 = .ok (.iconst 0, 1) := by decide +kernel
theorem dX4_day_46 : decode cX4_day 46 = .ok (.iaload, 1) := by decide +kernel
theorem dX4_day_47 : decode cX4_day 47 = .ok (.ireturn, 1) := by decide +kernel
set_option maxRecDepth 20000 in
theorem ggX4_spring_X4_notes : GoodIn wsX4_spring wsX4_notes := goodIn_r _ [8, 9, 2, 3, 32, 33, 34, 35, 36, 37, 38, 39, 40, 41, 42, 43, 44, 45, 46, 47, 48, 49, 50, 51, 52, 53, 54] (by decide +kernel) (by decide +kernel)
set_option maxRecDepth 20000 in
theorem gX4_spring_X4_notes : GoodIn wsX4_spring (wsV RX4 149 RX4 yX4_notes wsX4_notes) := goodIn_app (goodIn_of _ (by decide +kernel)) ggX4_spring_X4_notes
set_option maxRecDepth 20000 in
theorem ggX4_spring_X4_springs : GoodIn wsX4_spring wsX4_springs := goodIn_r _ [13, 3, 1, 14, 15, 16, 7, 17, 18, 19, 20, 21, 22, 23, 24, 25, 26, 32, 33, 34, 35, 36, 37, 38, 39, 40, 41, 42, 43, 44, 45, 46, 47, 48, 49, 50, 51, 52, 53, 54] (by decide +kernel) (by decide +kernel)
set_option maxRecDepth 20000 in
theorem gX4_spring_X4_springs : GoodIn wsX4_spring (wsV RX4 155 RX4 yX4_springs wsX4_springs) := goodIn_app (goodIn_of _ (by decide +kernel)) ggX4_spring_X4_springs
set_option maxRecDepth 20000 in
theorem ggX4_spring_X4_tells : GoodIn wsX4_spring wsX4_tells := goodIn_r _ [30, 31, 32, 33, 34, 35, 36, 37, 38, 39, 40, 41, 42, 43, 44, 45, 46, 47, 48, 49, 50, 51, 52, 53, 54] (by decide +kernel) (by decide +kernel)
set_option maxRecDepth 20000 in
theorem gX4_spring_X4_tells : GoodIn wsX4_spring (wsV RX4 92 RX4 yX4_tells wsX4_tells) := goodIn_app (goodIn_of _ (by decide +kernel)) ggX4_spring_X4_tells
theorem dX4_spring_0 : decode cX4_spring 0 = .ok (.aload_n 0, 1) := by decide +kernel
theorem dX4_spring_1 : decode cX4_spring 1 = .ok (.getfield 111, 3) := by decide +kernel
theorem dX4_spring_4 : decode cX4_spring 4 = .ok (.ifCond .ne 6, 3) := by decide +kernel
theorem dX4_spring_7 : decode cX4_spring 7 = .ok (.bipush (-4), 2) := by decide +kernel
theorem dX4_spring_9 : decode cX4_spring 9 = .ok (.ireturn, 1) := by decide +kernel
theorem dX4_spring_10 : decode cX4_spring 10 = .ok (.aload_n 0, 1) := by decide +kernel
theorem dX4_spring_11 : decode cX4_spring 11 = .ok (.getfield 114, 3) := by decide +kernel
theorem dX4_spring_14 : decode cX4_spring 14 = .ok (.bipush 40, 2) := by decide +kernel
theorem dX4_spring_16 : decode cX4_spring 16 = .ok (.if_icmp .ne 6, 3) := by decide +kernel
theorem dX4_spring_19 : decode cX4_spring 19 = .ok (.bipush (-2), 2) := by decide +kernel
theorem dX4_spring_21 : decode cX4_spring 21 = .ok (.ireturn, 1) := by decide +kernel
theorem dX4_spring_22 : decode cX4_spring 22 = .ok (.aload_n 0, 1) := by decide +kernel
theorem dX4_spring_23 : decode cX4_spring 23 = .ok (.invokevirtual 149, 3) := by decide +kernel
theorem dX4_spring_26 : decode cX4_spring 26 = .ok (.aload_n 0, 1) := by decide +kernel
theorem dX4_spring_27 : decode cX4_spring 27 = .ok (.invokevirtual 155, 3) := by decide +kernel
theorem dX4_spring_30 : decode cX4_spring 30 = .ok (.istore_n 1, 1) := by decide +kernel
theorem dX4_spring_31 : decode cX4_spring 31 = .ok (.aload_n 0, 1) := by decide +kernel
theorem dX4_spring_32 : decode cX4_spring 32 = .ok (.iload_n 1, 1) := by decide +kernel
theorem dX4_spring_33 : decode cX4_spring 33 = .ok (.aload_n 0, 1) := by decide +kernel
theorem dX4_spring_34 : decode cX4_spring 34 = .ok (.getfield 44, 3) := by decide +kernel
theorem dX4_spring_37 : decode cX4_spring 37 = .ok (.iconst 1, 1) := by decide +kernel
theorem dX4_spring_38 : decode cX4_spring 38 = .ok (.iaload, 1) := by decide +kernel
theorem dX4_spring_39 : decode cX4_spring 39 = .ok (.invokevirtual 92, 3) := by decide +kernel
theorem dX4_spring_42 : decode cX4_spring 42 = .ok (.ireturn, 1) := by decide +kernel
set_option maxRecDepth 20000 in
theorem ggX4_lends_X4_jar : GoodIn wsX4_lends wsX4_jar := goodIn_r _ [6, 1, 7, 8, 9, 10, 11, 12, 13, 14, 15, 16, 17, 18, 19, 20, 21, 22, 23, 24, 25, 26, 27, 28, 29] (by decide +kernel) (by decide +kernel)
set_option maxRecDepth 20000 in
theorem gX4_lends_X4_jar : GoodIn wsX4_lends (wsV RX4 117 RX4 yX4_jar wsX4_jar) := goodIn_app (goodIn_of _ (by decide +kernel)) ggX4_lends_X4_jar
theorem dX4_lends_0 : decode cX4_lends 0 = .ok (.aload_n 0, 1) := by decide +kernel
theorem dX4_lends_1 : decode cX4_lends 1 = .ok (.getfield 44, 3) := by decide +kernel
theorem dX4_lends_4 : decode cX4_lends 4 = .ok (.iconst 2, 1) := by decide +kernel
theorem dX4_lends_5 : decode cX4_lends 5 = .ok (.iload_n 1, 1) := by decide +kernel
theorem dX4_lends_6 : decode cX4_lends 6 = .ok (.iadd, 1) := by decide +kernel
theorem dX4_lends_7 : decode cX4_lends 7 = .ok (.dup2, 1) := by decide +kernel
theorem dX4_lends_8 : decode cX4_lends 8 = .ok (.iaload, 1) := by decide +kernel
theorem dX4_lends_9 : decode cX4_lends 9 = .ok (.iload_n 3, 1) := by decide +kernel
theorem dX4_lends_10 : decode cX4_lends 10 = .ok (.isub, 1) := by decide +kernel
theorem dX4_lends_11 : decode cX4_lends 11 = .ok (.iastore, 1) := by decide +kernel
theorem dX4_lends_12 : decode cX4_lends 12 = .ok (.aload_n 0, 1) := by decide +kernel
theorem dX4_lends_13 : decode cX4_lends 13 = .ok (.iload_n 2, 1) := by decide +kernel
theorem dX4_lends_14 : decode cX4_lends 14 = .ok (.invokevirtual 117, 3) := by decide +kernel
theorem dX4_lends_17 : decode cX4_lends 17 = .ok (.iload_n 3, 1) := by decide +kernel
theorem dX4_lends_18 : decode cX4_lends 18 = .ok (.iadd, 1) := by decide +kernel
theorem dX4_lends_19 : decode cX4_lends 19 = .ok (.istore 4, 2) := by decide +kernel
theorem dX4_lends_21 : decode cX4_lends 21 = .ok (.aload_n 0, 1) := by decide +kernel
theorem dX4_lends_22 : decode cX4_lends 22 = .ok (.getfield 44, 3) := by decide +kernel
theorem dX4_lends_25 : decode cX4_lends 25 = .ok (.iconst 1, 1) := by decide +kernel
theorem dX4_lends_26 : decode cX4_lends 26 = .ok (.dup2, 1) := by decide +kernel
theorem dX4_lends_27 : decode cX4_lends 27 = .ok (.iaload, 1) := by decide +kernel
theorem dX4_lends_28 : decode cX4_lends 28 = .ok (.iload 4, 2) := by decide +kernel
theorem dX4_lends_30 : decode cX4_lends 30 = .ok (.bipush 99, 2) := by decide +kernel
theorem dX4_lends_32 : decode cX4_lends 32 = .ok (.if_icmp .le 11, 3) := by decide +kernel
theorem dX4_lends_35 : decode cX4_lends 35 = .ok (.iload 4, 2) := by decide +kernel
theorem dX4_lends_37 : decode cX4_lends 37 = .ok (.bipush 99, 2) := by decide +kernel
theorem dX4_lends_39 : decode cX4_lends 39 = .ok (.isub, 1) := by decide +kernel
theorem dX4_lends_40 : decode cX4_lends 40 = .ok (.goto 4, 3) := by decide +kernel
theorem dX4_lends_43 : decode cX4_lends 43 = .ok (.iconst 0, 1) := by decide +kernel
theorem dX4_lends_44 : decode cX4_lends 44 = .ok (.iadd, 1) := by decide +kernel
theorem dX4_lends_45 : decode cX4_lends 45 = .ok (.iastore, 1) := by decide +kernel
theorem dX4_lends_46 : decode cX4_lends 46 = .ok (.aload_n 0, 1) := by decide +kernel
theorem dX4_lends_47 : decode cX4_lends 47 = .ok (.getfield 44, 3) := by decide +kernel
theorem dX4_lends_50 : decode cX4_lends 50 = .ok (.iconst 2, 1) := by decide +kernel
theorem dX4_lends_51 : decode cX4_lends 51 = .ok (.iload_n 2, 1) := by decide +kernel
theorem dX4_lends_52 : decode cX4_lends 52 = .ok (.iadd, 1) := by decide +kernel
theorem dX4_lends_53 : decode cX4_lends 53 = .ok (.iload 4, 2) := by decide +kernel
theorem dX4_lends_55 : decode cX4_lends 55 = .ok (.bipush 99, 2) := by decide +kernel
theorem dX4_lends_57 : decode cX4_lends 57 = .ok (.if_icmp .le 8, 3) := by decide +kernel
theorem dX4_lends_60 : decode cX4_lends 60 = .ok (.bipush 99, 2) := by decide +kernel
theorem dX4_lends_62 : decode cX4_lends 62 = .ok (.goto 5, 3) := by decide +kernel
theorem dX4_lends_65 : decode cX4_lends 65 = .ok (.iload 4, 2) := by decide +kernel
theorem dX4_lends_67 : decode cX4_lends 67 = .ok (.iastore, 1) := by decide +kernel
theorem dX4_lends_68 : decode cX4_lends 68 = .ok (.return_, 1) := by decide +kernel
set_option maxRecDepth 20000 in
theorem ggX4_lend_X4_isHouse : GoodIn wsX4_lend wsX4_isHouse := goodIn_r _ [7, 8, 9, 10, 6, 11, 26, 27, 28, 29, 30, 31, 32, 33, 34, 35, 36, 37, 38, 39, 40, 41, 42, 43, 44, 45, 46, 47, 48] (by decide +kernel) (by decide +kernel)
set_option maxRecDepth 20000 in
theorem gX4_lend_X4_isHouse : GoodIn wsX4_lend (wsV RX4 135 RX4 yX4_isHouse wsX4_isHouse) := goodIn_app (goodIn_of _ (by decide +kernel)) ggX4_lend_X4_isHouse
set_option maxRecDepth 20000 in
theorem ggX4_lend_X4_in : GoodIn wsX4_lend wsX4_in := goodIn_r _ [11] (by decide +kernel) (by decide +kernel)
set_option maxRecDepth 20000 in
theorem gX4_lend_X4_in : GoodIn wsX4_lend (va_wsS RX4 74 yX4_in wsX4_in) := goodIn_app (goodIn_of _ (by decide +kernel)) ggX4_lend_X4_in
set_option maxRecDepth 20000 in
theorem ggX4_lend_X4_jar : GoodIn wsX4_lend wsX4_jar := goodIn_r _ [15, 16, 26, 27, 28, 29, 30, 31, 32, 33, 34, 35, 36, 37, 38, 39, 40, 41, 42, 43, 44, 45, 46, 47, 48] (by decide +kernel) (by decide +kernel)
set_option maxRecDepth 20000 in
theorem gX4_lend_X4_jar : GoodIn wsX4_lend (wsV RX4 117 RX4 yX4_jar wsX4_jar) := goodIn_app (goodIn_of _ (by decide +kernel)) ggX4_lend_X4_jar
set_option maxRecDepth 20000 in
theorem ggX4_lend_X4_notes : GoodIn wsX4_lend wsX4_notes := goodIn_r _ [20, 21, 2, 16, 26, 27, 28, 29, 30, 31, 32, 33, 34, 35, 36, 37, 38, 39, 40, 41, 42, 43, 44, 45, 46, 47, 48] (by decide +kernel) (by decide +kernel)
set_option maxRecDepth 20000 in
theorem gX4_lend_X4_notes : GoodIn wsX4_lend (wsV RX4 149 RX4 yX4_notes wsX4_notes) := goodIn_app (goodIn_of _ (by decide +kernel)) ggX4_lend_X4_notes
set_option maxRecDepth 20000 in
theorem ggX4_lend_X4_lends : GoodIn wsX4_lend wsX4_lends := goodIn_r _ [25, 16, 12, 13, 14, 6, 15, 26, 27, 28, 29, 30, 31, 32, 33, 34, 35, 36, 37, 38, 39, 40, 41, 42, 43, 44, 45, 46, 47, 48] (by decide +kernel) (by decide +kernel)
set_option maxRecDepth 20000 in
theorem gX4_lend_X4_lends : GoodIn wsX4_lend (wsV RX4 159 RX4 yX4_lends wsX4_lends) := goodIn_app (goodIn_of _ (by decide +kernel)) ggX4_lend_X4_lends
theorem dX4_lend_0 : decode cX4_lend 0 = .ok (.aload_n 0, 1) := by decide +kernel
theorem dX4_lend_1 : decode cX4_lend 1 = .ok (.iload_n 1, 1) := by decide +kernel
theorem dX4_lend_2 : decode cX4_lend 2 = .ok (.invokevirtual 135, 3) := by decide +kernel
theorem dX4_lend_5 : decode cX4_lend 5 = .ok (.ifCond .eq 28, 3) := by decide +kernel
theorem dX4_lend_8 : decode cX4_lend 8 = .ok (.aload_n 0, 1) := by decide +kernel
theorem dX4_lend_9 : decode cX4_lend 9 = .ok (.iload_n 2, 1) := by decide +kernel
theorem dX4_lend_10 : decode cX4_lend 10 = .ok (.invokevirtual 135, 3) := by decide +kernel
theorem dX4_lend_13 : decode cX4_lend 13 = .ok (.ifCond .eq 20, 3) := by decide +kernel
theorem dX4_lend_16 : decode cX4_lend 16 = .ok (.iload_n 1, 1) := by decide +kernel
theorem dX4_lend_17 : decode cX4_lend 17 = .ok (.iload_n 2, 1) := by decide +kernel
theorem dX4_lend_18 : decode cX4_lend 18 = .ok (.if_icmp .eq 15, 3) := by decide +kernel
theorem dX4_lend_21 : decode cX4_lend 21 = .ok (.iload_n 3, 1) := by decide +kernel
theorem dX4_lend_22 : decode cX4_lend 22 = .ok (.i2l, 1) := by decide +kernel
theorem dX4_lend_23 : decode cX4_lend 23 = .ok (.lconst 1, 1) := by decide +kernel
theorem dX4_lend_24 : decode cX4_lend 24 = .ok (.ldc2_w 147, 3) := by decide +kernel
theorem dX4_lend_27 : decode cX4_lend 27 = .ok (.invokestatic 74, 3) := by decide +kernel
theorem dX4_lend_30 : decode cX4_lend 30 = .ok (.ifCond .ne 5, 3) := by decide +kernel
theorem dX4_lend_33 : decode cX4_lend 33 = .ok (.iconst (-1), 1) := by decide +kernel
theorem dX4_lend_34 : decode cX4_lend 34 = .ok (.ireturn, 1) := by decide +kernel
theorem dX4_lend_35 : decode cX4_lend 35 = .ok (.aload_n 0, 1) := by decide +kernel
theorem dX4_lend_36 : decode cX4_lend 36 = .ok (.iload_n 1, 1) := by decide +kernel
theorem dX4_lend_37 : decode cX4_lend 37 = .ok (.invokevirtual 117, 3) := by decide +kernel
theorem dX4_lend_40 : decode cX4_lend 40 = .ok (.iload_n 3, 1) := by decide +kernel
theorem dX4_lend_41 : decode cX4_lend 41 = .ok (.if_icmp .ge 6, 3) := by decide +kernel
theorem dX4_lend_44 : decode cX4_lend 44 = .ok (.bipush (-4), 2) := by decide +kernel
theorem dX4_lend_46 : decode cX4_lend 46 = .ok (.ireturn, 1) := by decide +kernel
theorem dX4_lend_47 : decode cX4_lend 47 = .ok (.aload_n 0, 1) := by decide +kernel
theorem dX4_lend_48 : decode cX4_lend 48 = .ok (.getfield 114, 3) := by decide +kernel
theorem dX4_lend_51 : decode cX4_lend 51 = .ok (.bipush 40, 2) := by decide +kernel
theorem dX4_lend_53 : decode cX4_lend 53 = .ok (.if_icmp .ne 6, 3) := by decide +kernel
theorem dX4_lend_56 : decode cX4_lend 56 = .ok (.bipush (-2), 2) := by decide +kernel
theorem dX4_lend_58 : decode cX4_lend 58 = .ok (.ireturn, 1) := by decide +kernel
theorem dX4_lend_59 : decode cX4_lend 59 = .ok (.aload_n 0, 1) := by decide +kernel
theorem dX4_lend_60 : decode cX4_lend 60 = .ok (.invokevirtual 149, 3) := by decide +kernel
theorem dX4_lend_63 : decode cX4_lend 63 = .ok (.aload_n 0, 1) := by decide +kernel
theorem dX4_lend_64 : decode cX4_lend 64 = .ok (.iload_n 1, 1) := by decide +kernel
theorem dX4_lend_65 : decode cX4_lend 65 = .ok (.iload_n 2, 1) := by decide +kernel
theorem dX4_lend_66 : decode cX4_lend 66 = .ok (.iload_n 3, 1) := by decide +kernel
theorem dX4_lend_67 : decode cX4_lend 67 = .ok (.invokevirtual 159, 3) := by decide +kernel
theorem dX4_lend_70 : decode cX4_lend 70 = .ok (.aload_n 0, 1) := by decide +kernel
theorem dX4_lend_71 : decode cX4_lend 71 = .ok (.iload_n 2, 1) := by decide +kernel
theorem dX4_lend_72 : decode cX4_lend 72 = .ok (.invokevirtual 117, 3) := by decide +kernel
theorem dX4_lend_75 : decode cX4_lend 75 = .ok (.ireturn, 1) := by decide +kernel
theorem dX4_leaves_0 : decode cX4_leaves 0 = .ok (.aload_n 0, 1) := by decide +kernel
theorem dX4_leaves_1 : decode cX4_leaves 1 = .ok (.getfield 44, 3) := by decide +kernel
theorem dX4_leaves_4 : decode cX4_leaves 4 = .ok (.iconst 2, 1) := by decide +kernel
theorem dX4_leaves_5 : decode cX4_leaves 5 = .ok (.iload_n 1, 1) := by decide +kernel
theorem dX4_leaves_6 : decode cX4_leaves 6 = .ok (.iadd, 1) := by decide +kernel
theorem dX4_leaves_7 : decode cX4_leaves 7 = .ok (.dup2, 1) := by decide +kernel
theorem dX4_leaves_8 : decode cX4_leaves 8 = .ok (.iaload, 1) := by decide +kernel
theorem dX4_leaves_9 : decode cX4_leaves 9 = .ok (.iload_n 2, 1) := by decide +kernel
theorem dX4_leaves_10 : decode cX4_leaves 10 = .ok (.isub, 1) := by decide +kernel
theorem dX4_leaves_11 : decode cX4_leaves 11 = .ok (.iastore, 1) := by decide +kernel
theorem dX4_leaves_12 : decode cX4_leaves 12 = .ok (.aload_n 0, 1) := by decide +kernel
theorem dX4_leaves_13 : decode cX4_leaves 13 = .ok (.getfield 44, 3) := by decide +kernel
theorem dX4_leaves_16 : decode cX4_leaves 16 = .ok (.iconst 1, 1) := by decide +kernel
theorem dX4_leaves_17 : decode cX4_leaves 17 = .ok (.dup2, 1) := by decide +kernel
theorem dX4_leaves_18 : decode cX4_leaves 18 = .ok (.iaload, 1) := by decide +kernel
theorem dX4_leaves_19 : decode cX4_leaves 19 = .ok (.iload_n 2, 1) := by decide +kernel
theorem dX4_leaves_20 : decode cX4_leaves 20 = .ok (.iadd, 1) := by decide +kernel
theorem dX4_leaves_21 : decode cX4_leaves 21 = .ok (.iastore, 1) := by decide +kernel
theorem dX4_leaves_22 : decode cX4_leaves 22 = .ok (.return_, 1) := by decide +kernel
set_option maxRecDepth 20000 in
theorem ggX4_leave_X4_isHouse : GoodIn wsX4_leave wsX4_isHouse := goodIn_r _ [8, 9, 10, 11, 7, 12, 26, 27, 28, 29, 30, 31, 32, 33, 34, 35, 36, 37, 38, 39, 40, 41, 42, 43, 44, 45, 46, 47, 48] (by decide +kernel) (by decide +kernel)
set_option maxRecDepth 20000 in
theorem gX4_leave_X4_isHouse : GoodIn wsX4_leave (wsV RX4 135 RX4 yX4_isHouse wsX4_isHouse) := goodIn_app (goodIn_of _ (by decide +kernel)) ggX4_leave_X4_isHouse
set_option maxRecDepth 20000 in
theorem ggX4_leave_X4_in : GoodIn wsX4_leave wsX4_in := goodIn_r _ [12] (by decide +kernel) (by decide +kernel)
set_option maxRecDepth 20000 in
theorem gX4_leave_X4_in : GoodIn wsX4_leave (va_wsS RX4 74 yX4_in wsX4_in) := goodIn_app (goodIn_of _ (by decide +kernel)) ggX4_leave_X4_in
set_option maxRecDepth 20000 in
theorem ggX4_leave_X4_jar : GoodIn wsX4_leave wsX4_jar := goodIn_r _ [16, 3, 26, 27, 28, 29, 30, 31, 32, 33, 34, 35, 36, 37, 38, 39, 40, 41, 42, 43, 44, 45, 46, 47, 48] (by decide +kernel) (by decide +kernel)
set_option maxRecDepth 20000 in
theorem gX4_leave_X4_jar : GoodIn wsX4_leave (wsV RX4 117 RX4 yX4_jar wsX4_jar) := goodIn_app (goodIn_of _ (by decide +kernel)) ggX4_leave_X4_jar
set_option maxRecDepth 20000 in
theorem ggX4_leave_X4_notes : GoodIn wsX4_leave wsX4_notes := goodIn_r _ [20, 21, 2, 3, 26, 27, 28, 29, 30, 31, 32, 33, 34, 35, 36, 37, 38, 39, 40, 41, 42, 43, 44, 45, 46, 47, 48] (by decide +kernel) (by decide +kernel)
set_option maxRecDepth 20000 in
theorem gX4_leave_X4_notes : GoodIn wsX4_leave (wsV RX4 149 RX4 yX4_notes wsX4_notes) := goodIn_app (goodIn_of _ (by decide +kernel)) ggX4_leave_X4_notes
set_option maxRecDepth 20000 in
theorem ggX4_leave_X4_leaves : GoodIn wsX4_leave wsX4_leaves := goodIn_r _ [25, 3, 26, 27, 28, 29, 30, 31, 32, 33, 34, 35, 36, 37, 38, 39, 40, 41, 42, 43, 44, 45, 46, 47, 48] (by decide +kernel) (by decide +kernel)
set_option maxRecDepth 20000 in
theorem gX4_leave_X4_leaves : GoodIn wsX4_leave (wsV RX4 163 RX4 yX4_leaves wsX4_leaves) := goodIn_app (goodIn_of _ (by decide +kernel)) ggX4_leave_X4_leaves
theorem dX4_leave_0 : decode cX4_leave 0 = .ok (.aload_n 0, 1) := by decide +kernel
theorem dX4_leave_1 : decode cX4_leave 1 = .ok (.iload_n 1, 1) := by decide +kernel
theorem dX4_leave_2 : decode cX4_leave 2 = .ok (.invokevirtual 135, 3) := by decide +kernel
theorem dX4_leave_5 : decode cX4_leave 5 = .ok (.ifCond .eq 15, 3) := by decide +kernel
theorem dX4_leave_8 : decode cX4_leave 8 = .ok (.iload_n 2, 1) := by decide +kernel
theorem dX4_leave_9 : decode cX4_leave 9 = .ok (.i2l, 1) := by decide +kernel
theorem dX4_leave_10 : decode cX4_leave 10 = .ok (.lconst 1, 1) := by decide +kernel
theorem dX4_leave_11 : decode cX4_leave 11 = .ok (.ldc2_w 147, 3) := by decide +kernel
theorem dX4_leave_14 : decode cX4_leave 14 = .ok (.invokestatic 74, 3) := by decide +kernel
theorem dX4_leave_17 : decode cX4_leave 17 = .ok (.ifCond .ne 5, 3) := by decide +kernel
theorem dX4_leave_20 : decode cX4_leave 20 = .ok (.iconst (-1), 1) := by decide +kernel
theorem dX4_leave_21 : decode cX4_leave 21 = .ok (.ireturn, 1) := by decide +kernel
theorem dX4_leave_22 : decode cX4_leave 22 = .ok (.aload_n 0, 1) := by decide +kernel
theorem dX4_leave_23 : decode cX4_leave 23 = .ok (.iload_n 1, 1) := by decide +kernel
theorem dX4_leave_24 : decode cX4_leave 24 = .ok (.invokevirtual 117, 3) := by decide +kernel
theorem dX4_leave_27 : decode cX4_leave 27 = .ok (.iload_n 2, 1) := by decide +kernel
theorem dX4_leave_28 : decode cX4_leave 28 = .ok (.if_icmp .ge 6, 3) := by decide +kernel
theorem dX4_leave_31 : decode cX4_leave 31 = .ok (.bipush (-4), 2) := by decide +kernel
theorem dX4_leave_33 : decode cX4_leave 33 = .ok (.ireturn, 1) := by decide +kernel
theorem dX4_leave_34 : decode cX4_leave 34 = .ok (.aload_n 0, 1) := by decide +kernel
theorem dX4_leave_35 : decode cX4_leave 35 = .ok (.getfield 114, 3) := by decide +kernel
theorem dX4_leave_38 : decode cX4_leave 38 = .ok (.bipush 40, 2) := by decide +kernel
theorem dX4_leave_40 : decode cX4_leave 40 = .ok (.if_icmp .ne 6, 3) := by decide +kernel
theorem dX4_leave_43 : decode cX4_leave 43 = .ok (.bipush (-2), 2) := by decide +kernel
theorem dX4_leave_45 : decode cX4_leave 45 = .ok (.ireturn, 1) := by decide +kernel
theorem dX4_leave_46 : decode cX4_leave 46 = .ok (.aload_n 0, 1) := by decide +kernel
theorem dX4_leave_47 : decode cX4_leave 47 = .ok (.invokevirtual 149, 3) := by decide +kernel
theorem dX4_leave_50 : decode cX4_leave 50 = .ok (.aload_n 0, 1) := by decide +kernel
theorem dX4_leave_51 : decode cX4_leave 51 = .ok (.iload_n 1, 1) := by decide +kernel
theorem dX4_leave_52 : decode cX4_leave 52 = .ok (.iload_n 2, 1) := by decide +kernel
theorem dX4_leave_53 : decode cX4_leave 53 = .ok (.invokevirtual 163, 3) := by decide +kernel
theorem dX4_leave_56 : decode cX4_leave 56 = .ok (.aload_n 0, 1) := by decide +kernel
theorem dX4_leave_57 : decode cX4_leave 57 = .ok (.getfield 44, 3) := by decide +kernel
theorem dX4_leave_60 : decode cX4_leave 60 = .ok (.iconst 1, 1) := by decide +kernel
theorem dX4_leave_61 : decode cX4_leave 61 = .ok (.iaload, 1) := by decide +kernel
theorem dX4_leave_62 : decode cX4_leave 62 = .ok (.ireturn, 1) := by decide +kernel
set_option maxRecDepth 20000 in
theorem ggX4_take_X4_isHouse : GoodIn wsX4_take wsX4_isHouse := goodIn_r _ [8, 9, 10, 11, 7, 12, 26, 27, 28, 29, 30, 31, 32, 33, 34, 35, 36, 37, 38, 39, 40, 41, 42, 43, 44, 45, 46, 47, 48] (by decide +kernel) (by decide +kernel)
set_option maxRecDepth 20000 in
theorem gX4_take_X4_isHouse : GoodIn wsX4_take (wsV RX4 135 RX4 yX4_isHouse wsX4_isHouse) := goodIn_app (goodIn_of _ (by decide +kernel)) ggX4_take_X4_isHouse
set_option maxRecDepth 20000 in
theorem ggX4_take_X4_in : GoodIn wsX4_take wsX4_in := goodIn_r _ [12] (by decide +kernel) (by decide +kernel)
set_option maxRecDepth 20000 in
theorem gX4_take_X4_in : GoodIn wsX4_take (va_wsS RX4 74 yX4_in wsX4_in) := goodIn_app (goodIn_of _ (by decide +kernel)) ggX4_take_X4_in
set_option maxRecDepth 20000 in
theorem ggX4_take_X4_jar : GoodIn wsX4_take wsX4_jar := goodIn_r _ [16, 2, 26, 27, 28, 29, 30, 31, 32, 33, 34, 35, 36, 37, 38, 39, 40, 41, 42, 43, 44, 45, 46, 47, 48] (by decide +kernel) (by decide +kernel)
set_option maxRecDepth 20000 in
theorem gX4_take_X4_jar : GoodIn wsX4_take (wsV RX4 117 RX4 yX4_jar wsX4_jar) := goodIn_app (goodIn_of _ (by decide +kernel)) ggX4_take_X4_jar
set_option maxRecDepth 20000 in
theorem ggX4_take_X4_notes : GoodIn wsX4_take wsX4_notes := goodIn_r _ [20, 21, 3, 2, 26, 27, 28, 29, 30, 31, 32, 33, 34, 35, 36, 37, 38, 39, 40, 41, 42, 43, 44, 45, 46, 47, 48] (by decide +kernel) (by decide +kernel)
set_option maxRecDepth 20000 in
theorem gX4_take_X4_notes : GoodIn wsX4_take (wsV RX4 149 RX4 yX4_notes wsX4_notes) := goodIn_app (goodIn_of _ (by decide +kernel)) ggX4_take_X4_notes
set_option maxRecDepth 20000 in
theorem ggX4_take_X4_leaves : GoodIn wsX4_take wsX4_leaves := goodIn_r _ [25, 2, 26, 27, 28, 29, 30, 31, 32, 33, 34, 35, 36, 37, 38, 39, 40, 41, 42, 43, 44, 45, 46, 47, 48] (by decide +kernel) (by decide +kernel)
set_option maxRecDepth 20000 in
theorem gX4_take_X4_leaves : GoodIn wsX4_take (wsV RX4 163 RX4 yX4_leaves wsX4_leaves) := goodIn_app (goodIn_of _ (by decide +kernel)) ggX4_take_X4_leaves
theorem dX4_take_0 : decode cX4_take 0 = .ok (.aload_n 0, 1) := by decide +kernel
theorem dX4_take_1 : decode cX4_take 1 = .ok (.iload_n 1, 1) := by decide +kernel
theorem dX4_take_2 : decode cX4_take 2 = .ok (.invokevirtual 135, 3) := by decide +kernel
theorem dX4_take_5 : decode cX4_take 5 = .ok (.ifCond .eq 15, 3) := by decide +kernel
theorem dX4_take_8 : decode cX4_take 8 = .ok (.iload_n 2, 1) := by decide +kernel
theorem dX4_take_9 : decode cX4_take 9 = .ok (.i2l, 1) := by decide +kernel
theorem dX4_take_10 : decode cX4_take 10 = .ok (.lconst 1, 1) := by decide +kernel
theorem dX4_take_11 : decode cX4_take 11 = .ok (.ldc2_w 147, 3) := by decide +kernel
theorem dX4_take_14 : decode cX4_take 14 = .ok (.invokestatic 74, 3) := by decide +kernel
theorem dX4_take_17 : decode cX4_take 17 = .ok (.ifCond .ne 5, 3) := by decide +kernel
theorem dX4_take_20 : decode cX4_take 20 = .ok (.iconst (-1), 1) := by decide +kernel
theorem dX4_take_21 : decode cX4_take 21 = .ok (.ireturn, 1) := by decide +kernel
theorem dX4_take_22 : decode cX4_take 22 = .ok (.aload_n 0, 1) := by decide +kernel
theorem dX4_take_23 : decode cX4_take 23 = .ok (.getfield 44, 3) := by decide +kernel
theorem dX4_take_26 : decode cX4_take 26 = .ok (.iconst 1, 1) := by decide +kernel
theorem dX4_take_27 : decode cX4_take 27 = .ok (.iaload, 1) := by decide +kernel
theorem dX4_take_28 : decode cX4_take 28 = .ok (.iload_n 2, 1) := by decide +kernel
theorem dX4_take_29 : decode cX4_take 29 = .ok (.if_icmp .lt 15, 3) := by decide +kernel
theorem dX4_take_32 : decode cX4_take 32 = .ok (.aload_n 0, 1) := by decide +kernel
theorem dX4_take_33 : decode cX4_take 33 = .ok (.iload_n 1, 1) := by decide +kernel
theorem dX4_take_34 : decode cX4_take 34 = .ok (.invokevirtual 117, 3) := by decide +kernel
theorem dX4_take_37 : decode cX4_take 37 = .ok (.iload_n 2, 1) := by decide +kernel
theorem dX4_take_38 : decode cX4_take 38 = .ok (.iadd, 1) := by decide +kernel
theorem dX4_take_39 : decode cX4_take 39 = .ok (.bipush 99, 2) := by decide +kernel
theorem dX4_take_41 : decode cX4_take 41 = .ok (.if_icmp .le 6, 3) := by decide +kernel
theorem dX4_take_44 : decode cX4_take 44 = .ok (.bipush (-4), 2) := by decide +kernel
theorem dX4_take_46 : decode cX4_take 46 = .ok (.ireturn, 1) := by decide +kernel
theorem dX4_take_47 : decode cX4_take 47 = .ok (.aload_n 0, 1) := by decide +kernel
theorem dX4_take_48 : decode cX4_take 48 = .ok (.getfield 114, 3) := by decide +kernel
theorem dX4_take_51 : decode cX4_take 51 = .ok (.bipush 40, 2) := by decide +kernel
theorem dX4_take_53 : decode cX4_take 53 = .ok (.if_icmp .ne 6, 3) := by decide +kernel
theorem dX4_take_56 : decode cX4_take 56 = .ok (.bipush (-2), 2) := by decide +kernel
theorem dX4_take_58 : decode cX4_take 58 = .ok (.ireturn, 1) := by decide +kernel
theorem dX4_take_59 : decode cX4_take 59 = .ok (.aload_n 0, 1) := by decide +kernel
theorem dX4_take_60 : decode cX4_take 60 = .ok (.invokevirtual 149, 3) := by decide +kernel
theorem dX4_take_63 : decode cX4_take 63 = .ok (.aload_n 0, 1) := by decide +kernel
theorem dX4_take_64 : decode cX4_take 64 = .ok (.iload_n 1, 1) := by decide +kernel
theorem dX4_take_65 : decode cX4_take 65 = .ok (.iload_n 2, 1) := by decide +kernel
theorem dX4_take_66 : decode cX4_take 66 = .ok (.ineg, 1) := by decide +kernel
theorem dX4_take_67 : decode cX4_take 67 = .ok (.invokevirtual 163, 3) := by decide +kernel
theorem dX4_take_70 : decode cX4_take 70 = .ok (.aload_n 0, 1) := by decide +kernel
theorem dX4_take_71 : decode cX4_take 71 = .ok (.iload_n 1, 1) := by decide +kernel
theorem dX4_take_72 : decode cX4_take 72 = .ok (.invokevirtual 117, 3) := by decide +kernel
theorem dX4_take_75 : decode cX4_take 75 = .ok (.ireturn, 1) := by decide +kernel
set_option maxRecDepth 20000 in
theorem ggX4_undo_X4_in : GoodIn wsX4_undo wsX4_in := goodIn_r _ [7] (by decide +kernel) (by decide +kernel)
set_option maxRecDepth 20000 in
theorem gX4_undo_X4_in : GoodIn wsX4_undo (va_wsS RX4 74 yX4_in wsX4_in) := goodIn_app (goodIn_of _ (by decide +kernel)) ggX4_undo_X4_in
theorem dX4_undo_0 : decode cX4_undo 0 = .ok (.iload_n 1, 1) := by decide +kernel
theorem dX4_undo_1 : decode cX4_undo 1 = .ok (.i2l, 1) := by decide +kernel
theorem dX4_undo_2 : decode cX4_undo 2 = .ok (.lconst 0, 1) := by decide +kernel
theorem dX4_undo_3 : decode cX4_undo 3 = .ok (.aload_n 0, 1) := by decide +kernel
theorem dX4_undo_4 : decode cX4_undo 4 = .ok (.getfield 114, 3) := by decide +kernel
theorem dX4_undo_7 : decode cX4_undo 7 = .ok (.i2l, 1) := by decide +kernel
theorem dX4_undo_8 : decode cX4_undo 8 = .ok (.invokestatic 74, 3) := by decide +kernel
theorem dX4_undo_11 : decode cX4_undo 11 = .ok (.ifCond .ne 5, 3) := by decide +kernel
theorem dX4_undo_14 : decode cX4_undo 14 = .ok (.iconst (-1), 1) := by decide +kernel
theorem dX4_undo_15 : decode cX4_undo 15 = .ok (.ireturn, 1) := by decide +kernel
theorem dX4_undo_16 : decode cX4_undo 16 = .ok (.aload_n 0, 1) := by decide +kernel
theorem dX4_undo_17 : decode cX4_undo 17 = .ok (.getfield 114, 3) := by decide +kernel
theorem dX4_undo_20 : decode cX4_undo 20 = .ok (.iload_n 1, 1) := by decide +kernel
theorem dX4_undo_21 : decode cX4_undo 21 = .ok (.isub, 1) := by decide +kernel
theorem dX4_undo_22 : decode cX4_undo 22 = .ok (.istore_n 2, 1) := by decide +kernel
theorem dX4_undo_23 : decode cX4_undo 23 = .ok (.iconst 0, 1) := by decide +kernel
theorem dX4_undo_24 : decode cX4_undo 24 = .ok (.istore_n 3, 1) := by decide +kernel
theorem dX4_undo_25 : decode cX4_undo 25 = .ok (.iload_n 3, 1) := by decide +kernel
theorem dX4_undo_26 : decode cX4_undo 26 = .ok (.bipush 9, 2) := by decide +kernel
theorem dX4_undo_28 : decode cX4_undo 28 = .ok (.if_icmp .ge 30, 3) := by decide +kernel
theorem dX4_undo_31 : decode cX4_undo 31 = .ok (.iload_n 2, 1) := by decide +kernel
theorem dX4_undo_32 : decode cX4_undo 32 = .ok (.ifCond .le 26, 3) := by decide +kernel
theorem dX4_undo_35 : decode cX4_undo 35 = .ok (.aload_n 0, 1) := by decide +kernel
theorem dX4_undo_36 : decode cX4_undo 36 = .ok (.getfield 44, 3) := by decide +kernel
theorem dX4_undo_39 : decode cX4_undo 39 = .ok (.iload_n 3, 1) := by decide +kernel
theorem dX4_undo_40 : decode cX4_undo 40 = .ok (.aload_n 0, 1) := by decide +kernel
theorem dX4_undo_41 : decode cX4_undo 41 = .ok (.getfield 47, 3) := by decide +kernel
theorem dX4_undo_44 : decode cX4_undo 44 = .ok (.bipush 9, 2) := by decide +kernel
theorem dX4_undo_46 : decode cX4_undo 46 = .ok (.iload_n 1, 1) := by decide +kernel
theorem dX4_undo_47 : decode cX4_undo 47 = .ok (.imul, 1) := by decide +kernel
theorem dX4_undo_48 : decode cX4_undo 48 = .ok (.iload_n 3, 1) := by decide +kernel
theorem dX4_undo_49 : decode cX4_undo 49 = .ok (.iadd, 1) := by decide +kernel
theorem dX4_undo_50 : decode cX4_undo 50 = .ok (.iaload, 1) := by decide +kernel
theorem dX4_undo_51 : decode cX4_undo 51 = .ok (.iastore, 1) := by decide +kernel
theorem dX4_undo_52 : decode cX4_undo 52 = .ok (.iinc 3 1, 3) := by decide +kernel
theorem dX4_undo_55 : decode cX4_undo 55 = .ok (.goto (-30), 3) := by decide +kernel
theorem dX4_undo_58 : decode cX4_undo 58 = .ok (.aload_n 0, 1) := by decide +kernel
theorem dX4_undo_59 : decode cX4_undo 59 = .ok (.iload_n 1, 1) := by decide +kernel
theorem dX4_undo_60 : decode cX4_undo 60 = .ok (.putfield 114, 3) := by decide +kernel
theorem dX4_undo_63 : decode cX4_undo 63 = .ok (.iload_n 2, 1) := by decide +kernel
theorem dX4_undo_64 : decode cX4_undo 64 = .ok (.ireturn, 1) := by decide +kernel
set_option maxRecDepth 20000 in
theorem ggX4_keep_X4_in : GoodIn wsX4_keep wsX4_in := goodIn_r _ [14] (by decide +kernel) (by decide +kernel)
set_option maxRecDepth 20000 in
theorem gX4_keep_X4_in : GoodIn wsX4_keep (va_wsS RX4 74 yX4_in wsX4_in) := goodIn_app (goodIn_of _ (by decide +kernel)) ggX4_keep_X4_in
theorem dX4_keep_0 : decode cX4_keep 0 = .ok (.iload_n 1, 1) := by decide +kernel
theorem dX4_keep_1 : decode cX4_keep 1 = .ok (.i2l, 1) := by decide +kernel
theorem dX4_keep_2 : decode cX4_keep 2 = .ok (.lconst 0, 1) := by decide +kernel
theorem dX4_keep_3 : decode cX4_keep 3 = .ok (.ldc2_w 167, 3) := by decide +kernel
theorem dX4_keep_6 : decode cX4_keep 6 = .ok (.invokestatic 74, 3) := by decide +kernel
theorem dX4_keep_9 : decode cX4_keep 9 = .ok (.ifCond .ne 5, 3) := by decide +kernel
theorem dX4_keep_12 : decode cX4_keep 12 = .ok (.iconst (-1), 1) := by decide +kernel
theorem dX4_keep_13 : decode cX4_keep 13 = .ok (.ireturn, 1) := by decide +kernel
theorem dX4_keep_14 : decode cX4_keep 14 = .ok (.aload_n 0, 1) := by decide +kernel
theorem dX4_keep_15 : decode cX4_keep 15 = .ok (.getfield 111, 3) := by decide +kernel
theorem dX4_keep_18 : decode cX4_keep 18 = .ok (.ifCond .ne 6, 3) := by decide +kernel
theorem dX4_keep_21 : decode cX4_keep 21 = .ok (.bipush (-4), 2) := by decide +kernel
theorem dX4_keep_23 : decode cX4_keep 23 = .ok (.ireturn, 1) := by decide +kernel
theorem dX4_keep_24 : decode cX4_keep 24 = .ok (.sipush 391, 3) := by decide +kernel
theorem dX4_keep_27 : decode cX4_keep 27 = .ok (.iload_n 1, 1) := by decide +kernel
theorem dX4_keep_28 : decode cX4_keep 28 = .ok (.imul, 1) := by decide +kernel
theorem dX4_keep_29 : decode cX4_keep 29 = .ok (.istore_n 2, 1) := by decide +kernel
theorem dX4_keep_30 : decode cX4_keep 30 = .ok (.aload_n 0, 1) := by decide +kernel
theorem dX4_keep_31 : decode cX4_keep 31 = .ok (.getfield 53, 3) := by decide +kernel
theorem dX4_keep_34 : decode cX4_keep 34 = .ok (.iload_n 2, 1) := by decide +kernel
theorem dX4_keep_35 : decode cX4_keep 35 = .ok (.aload_n 0, 1) := by decide +kernel
theorem dX4_keep_36 : decode cX4_keep 36 = .ok (.getfield 111, 3) := by decide +kernel
theorem dX4_keep_39 : decode cX4_keep 39 = .ok (.iastore, 1) := by decide +kernel
theorem dX4_keep_40 : decode cX4_keep 40 = .ok (.iconst 0, 1) := by decide +kernel
theorem dX4_keep_41 : decode cX4_keep 41 = .ok (.istore_n 3, 1) := by decide +kernel
theorem dX4_keep_42 : decode cX4_keep 42 = .ok (.iload_n 3, 1) := by decide +kernel
theorem dX4_keep_43 : decode cX4_keep 43 = .ok (.bipush 7, 2) := by decide +kernel
theorem dX4_keep_45 : decode cX4_keep 45 = .ok (.if_icmp .ge 59, 3) := by decide +kernel
theorem dX4_keep_48 : decode cX4_keep 48 = .ok (.aload_n 0, 1) := by decide +kernel
theorem dX4_keep_49 : decode cX4_keep 49 = .ok (.getfield 53, 3) := by decide +kernel
theorem dX4_keep_52 : decode cX4_keep 52 = .ok (.iload_n 2, 1) := by decide +kernel
theorem dX4_keep_53 : decode cX4_keep 53 = .ok (.iconst 1, 1) := by decide +kernel
theorem dX4_keep_54 : decode cX4_keep 54 = .ok (.iadd, 1) := by decide +kernel
theorem dX4_keep_55 : decode cX4_keep 55 = .ok (.iload_n 3, 1) := by decide +kernel
theorem dX4_keep_56 : decode cX4_keep 56 = .ok (.iadd, 1) := by decide +kernel
theorem dX4_keep_57 : decode cX4_keep 57 = .ok (.aload_n 0, 1) := by decide +kernel
theorem dX4_keep_58 : decode cX4_keep 58 = .ok (.getfield 35, 3) := by decide +kernel
theorem dX4_keep_61 : decode cX4_keep 61 = .ok (.iload_n 3, 1) := by decide +kernel
theorem dX4_keep_62 : decode cX4_keep 62 = .ok (.iaload, 1) := by decide +kernel
theorem dX4_keep_63 : decode cX4_keep 63 = .ok (.iastore, 1) := by decide +kernel
theorem dX4_keep_64 : decode cX4_keep 64 = .ok (.aload_n 0, 1) := by decide +kernel
theorem dX4_keep_65 : decode cX4_keep 65 = .ok (.getfield 53, 3) := by decide +kernel
theorem dX4_keep_68 : decode cX4_keep 68 = .ok (.iload_n 2, 1) := by decide +kernel
theorem dX4_keep_69 : decode cX4_keep 69 = .ok (.bipush 8, 2) := by decide +kernel
theorem dX4_keep_71 : decode cX4_keep 71 = .ok (.iadd, 1) := by decide +kernel
theorem dX4_keep_72 : decode cX4_keep 72 = .ok (.iload_n 3, 1) := by decide +kernel
theorem dX4_keep_73 : decode cX4_keep 73 = .ok (.iadd, 1) := by decide +kernel
theorem dX4_keep_74 : decode cX4_keep 74 = .ok (.aload_n 0, 1) := by decide +kernel
theorem dX4_keep_75 : decode cX4_keep 75 = .ok (.getfield 38, 3) := by decide +kernel
theorem dX4_keep_78 : decode cX4_keep 78 = .ok (.iload_n 3, 1) := by decide +kernel
theorem dX4_keep_79 : decode cX4_keep 79 = .ok (.iaload, 1) := by decide +kernel
theorem dX4_keep_80 : decode cX4_keep 80 = .ok (.iastore, 1) := by decide +kernel
theorem dX4_keep_81 : decode cX4_keep 81 = .ok (.aload_n 0, 1) := by decide +kernel
theorem dX4_keep_82 : decode cX4_keep 82 = .ok (.getfield 53, 3) := by decide +kernel
theorem dX4_keep_85 : decode cX4_keep 85 = .ok (.iload_n 2, 1) := by decide +kernel
theorem dX4_keep_86 : decode cX4_keep 86 = .ok (.bipush 15, 2) := by decide +kernel
theorem dX4_keep_88 : decode cX4_keep 88 = .ok (.iadd, 1) := by decide +kernel
theorem dX4_keep_89 : decode cX4_keep 89 = .ok (.iload_n 3, 1) := by decide +kernel
theorem dX4_keep_90 : decode cX4_keep 90 = .ok (.iadd, 1) := by decide +kernel
theorem dX4_keep_91 : decode cX4_keep 91 = .ok (.aload_n 0, 1) := by decide +kernel
theorem dX4_keep_92 : decode cX4_keep 92 = .ok (.getfield 41, 3) := by decide +kernel
theorem dX4_keep_95 : decode cX4_keep 95 = .ok (.iload_n 3, 1) := by decide +kernel
theorem dX4_keep_96 : decode cX4_keep 96 = .ok (.iaload, 1) := by decide +kernel
theorem dX4_keep_97 : decode cX4_keep 97 = .ok (.iastore, 1) := by decide +kernel
theorem dX4_keep_98 : decode cX4_keep 98 = .ok (.iinc 3 1, 3) := by decide +kernel
theorem dX4_keep_101 : decode cX4_keep 101 = .ok (.goto (-59), 3) := by decide +kernel
theorem dX4_keep_104 : decode cX4_keep 104 = .ok (.iconst 0, 1) := by decide +kernel
theorem dX4_keep_105 : decode cX4_keep 105 = .ok (.istore_n 3, 1) := by decide +kernel
theorem dX4_keep_106 : decode cX4_keep 106 = .ok (.iload_n 3, 1) := by decide +kernel
theorem dX4_keep_107 : decode cX4_keep 107 = .ok (.bipush 9, 2) := by decide +kernel
theorem dX4_keep_109 : decode cX4_keep 109 = .ok (.if_icmp .ge 26, 3) := by decide +kernel
theorem dX4_keep_112 : decode cX4_keep 112 = .ok (.aload_n 0, 1) := by decide +kernel
theorem dX4_keep_113 : decode cX4_keep 113 = .ok (.getfield 53, 3) := by decide +kernel
theorem dX4_keep_116 : decode cX4_keep 116 = .ok (.iload_n 2, 1) := by decide +kernel
theorem dX4_keep_117 : decode cX4_keep 117 = .ok (.bipush 22, 2) := by decide +kernel
theorem dX4_keep_119 : decode cX4_keep 119 = .ok (.iadd, 1) := by decide +kernel
theorem dX4_keep_120 : decode cX4_keep 120 = .ok (.iload_n 3, 1) := by decide +kernel
theorem dX4_keep_121 : decode cX4_keep 121 = .ok (.iadd, 1) := by decide +kernel
theorem dX4_keep_122 : decode cX4_keep 122 = .ok (.aload_n 0, 1) := by decide +kernel
theorem dX4_keep_123 : decode cX4_keep 123 = .ok (.getfield 44, 3) := by decide +kernel
theorem dX4_keep_126 : decode cX4_keep 126 = .ok (.iload_n 3, 1) := by decide +kernel
theorem dX4_keep_127 : decode cX4_keep 127 = .ok (.iaload, 1) := by decide +kernel
theorem dX4_keep_128 : decode cX4_keep 128 = .ok (.iastore, 1) := by decide +kernel
theorem dX4_keep_129 : decode cX4_keep 129 = .ok (.iinc 3 1, 3) := by decide +kernel
theorem dX4_keep_132 : decode cX4_keep 132 = .ok (.goto (-26), 3) := by decide +kernel
theorem dX4_keep_135 : decode cX4_keep 135 = .ok (.iconst 0, 1) := by decide +kernel
theorem dX4_keep_136 : decode cX4_keep 136 = .ok (.istore_n 3, 1) := by decide +kernel
theorem dX4_keep_137 : decode cX4_keep 137 = .ok (.iload_n 3, 1) := by decide +kernel
theorem dX4_keep_138 : decode cX4_keep 138 = .ok (.sipush 360, 3) := by decide +kernel
theorem dX4_keep_141 : decode cX4_keep 141 = .ok (.if_icmp .ge 26, 3) := by decide +kernel
theorem dX4_keep_144 : decode cX4_keep 144 = .ok (.aload_n 0, 1) := by decide +kernel
theorem dX4_keep_145 : decode cX4_keep 145 = .ok (.getfield 53, 3) := by decide +kernel
theorem dX4_keep_148 : decode cX4_keep 148 = .ok (.iload_n 2, 1) := by decide +kernel
theorem dX4_keep_149 : decode cX4_keep 149 = .ok (.bipush 31, 2) := by decide +kernel
theorem dX4_keep_151 : decode cX4_keep 151 = .ok (.iadd, 1) := by decide +kernel
theorem dX4_keep_152 : decode cX4_keep 152 = .ok (.iload_n 3, 1) := by decide +kernel
theorem dX4_keep_153 : decode cX4_keep 153 = .ok (.iadd, 1) := by decide +kernel
theorem dX4_keep_154 : decode cX4_keep 154 = .ok (.aload_n 0, 1) := by decide +kernel
theorem dX4_keep_155 : decode cX4_keep 155 = .ok (.getfield 47, 3) := by decide +kernel
theorem dX4_keep_158 : decode cX4_keep 158 = .ok (.iload_n 3, 1) := by decide +kernel
theorem dX4_keep_159 : decode cX4_keep 159 = .ok (.iaload, 1) := by decide +kernel
theorem dX4_keep_160 : decode cX4_keep 160 = .ok (.iastore, 1) := by decide +kernel
theorem dX4_keep_161 : decode cX4_keep 161 = .ok (.iinc 3 1, 3) := by decide +kernel
theorem dX4_keep_164 : decode cX4_keep 164 = .ok (.goto (-27), 3) := by decide +kernel
theorem dX4_keep_167 : decode cX4_keep 167 = .ok (.aload_n 0, 1) := by decide +kernel
theorem dX4_keep_168 : decode cX4_keep 168 = .ok (.getfield 50, 3) := by decide +kernel
theorem dX4_keep_171 : decode cX4_keep 171 = .ok (.iload_n 1, 1) := by decide +kernel
theorem dX4_keep_172 : decode cX4_keep 172 = .ok (.aload_n 0, 1) := by decide +kernel
theorem dX4_keep_173 : decode cX4_keep 173 = .ok (.getfield 114, 3) := by decide +kernel
theorem dX4_keep_176 : decode cX4_keep 176 = .ok (.iastore, 1) := by decide +kernel
theorem dX4_keep_177 : decode cX4_keep 177 = .ok (.aload_n 0, 1) := by decide +kernel
theorem dX4_keep_178 : decode cX4_keep 178 = .ok (.getfield 114, 3) := by decide +kernel
theorem dX4_keep_181 : decode cX4_keep 181 = .ok (.ireturn, 1) := by decide +kernel
set_option maxRecDepth 20000 in
theorem ggX4_on_X4_in : GoodIn wsX4_on wsX4_in := goodIn_r _ [14] (by decide +kernel) (by decide +kernel)
set_option maxRecDepth 20000 in
theorem gX4_on_X4_in : GoodIn wsX4_on (va_wsS RX4 74 yX4_in wsX4_in) := goodIn_app (goodIn_of _ (by decide +kernel)) ggX4_on_X4_in
set_option maxRecDepth 20000 in
theorem ggX4_on_X4_finds : GoodIn wsX4_on wsX4_finds := goodIn_r _ [18, 19, 20, 21, 22, 23, 24, 25, 26, 27, 28, 29, 30, 31, 32, 33, 34, 35, 36, 37, 38, 39, 40, 41, 42, 43] (by decide +kernel) (by decide +kernel)
set_option maxRecDepth 20000 in
theorem gX4_on_X4_finds : GoodIn wsX4_on (wsV RX4 84 RX4 yX4_finds wsX4_finds) := goodIn_app (goodIn_of _ (by decide +kernel)) ggX4_on_X4_finds
theorem dX4_on_0 : decode cX4_on 0 = .ok (.iload_n 1, 1) := by decide +kernel
theorem dX4_on_1 : decode cX4_on 1 = .ok (.i2l, 1) := by decide +kernel
theorem dX4_on_2 : decode cX4_on 2 = .ok (.lconst 0, 1) := by decide +kernel
theorem dX4_on_3 : decode cX4_on 3 = .ok (.ldc2_w 167, 3) := by decide +kernel
theorem dX4_on_6 : decode cX4_on 6 = .ok (.invokestatic 74, 3) := by decide +kernel
theorem dX4_on_9 : decode cX4_on 9 = .ok (.ifCond .ne 5, 3) := by decide +kernel
theorem dX4_on_12 : decode cX4_on 12 = .ok (.iconst (-1), 1) := by decide +kernel
theorem dX4_on_13 : decode cX4_on 13 = .ok (.ireturn, 1) := by decide +kernel
theorem dX4_on_14 : decode cX4_on 14 = .ok (.aload_n 0, 1) := by decide +kernel
theorem dX4_on_15 : decode cX4_on 15 = .ok (.getfield 50, 3) := by decide +kernel
theorem dX4_on_18 : decode cX4_on 18 = .ok (.iload_n 1, 1) := by decide +kernel
theorem dX4_on_19 : decode cX4_on 19 = .ok (.iaload, 1) := by decide +kernel
theorem dX4_on_20 : decode cX4_on 20 = .ok (.ifCond .ge 9, 3) := by decide +kernel
theorem dX4_on_23 : decode cX4_on 23 = .ok (.aload_n 0, 1) := by decide +kernel
theorem dX4_on_24 : decode cX4_on 24 = .ok (.iconst 1, 1) := by decide +kernel
theorem dX4_on_25 : decode cX4_on 25 = .ok (.invokevirtual 84, 3) := by decide +kernel
theorem dX4_on_28 : decode cX4_on 28 = .ok (.ireturn, 1) := by decide +kernel
theorem dX4_on_29 : decode cX4_on 29 = .ok (.sipush 391, 3) := by decide +kernel
theorem dX4_on_32 : decode cX4_on 32 = .ok (.iload_n 1, 1) := by decide +kernel
theorem dX4_on_33 : decode cX4_on 33 = .ok (.imul, 1) := by decide +kernel
theorem dX4_on_34 : decode cX4_on 34 = .ok (.istore_n 2, 1) := by decide +kernel
theorem dX4_on_35 : decode cX4_on 35 = .ok (.aload_n 0, 1) := by decide +kernel
theorem dX4_on_36 : decode cX4_on 36 = .ok (.aload_n 0, 1) := by decide +kernel
theorem dX4_on_37 : decode cX4_on 37 = .ok (.getfield 53, 3) := by decide +kernel
theorem dX4_on_40 : decode cX4_on 40 = .ok (.iload_n 2, 1) := by decide +kernel
theorem dX4_on_41 : decode cX4_on 41 = .ok (.iaload, 1) := by decide +kernel
theorem dX4_on_42 : decode cX4_on 42 = .ok (.putfield 111, 3) := by decide +kernel
theorem dX4_on_45 : decode cX4_on 45 = .ok (.iconst 0, 1) := by decide +kernel
theorem dX4_on_46 : decode cX4_on 46 = .ok (.istore_n 3, 1) := by decide +kernel
theorem dX4_on_47 : decode cX4_on 47 = .ok (.iload_n 3, 1) := by decide +kernel
theorem dX4_on_48 : decode cX4_on 48 = .ok (.bipush 7, 2) := by decide +kernel
theorem dX4_on_50 : decode cX4_on 50 = .ok (.if_icmp .ge 59, 3) := by decide +kernel
theorem dX4_on_53 : decode cX4_on 53 = .ok (.aload_n 0, 1) := by decide +kernel
theorem dX4_on_54 : decode cX4_on 54 = .ok (.getfield 35, 3) := by decide +kernel
theorem dX4_on_57 : decode cX4_on 57 = .ok (.iload_n 3, 1) := by decide +kernel
theorem dX4_on_58 : decode cX4_on 58 = .ok (.aload_n 0, 1) := by decide +kernel
theorem dX4_on_59 : decode cX4_on 59 = .ok (.getfield 53, 3) := by decide +kernel
theorem dX4_on_62 : decode cX4_on 62 = .ok (.iload_n 2, 1) := by decide +kernel
theorem dX4_on_63 : decode cX4_on 63 = .ok (.iconst 1, 1) := by decide +kernel
theorem dX4_on_64 : decode cX4_on 64 = .ok (.iadd, 1) := by decide +kernel
theorem dX4_on_65 : decode cX4_on 65 = .ok (.iload_n 3, 1) := by decide +kernel
theorem dX4_on_66 : decode cX4_on 66 = .ok (.iadd, 1) := by decide +kernel
theorem dX4_on_67 : decode cX4_on 67 = .ok (.iaload, 1) := by decide +kernel
theorem dX4_on_68 : decode cX4_on 68 = .ok (.iastore, 1) := by decide +kernel
theorem dX4_on_69 : decode cX4_on 69 = .ok (.aload_n 0, 1) := by decide +kernel
theorem dX4_on_70 : decode cX4_on 70 = .ok (.getfield 38, 3) := by decide +kernel
theorem dX4_on_73 : decode cX4_on 73 = .ok (.iload_n 3, 1) := by decide +kernel
theorem dX4_on_74 : decode cX4_on 74 = .ok (.aload_n 0, 1) := by decide +kernel
theorem dX4_on_75 : decode cX4_on 75 = .ok (.getfield 53, 3) := by decide +kernel
theorem dX4_on_78 : decode cX4_on 78 = .ok (.iload_n 2, 1) := by decide +kernel
theorem dX4_on_79 : decode cX4_on 79 = .ok (.bipush 8, 2) := by decide +kernel
theorem dX4_on_81 : decode cX4_on 81 = .ok (.iadd, 1) := by decide +kernel
theorem dX4_on_82 : decode cX4_on 82 = .ok (.iload_n 3, 1) := by decide +kernel
theorem dX4_on_83 : decode cX4_on 83 = .ok (.iadd, 1) := by decide +kernel
theorem dX4_on_84 : decode cX4_on 84 = .ok (.iaload, 1) := by decide +kernel
theorem dX4_on_85 : decode cX4_on 85 = .ok (.iastore, 1) := by decide +kernel
theorem dX4_on_86 : decode cX4_on 86 = .ok (.aload_n 0, 1) := by decide +kernel
theorem dX4_on_87 : decode cX4_on 87 = .ok (.getfield 41, 3) := by decide +kernel
theorem dX4_on_90 : decode cX4_on 90 = .ok (.iload_n 3, 1) := by decide +kernel
theorem dX4_on_91 : decode cX4_on 91 = .ok (.aload_n 0, 1) := by decide +kernel
theorem dX4_on_92 : decode cX4_on 92 = .ok (.getfield 53, 3) := by decide +kernel
theorem dX4_on_95 : decode cX4_on 95 = .ok (.iload_n 2, 1) := by decide +kernel
theorem dX4_on_96 : decode cX4_on 96 = .ok (.bipush 15, 2) := by decide +kernel
theorem dX4_on_98 : decode cX4_on 98 = .ok (.iadd, 1) := by decide +kernel
theorem dX4_on_99 : decode cX4_on 99 = .ok (.iload_n 3, 1) := by decide +kernel
theorem dX4_on_100 : decode cX4_on 100 = .ok (.iadd, 1) := by decide +kernel
theorem dX4_on_101 : decode cX4_on 101 = .ok (.iaload, 1) := by decide +kernel
theorem dX4_on_102 : decode cX4_on 102 = .ok (.iastore, 1) := by decide +kernel
theorem dX4_on_103 : decode cX4_on 103 = .ok (.iinc 3 1, 3) := by decide +kernel
theorem dX4_on_106 : decode cX4_on 106 = .ok (.goto (-59), 3) := by decide +kernel
theorem dX4_on_109 : decode cX4_on 109 = .ok (.iconst 0, 1) := by decide +kernel
theorem dX4_on_110 : decode cX4_on 110 = .ok (.istore_n 3, 1) := by decide +kernel
theorem dX4_on_111 : decode cX4_on 111 = .ok (.iload_n 3, 1) := by decide +kernel
theorem dX4_on_112 : decode cX4_on 112 = .ok (.bipush 9, 2) := by decide +kernel
theorem dX4_on_114 : decode cX4_on 114 = .ok (.if_icmp .ge 26, 3) := by decide +kernel
theorem dX4_on_117 : decode cX4_on 117 = .ok (.aload_n 0, 1) := by decide +kernel
theorem dX4_on_118 : decode cX4_on 118 = .ok (.getfield 44, 3) := by decide +kernel
theorem dX4_on_121 : decode cX4_on 121 = .ok (.iload_n 3, 1) := by decide +kernel
theorem dX4_on_122 : decode cX4_on 122 = .ok (.aload_n 0, 1) := by decide +kernel
theorem dX4_on_123 : decode cX4_on 123 = .ok (.getfield 53, 3) := by decide +kernel
theorem dX4_on_126 : decode cX4_on 126 = .ok (.iload_n 2, 1) := by decide +kernel
theorem dX4_on_127 : decode cX4_on 127 = .ok (.bipush 22, 2) := by decide +kernel
theorem dX4_on_129 : decode cX4_on 129 = .ok (.iadd, 1) := by decide +kernel
theorem dX4_on_130 : decode cX4_on 130 = .ok (.iload_n 3, 1) := by decide +kernel
theorem dX4_on_131 : decode cX4_on 131 = .ok (.iadd, 1) := by decide +kernel
theorem dX4_on_132 : decode cX4_on 132 = .ok (.iaload, 1) := by decide +kernel
theorem dX4_on_133 : decode cX4_on 133 = .ok (.iastore, 1) := by decide +kernel
theorem dX4_on_134 : decode cX4_on 134 = .ok (.iinc 3 1, 3) := by decide +kernel
theorem dX4_on_137 : decode cX4_on 137 = .ok (.goto (-26), 3) := by decide +kernel
theorem dX4_on_140 : decode cX4_on 140 = .ok (.iconst 0, 1) := by decide +kernel
theorem dX4_on_141 : decode cX4_on 141 = .ok (.istore_n 3, 1) := by decide +kernel
theorem dX4_on_142 : decode cX4_on 142 = .ok (.iload_n 3, 1) := by decide +kernel
theorem dX4_on_143 : decode cX4_on 143 = .ok (.sipush 360, 3) := by decide +kernel
theorem dX4_on_146 : decode cX4_on 146 = .ok (.if_icmp .ge 26, 3) := by decide +kernel
theorem dX4_on_149 : decode cX4_on 149 = .ok (.aload_n 0, 1) := by decide +kernel
theorem dX4_on_150 : decode cX4_on 150 = .ok (.getfield 47, 3) := by decide +kernel
theorem dX4_on_153 : decode cX4_on 153 = .ok (.iload_n 3, 1) := by decide +kernel
theorem dX4_on_154 : decode cX4_on 154 = .ok (.aload_n 0, 1) := by decide +kernel
theorem dX4_on_155 : decode cX4_on 155 = .ok (.getfield 53, 3) := by decide +kernel
theorem dX4_on_158 : decode cX4_on 158 = .ok (.iload_n 2, 1) := by decide +kernel
theorem dX4_on_159 : decode cX4_on 159 = .ok (.bipush 31, 2) := by decide +kernel
theorem dX4_on_161 : decode cX4_on 161 = .ok (.iadd, 1) := by decide +kernel
theorem dX4_on_162 : decode cX4_on 162 = .ok (.iload_n 3, 1) := by decide +kernel
theorem dX4_on_163 : decode cX4_on 163 = .ok (.iadd, 1) := by decide +kernel
theorem dX4_on_164 : decode cX4_on 164 = .ok (.iaload, 1) := by decide +kernel
theorem dX4_on_165 : decode cX4_on 165 = .ok (.iastore, 1) := by decide +kernel
theorem dX4_on_166 : decode cX4_on 166 = .ok (.iinc 3 1, 3) := by decide +kernel
theorem dX4_on_169 : decode cX4_on 169 = .ok (.goto (-27), 3) := by decide +kernel
theorem dX4_on_172 : decode cX4_on 172 = .ok (.aload_n 0, 1) := by decide +kernel
theorem dX4_on_173 : decode cX4_on 173 = .ok (.aload_n 0, 1) := by decide +kernel
theorem dX4_on_174 : decode cX4_on 174 = .ok (.getfield 50, 3) := by decide +kernel
theorem dX4_on_177 : decode cX4_on 177 = .ok (.iload_n 1, 1) := by decide +kernel
theorem dX4_on_178 : decode cX4_on 178 = .ok (.iaload, 1) := by decide +kernel
theorem dX4_on_179 : decode cX4_on 179 = .ok (.putfield 114, 3) := by decide +kernel
theorem dX4_on_182 : decode cX4_on 182 = .ok (.aload_n 0, 1) := by decide +kernel
theorem dX4_on_183 : decode cX4_on 183 = .ok (.getfield 114, 3) := by decide +kernel
theorem dX4_on_186 : decode cX4_on 186 = .ok (.ireturn, 1) := by decide +kernel
theorem dX4_asides_0 : decode cX4_asides 0 = .ok (.iconst 0, 1) := by decide +kernel
theorem dX4_asides_1 : decode cX4_asides 1 = .ok (.istore_n 1, 1) := by decide +kernel
theorem dX4_asides_2 : decode cX4_asides 2 = .ok (.iload_n 1, 1) := by decide +kernel
theorem dX4_asides_3 : decode cX4_asides 3 = .ok (.bipush 9, 2) := by decide +kernel
theorem dX4_asides_5 : decode cX4_asides 5 = .ok (.if_icmp .ge 21, 3) := by decide +kernel
theorem dX4_asides_8 : decode cX4_asides 8 = .ok (.aload_n 0, 1) := by decide +kernel
theorem dX4_asides_9 : decode cX4_asides 9 = .ok (.getfield 56, 3) := by decide +kernel
theorem dX4_asides_12 : decode cX4_asides 12 = .ok (.iload_n 1, 1) := by decide +kernel
theorem dX4_asides_13 : decode cX4_asides 13 = .ok (.aload_n 0, 1) := by decide +kernel
theorem dX4_asides_14 : decode cX4_asides 14 = .ok (.getfield 44, 3) := by decide +kernel
theorem dX4_asides_17 : decode cX4_asides 17 = .ok (.iload_n 1, 1) := by decide +kernel
theorem dX4_asides_18 : decode cX4_asides 18 = .ok (.iaload, 1) := by decide +kernel
theorem dX4_asides_19 : decode cX4_asides 19 = .ok (.iastore, 1) := by decide +kernel
theorem dX4_asides_20 : decode cX4_asides 20 = .ok (.iinc 1 1, 3) := by decide +kernel
theorem dX4_asides_23 : decode cX4_asides 23 = .ok (.goto (-21), 3) := by decide +kernel
theorem dX4_asides_26 : decode cX4_asides 26 = .ok (.return_, 1) := by decide +kernel
theorem dX4_backs_0 : decode cX4_backs 0 = .ok (.iconst 0, 1) := by decide +kernel
theorem dX4_backs_1 : decode cX4_backs 1 = .ok (.istore_n 1, 1) := by decide +kernel
theorem dX4_backs_2 : decode cX4_backs 2 = .ok (.iload_n 1, 1) := by decide +kernel
theorem dX4_backs_3 : decode cX4_backs 3 = .ok (.bipush 9, 2) := by decide +kernel
theorem dX4_backs_5 : decode cX4_backs 5 = .ok (.if_icmp .ge 21, 3) := by decide +kernel
theorem dX4_backs_8 : decode cX4_backs 8 = .ok (.aload_n 0, 1) := by decide +kernel
theorem dX4_backs_9 : decode cX4_backs 9 = .ok (.getfield 44, 3) := by decide +kernel
theorem dX4_backs_12 : decode cX4_backs 12 = .ok (.iload_n 1, 1) := by decide +kernel
theorem dX4_backs_13 : decode cX4_backs 13 = .ok (.aload_n 0, 1) := by decide +kernel
theorem dX4_backs_14 : decode cX4_backs 14 = .ok (.getfield 56, 3) := by decide +kernel
theorem dX4_backs_17 : decode cX4_backs 17 = .ok (.iload_n 1, 1) := by decide +kernel
theorem dX4_backs_18 : decode cX4_backs 18 = .ok (.iaload, 1) := by decide +kernel
theorem dX4_backs_19 : decode cX4_backs 19 = .ok (.iastore, 1) := by decide +kernel
theorem dX4_backs_20 : decode cX4_backs 20 = .ok (.iinc 1 1, 3) := by decide +kernel
theorem dX4_backs_23 : decode cX4_backs 23 = .ok (.goto (-21), 3) := by decide +kernel
theorem dX4_backs_26 : decode cX4_backs 26 = .ok (.return_, 1) := by decide +kernel
theorem dX4_many_0 : decode cX4_many 0 = .ok (.iconst 0, 1) := by decide +kernel
theorem dX4_many_1 : decode cX4_many 1 = .ok (.istore_n 1, 1) := by decide +kernel
theorem dX4_many_2 : decode cX4_many 2 = .ok (.iload_n 0, 1) := by decide +kernel
theorem dX4_many_3 : decode cX4_many 3 = .ok (.istore_n 2, 1) := by decide +kernel
theorem dX4_many_4 : decode cX4_many 4 = .ok (.iload_n 2, 1) := by decide +kernel
theorem dX4_many_5 : decode cX4_many 5 = .ok (.ifCond .eq 15, 3) := by decide +kernel
theorem dX4_many_8 : decode cX4_many 8 = .ok (.iinc 1 1, 3) := by decide +kernel
theorem dX4_many_11 : decode cX4_many 11 = .ok (.iload_n 2, 1) := by decide +kernel
theorem dX4_many_12 : decode cX4_many 12 = .ok (.iload_n 2, 1) := by decide +kernel
theorem dX4_many_13 : decode cX4_many 13 = .ok (.iconst 1, 1) := by decide +kernel
theorem dX4_many_14 : decode cX4_many 14 = .ok (.isub, 1) := by decide +kernel
theorem dX4_many_15 : decode cX4_many 15 = .ok (.iand, 1) := by decide +kernel
theorem dX4_many_16 : decode cX4_many 16 = .ok (.istore_n 2, 1) := by decide +kernel
theorem dX4_many_17 : decode cX4_many 17 = .ok (.goto (-13), 3) := by decide +kernel
theorem dX4_many_20 : decode cX4_many 20 = .ok (.iload_n 1, 1) := by decide +kernel
theorem dX4_many_21 : decode cX4_many 21 = .ok (.ireturn, 1) := by decide +kernel
set_option maxRecDepth 20000 in
theorem ggX4_worksOff_X4_comesOff : GoodIn wsX4_worksOff wsX4_comesOff := goodIn_r _ [6, 7, 8, 9, 10, 5, 11, 12, 13, 14, 15, 16, 17, 18, 19, 20, 21, 22, 23, 24, 25, 26, 27, 28, 29, 30, 31, 32, 33, 34, 35, 36, 37, 38, 39, 40, 41, 42, 43] (by decide +kernel) (by decide +kernel)
set_option maxRecDepth 20000 in
theorem gX4_worksOff_X4_comesOff : GoodIn wsX4_worksOff (wsV RX4 132 RX4 yX4_comesOff wsX4_comesOff) := goodIn_app (goodIn_of _ (by decide +kernel)) ggX4_worksOff_X4_comesOff
theorem dX4_worksOff_0 : decode cX4_worksOff 0 = .ok (.iconst 0, 1) := by decide +kernel
theorem dX4_worksOff_1 : decode cX4_worksOff 1 = .ok (.istore_n 1, 1) := by decide +kernel
theorem dX4_worksOff_2 : decode cX4_worksOff 2 = .ok (.iconst 0, 1) := by decide +kernel
theorem dX4_worksOff_3 : decode cX4_worksOff 3 = .ok (.istore_n 2, 1) := by decide +kernel
theorem dX4_worksOff_4 : decode cX4_worksOff 4 = .ok (.iload_n 2, 1) := by decide +kernel
theorem dX4_worksOff_5 : decode cX4_worksOff 5 = .ok (.aload_n 0, 1) := by decide +kernel
theorem dX4_worksOff_6 : decode cX4_worksOff 6 = .ok (.getfield 111, 3) := by decide +kernel
theorem dX4_worksOff_9 : decode cX4_worksOff 9 = .ok (.if_icmp .ge 27, 3) := by decide +kernel
theorem dX4_worksOff_12 : decode cX4_worksOff 12 = .ok (.iload_n 1, 1) := by decide +kernel
theorem dX4_worksOff_13 : decode cX4_worksOff 13 = .ok (.aload_n 0, 1) := by decide +kernel
theorem dX4_worksOff_14 : decode cX4_worksOff 14 = .ok (.iload_n 2, 1) := by decide +kernel
theorem dX4_worksOff_15 : decode cX4_worksOff 15 = .ok (.invokevirtual 132, 3) := by decide +kernel
theorem dX4_worksOff_18 : decode cX4_worksOff 18 = .ok (.ifCond .eq 9, 3) := by decide +kernel
theorem dX4_worksOff_21 : decode cX4_worksOff 21 = .ok (.iconst 1, 1) := by decide +kernel
theorem dX4_worksOff_22 : decode cX4_worksOff 22 = .ok (.iload_n 2, 1) := by decide +kernel
theorem dX4_worksOff_23 : decode cX4_worksOff 23 = .ok (.ishl, 1) := by decide +kernel
theorem dX4_worksOff_24 : decode cX4_worksOff 24 = .ok (.goto 4, 3) := by decide +kernel
theorem dX4_worksOff_27 : decode cX4_worksOff 27 = .ok (.iconst 0, 1) := by decide +kernel
theorem dX4_worksOff_28 : decode cX4_worksOff 28 = .ok (.ior, 1) := by decide +kernel
theorem dX4_worksOff_29 : decode cX4_worksOff 29 = .ok (.istore_n 1, 1) := by decide +kernel
theorem dX4_worksOff_30 : decode cX4_worksOff 30 = .ok (.iinc 2 1, 3) := by decide +kernel
theorem dX4_worksOff_33 : decode cX4_worksOff 33 = .ok (.goto (-29), 3) := by decide +kernel
theorem dX4_worksOff_36 : decode cX4_worksOff 36 = .ok (.iload_n 1, 1) := by decide +kernel
theorem dX4_worksOff_37 : decode cX4_worksOff 37 = .ok (.ireturn, 1) := by decide +kernel
set_option maxRecDepth 20000 in
theorem ggX4_works_X4_worksOff : GoodIn wsX4_works wsX4_worksOff := goodIn_r _ [5, 6, 7, 8, 9, 4, 10, 11, 12, 13, 14, 15, 16, 17, 18, 19, 20, 21, 22, 23, 24, 33, 34, 35, 36, 37, 38, 39, 40, 41, 42, 43, 44, 45, 46, 47, 48, 49, 50, 51, 52, 53, 54, 55] (by decide +kernel) (by decide +kernel)
set_option maxRecDepth 20000 in
theorem gX4_works_X4_worksOff : GoodIn wsX4_works (wsV RX4 169 RX4 yX4_worksOff wsX4_worksOff) := goodIn_app (goodIn_of _ (by decide +kernel)) ggX4_works_X4_worksOff
set_option maxRecDepth 20000 in
theorem ggX4_works_X4_many : GoodIn wsX4_works wsX4_many := goodIn_r _ [27] (by decide +kernel) (by decide +kernel)
set_option maxRecDepth 20000 in
theorem gX4_works_X4_many : GoodIn wsX4_works (va_wsS RX4 172 yX4_many wsX4_many) := goodIn_app (goodIn_of _ (by decide +kernel)) ggX4_works_X4_many
set_option maxRecDepth 20000 in
theorem ggX4_works_X4_tells : GoodIn wsX4_works wsX4_tells := goodIn_r _ [31, 32, 33, 34, 35, 36, 37, 38, 39, 40, 41, 42, 43, 44, 45, 46, 47, 48, 49, 50, 51, 52, 53, 54, 55] (by decide +kernel) (by decide +kernel)
set_option maxRecDepth 20000 in
theorem gX4_works_X4_tells : GoodIn wsX4_works (wsV RX4 92 RX4 yX4_tells wsX4_tells) := goodIn_app (goodIn_of _ (by decide +kernel)) ggX4_works_X4_tells
theorem dX4_works_0 : decode cX4_works 0 = .ok (.aload_n 0, 1) := by decide +kernel
theorem dX4_works_1 : decode cX4_works 1 = .ok (.invokevirtual 169, 3) := by decide +kernel
theorem dX4_works_4 : decode cX4_works 4 = .ok (.istore_n 1, 1) := by decide +kernel
theorem dX4_works_5 : decode cX4_works 5 = .ok (.aload_n 0, 1) := by decide +kernel
theorem dX4_works_6 : decode cX4_works 6 = .ok (.iload_n 1, 1) := by decide +kernel
theorem dX4_works_7 : decode cX4_works 7 = .ok (.iload_n 1, 1) := by decide +kernel
theorem dX4_works_8 : decode cX4_works 8 = .ok (.invokestatic 172, 3) := by decide +kernel
theorem dX4_works_11 : decode cX4_works 11 = .ok (.invokevirtual 92, 3) := by decide +kernel
theorem dX4_works_14 : decode cX4_works 14 = .ok (.ireturn, 1) := by decide +kernel
set_option maxRecDepth 20000 in
theorem ggX4_goesOn_X4_goesBy : GoodIn wsX4_goesOn wsX4_goesBy := goodIn_r _ [5, 6, 7, 8, 9, 10, 11, 4, 12, 13, 14, 15, 16, 17, 18, 19, 20, 21, 22, 23, 24, 25, 26, 27, 28, 29, 30, 31, 32, 33, 34, 35] (by decide +kernel) (by decide +kernel)
set_option maxRecDepth 20000 in
theorem gX4_goesOn_X4_goesBy : GoodIn wsX4_goesOn (wsV RX4 152 RX4 yX4_goesBy wsX4_goesBy) := goodIn_app (goodIn_of _ (by decide +kernel)) ggX4_goesOn_X4_goesBy
theorem dX4_goesOn_0 : decode cX4_goesOn 0 = .ok (.iconst 0, 1) := by decide +kernel
theorem dX4_goesOn_1 : decode cX4_goesOn 1 = .ok (.istore_n 2, 1) := by decide +kernel
theorem dX4_goesOn_2 : decode cX4_goesOn 2 = .ok (.iload_n 2, 1) := by decide +kernel
theorem dX4_goesOn_3 : decode cX4_goesOn 3 = .ok (.iload_n 1, 1) := by decide +kernel
theorem dX4_goesOn_4 : decode cX4_goesOn 4 = .ok (.if_icmp .ge 13, 3) := by decide +kernel
theorem dX4_goesOn_7 : decode cX4_goesOn 7 = .ok (.aload_n 0, 1) := by decide +kernel
theorem dX4_goesOn_8 : decode cX4_goesOn 8 = .ok (.invokevirtual 152, 3) := by decide +kernel
theorem dX4_goesOn_11 : decode cX4_goesOn 11 = .ok (.iinc 2 1, 3) := by decide +kernel
theorem dX4_goesOn_14 : decode cX4_goesOn 14 = .ok (.goto (-12), 3) := by decide +kernel
theorem dX4_goesOn_17 : decode cX4_goesOn 17 = .ok (.return_, 1) := by decide +kernel
set_option maxRecDepth 20000 in
theorem ggX4_later_X4_isHouse : GoodIn wsX4_later wsX4_isHouse := goodIn_r _ [6, 7, 8, 9, 5, 10, 52, 53, 54, 55, 56, 57, 58, 59, 60, 61, 62, 63, 64, 65, 66, 67, 68, 69, 70, 71, 72, 73, 74] (by decide +kernel) (by decide +kernel)
set_option maxRecDepth 20000 in
theorem gX4_later_X4_isHouse : GoodIn wsX4_later (wsV RX4 135 RX4 yX4_isHouse wsX4_isHouse) := goodIn_app (goodIn_of _ (by decide +kernel)) ggX4_later_X4_isHouse
set_option maxRecDepth 20000 in
theorem ggX4_later_X4_in : GoodIn wsX4_later wsX4_in := goodIn_r _ [10] (by decide +kernel) (by decide +kernel)
set_option maxRecDepth 20000 in
theorem gX4_later_X4_in : GoodIn wsX4_later (va_wsS RX4 74 yX4_in wsX4_in) := goodIn_app (goodIn_of _ (by decide +kernel)) ggX4_later_X4_in
set_option maxRecDepth 20000 in
theorem ggX4_later_X4_asides : GoodIn wsX4_later wsX4_asides := goodIn_r _ [14, 15, 16, 52, 53, 54, 55, 56, 57, 58, 59, 60, 61, 62, 63, 64, 65, 66, 67, 68, 69, 70, 71, 72, 73, 74] (by decide +kernel) (by decide +kernel)
set_option maxRecDepth 20000 in
theorem gX4_later_X4_asides : GoodIn wsX4_later (wsV RX4 177 RX4 yX4_asides wsX4_asides) := goodIn_app (goodIn_of _ (by decide +kernel)) ggX4_later_X4_asides
set_option maxRecDepth 20000 in
theorem ggX4_later_X4_goesOn : GoodIn wsX4_later wsX4_goesOn := goodIn_r _ [20, 21, 22, 23, 5, 24, 7, 25, 16, 26, 27, 28, 29, 52, 53, 54, 55, 56, 57, 58, 59, 60, 61, 62, 63, 64, 65, 66, 67, 68, 69, 70, 71, 72, 73, 74] (by decide +kernel) (by decide +kernel)
set_option maxRecDepth 20000 in
theorem gX4_later_X4_goesOn : GoodIn wsX4_later (wsV RX4 180 RX4 yX4_goesOn wsX4_goesOn) := goodIn_app (goodIn_of _ (by decide +kernel)) ggX4_later_X4_goesOn
set_option maxRecDepth 20000 in
theorem ggX4_later_X4_jar : GoodIn wsX4_later wsX4_jar := goodIn_r _ [29, 16, 52, 53, 54, 55, 56, 57, 58, 59, 60, 61, 62, 63, 64, 65, 66, 67, 68, 69, 70, 71, 72, 73, 74] (by decide +kernel) (by decide +kernel)
set_option maxRecDepth 20000 in
theorem gX4_later_X4_jar : GoodIn wsX4_later (wsV RX4 117 RX4 yX4_jar wsX4_jar) := goodIn_app (goodIn_of _ (by decide +kernel)) ggX4_later_X4_jar
set_option maxRecDepth 20000 in
theorem ggX4_later_X4_springs : GoodIn wsX4_later wsX4_springs := goodIn_r _ [33, 16, 7, 34, 35, 36, 5, 37, 38, 26, 27, 28, 29, 39, 40, 41, 42, 52, 53, 54, 55, 56, 57, 58, 59, 60, 61, 62, 63, 64, 65, 66, 67, 68, 69, 70, 71, 72, 73, 74] (by decide +kernel) (by decide +kernel)
set_option maxRecDepth 20000 in
theorem gX4_later_X4_springs : GoodIn wsX4_later (wsV RX4 155 RX4 yX4_springs wsX4_springs) := goodIn_app (goodIn_of _ (by decide +kernel)) ggX4_later_X4_springs
set_option maxRecDepth 20000 in
theorem ggX4_later_X4_backs : GoodIn wsX4_later wsX4_backs := goodIn_r _ [46, 16, 15, 52, 53, 54, 55, 56, 57, 58, 59, 60, 61, 62, 63, 64, 65, 66, 67, 68, 69, 70, 71, 72, 73, 74] (by decide +kernel) (by decide +kernel)
set_option maxRecDepth 20000 in
theorem gX4_later_X4_backs : GoodIn wsX4_later (wsV RX4 184 RX4 yX4_backs wsX4_backs) := goodIn_app (goodIn_of _ (by decide +kernel)) ggX4_later_X4_backs
set_option maxRecDepth 20000 in
theorem ggX4_later_X4_tells : GoodIn wsX4_later wsX4_tells := goodIn_r _ [50, 51, 52, 53, 54, 55, 56, 57, 58, 59, 60, 61, 62, 63, 64, 65, 66, 67, 68, 69, 70, 71, 72, 73, 74] (by decide +kernel) (by decide +kernel)
set_option maxRecDepth 20000 in
theorem gX4_later_X4_tells : GoodIn wsX4_later (wsV RX4 92 RX4 yX4_tells wsX4_tells) := goodIn_app (goodIn_of _ (by decide +kernel)) ggX4_later_X4_tells
theorem dX4_later_0 : decode cX4_later 0 = .ok (.aload_n 0, 1) := by decide +kernel
theorem dX4_later_1 : decode cX4_later 1 = .ok (.iload_n 1, 1) := by decide +kernel
theorem dX4_later_2 : decode cX4_later 2 = .ok (.invokevirtual 135, 3) := by decide +kernel
theorem dX4_later_5 : decode cX4_later 5 = .ok (.ifCond .eq 15, 3) := by decide +kernel
theorem dX4_later_8 : decode cX4_later 8 = .ok (.iload_n 2, 1) := by decide +kernel
theorem dX4_later_9 : decode cX4_later 9 = .ok (.i2l, 1) := by decide +kernel
theorem dX4_later_10 : decode cX4_later 10 = .ok (.lconst 0, 1) := by decide +kernel
theorem dX4_later_11 : decode cX4_later 11 = .ok (.ldc2_w 175, 3) := by decide +kernel
theorem dX4_later_14 : decode cX4_later 14 = .ok (.invokestatic 74, 3) := by decide +kernel
theorem dX4_later_17 : decode cX4_later 17 = .ok (.ifCond .ne 5, 3) := by decide +kernel
theorem dX4_later_20 : decode cX4_later 20 = .ok (.iconst (-1), 1) := by decide +kernel
theorem dX4_later_21 : decode cX4_later 21 = .ok (.ireturn, 1) := by decide +kernel
theorem dX4_later_22 : decode cX4_later 22 = .ok (.aload_n 0, 1) := by decide +kernel
theorem dX4_later_23 : decode cX4_later 23 = .ok (.invokevirtual 177, 3) := by decide +kernel
theorem dX4_later_26 : decode cX4_later 26 = .ok (.aload_n 0, 1) := by decide +kernel
theorem dX4_later_27 : decode cX4_later 27 = .ok (.iload_n 2, 1) := by decide +kernel
theorem dX4_later_28 : decode cX4_later 28 = .ok (.invokevirtual 180, 3) := by decide +kernel
theorem dX4_later_31 : decode cX4_later 31 = .ok (.aload_n 0, 1) := by decide +kernel
theorem dX4_later_32 : decode cX4_later 32 = .ok (.iload_n 1, 1) := by decide +kernel
theorem dX4_later_33 : decode cX4_later 33 = .ok (.invokevirtual 117, 3) := by decide +kernel
theorem dX4_later_36 : decode cX4_later 36 = .ok (.istore_n 3, 1) := by decide +kernel
theorem dX4_later_37 : decode cX4_later 37 = .ok (.aload_n 0, 1) := by decide +kernel
theorem dX4_later_38 : decode cX4_later 38 = .ok (.invokevirtual 155, 3) := by decide +kernel
theorem dX4_later_41 : decode cX4_later 41 = .ok (.pop, 1) := by decide +kernel
theorem dX4_later_42 : decode cX4_later 42 = .ok (.aload_n 0, 1) := by decide +kernel
theorem dX4_later_43 : decode cX4_later 43 = .ok (.iload_n 1, 1) := by decide +kernel
theorem dX4_later_44 : decode cX4_later 44 = .ok (.invokevirtual 117, 3) := by decide +kernel
theorem dX4_later_47 : decode cX4_later 47 = .ok (.istore 4, 2) := by decide +kernel
theorem dX4_later_49 : decode cX4_later 49 = .ok (.aload_n 0, 1) := by decide +kernel
theorem dX4_later_50 : decode cX4_later 50 = .ok (.invokevirtual 184, 3) := by decide +kernel
theorem dX4_later_53 : decode cX4_later 53 = .ok (.aload_n 0, 1) := by decide +kernel
theorem dX4_later_54 : decode cX4_later 54 = .ok (.iload_n 3, 1) := by decide +kernel
theorem dX4_later_55 : decode cX4_later 55 = .ok (.iload 4, 2) := by decide +kernel
theorem dX4_later_57 : decode cX4_later 57 = .ok (.invokevirtual 92, 3) := by decide +kernel
theorem dX4_later_60 : decode cX4_later 60 = .ok (.ireturn, 1) := by decide +kernel
set_option maxRecDepth 20000 in
theorem ggX4_when_X4_isHouse : GoodIn wsX4_when wsX4_isHouse := goodIn_r _ [5, 6, 7, 8, 4, 9, 47, 48, 49, 50, 51, 52, 53, 54, 55, 56, 57, 58, 59, 60, 61, 62, 63, 64, 65, 66, 67, 68, 69] (by decide +kernel) (by decide +kernel)
set_option maxRecDepth 20000 in
theorem gX4_when_X4_isHouse : GoodIn wsX4_when (wsV RX4 135 RX4 yX4_isHouse wsX4_isHouse) := goodIn_app (goodIn_of _ (by decide +kernel)) ggX4_when_X4_isHouse
set_option maxRecDepth 20000 in
theorem ggX4_when_X4_asides : GoodIn wsX4_when wsX4_asides := goodIn_r _ [13, 14, 15, 47, 48, 49, 50, 51, 52, 53, 54, 55, 56, 57, 58, 59, 60, 61, 62, 63, 64, 65, 66, 67, 68, 69] (by decide +kernel) (by decide +kernel)
set_option maxRecDepth 20000 in
theorem gX4_when_X4_asides : GoodIn wsX4_when (wsV RX4 177 RX4 yX4_asides wsX4_asides) := goodIn_app (goodIn_of _ (by decide +kernel)) ggX4_when_X4_asides
set_option maxRecDepth 20000 in
theorem ggX4_when_X4_comesOff : GoodIn wsX4_when wsX4_comesOff := goodIn_r _ [19, 20, 21, 22, 23, 4, 24, 25, 26, 27, 28, 29, 15, 30, 31, 32, 47, 48, 49, 50, 51, 52, 53, 54, 55, 56, 57, 58, 59, 60, 61, 62, 63, 64, 65, 66, 67, 68, 69] (by decide +kernel) (by decide +kernel)
set_option maxRecDepth 20000 in
theorem gX4_when_X4_comesOff : GoodIn wsX4_when (wsV RX4 132 RX4 yX4_comesOff wsX4_comesOff) := goodIn_app (goodIn_of _ (by decide +kernel)) ggX4_when_X4_comesOff
set_option maxRecDepth 20000 in
theorem ggX4_when_X4_goesBy : GoodIn wsX4_when wsX4_goesBy := goodIn_r _ [36, 6, 37, 15, 26, 27, 28, 4, 29, 47, 48, 49, 50, 51, 52, 53, 54, 55, 56, 57, 58, 59, 60, 61, 62, 63, 64, 65, 66, 67, 68, 69] (by decide +kernel) (by decide +kernel)
set_option maxRecDepth 20000 in
theorem gX4_when_X4_goesBy : GoodIn wsX4_when (wsV RX4 152 RX4 yX4_goesBy wsX4_goesBy) := goodIn_app (goodIn_of _ (by decide +kernel)) ggX4_when_X4_goesBy
set_option maxRecDepth 20000 in
theorem ggX4_when_X4_worthNow : GoodIn wsX4_when wsX4_worthNow := goodIn_r _ [24, 25, 26, 27, 28, 4, 29, 15, 30, 31, 32, 47, 48, 49, 50, 51, 52, 53, 54, 55, 56, 57, 58, 59, 60, 61, 62, 63, 64, 65, 66, 67, 68, 69] (by decide +kernel) (by decide +kernel)
set_option maxRecDepth 20000 in
theorem gX4_when_X4_worthNow : GoodIn wsX4_when (wsV RX4 126 RX4 yX4_worthNow wsX4_worthNow) := goodIn_app (goodIn_of _ (by decide +kernel)) ggX4_when_X4_worthNow
set_option maxRecDepth 20000 in
theorem ggX4_when_X4_backs : GoodIn wsX4_when wsX4_backs := goodIn_r _ [41, 15, 14, 47, 48, 49, 50, 51, 52, 53, 54, 55, 56, 57, 58, 59, 60, 61, 62, 63, 64, 65, 66, 67, 68, 69] (by decide +kernel) (by decide +kernel)
set_option maxRecDepth 20000 in
theorem gX4_when_X4_backs : GoodIn wsX4_when (wsV RX4 184 RX4 yX4_backs wsX4_backs) := goodIn_app (goodIn_of _ (by decide +kernel)) ggX4_when_X4_backs
set_option maxRecDepth 20000 in
theorem ggX4_when_X4_tells : GoodIn wsX4_when wsX4_tells := goodIn_r _ [45, 46, 47, 48, 49, 50, 51, 52, 53, 54, 55, 56, 57, 58, 59, 60, 61, 62, 63, 64, 65, 66, 67, 68, 69] (by decide +kernel) (by decide +kernel)
set_option maxRecDepth 20000 in
theorem gX4_when_X4_tells : GoodIn wsX4_when (wsV RX4 92 RX4 yX4_tells wsX4_tells) := goodIn_app (goodIn_of _ (by decide +kernel)) ggX4_when_X4_tells
theorem dX4_when_0 : decode cX4_when 0 = .ok (.aload_n 0, 1) := by decide +kernel
theorem dX4_when_1 : decode cX4_when 1 = .ok (.iload_n 1, 1) := by decide +kernel
theorem dX4_when_2 : decode cX4_when 2 = .ok (.invokevirtual 135, 3) := by decide +kernel
theorem dX4_when_5 : decode cX4_when 5 = .ok (.ifCond .ne 5, 3) := by decide +kernel
theorem dX4_when_8 : decode cX4_when 8 = .ok (.iconst (-1), 1) := by decide +kernel
theorem dX4_when_9 : decode cX4_when 9 = .ok (.ireturn, 1) := by decide +kernel
theorem dX4_when_10 : decode cX4_when 10 = .ok (.aload_n 0, 1) := by decide +kernel
theorem dX4_when_11 : decode cX4_when 11 = .ok (.invokevirtual 177, 3) := by decide +kernel
theorem dX4_when_14 : decode cX4_when 14 = .ok (.iconst 0, 1) := by decide +kernel
theorem dX4_when_15 : decode cX4_when 15 = .ok (.istore_n 2, 1) := by decide +kernel
theorem dX4_when_16 : decode cX4_when 16 = .ok (.iload_n 2, 1) := by decide +kernel
theorem dX4_when_17 : decode cX4_when 17 = .ok (.bipush 61, 2) := by decide +kernel
theorem dX4_when_19 : decode cX4_when 19 = .ok (.if_icmp .ge 21, 3) := by decide +kernel
theorem dX4_when_22 : decode cX4_when 22 = .ok (.aload_n 0, 1) := by decide +kernel
theorem dX4_when_23 : decode cX4_when 23 = .ok (.iload_n 1, 1) := by decide +kernel
theorem dX4_when_24 : decode cX4_when 24 = .ok (.invokevirtual 132, 3) := by decide +kernel
theorem dX4_when_27 : decode cX4_when 27 = .ok (.ifCond .ne 13, 3) := by decide +kernel
theorem dX4_when_30 : decode cX4_when 30 = .ok (.aload_n 0, 1) := by decide +kernel
theorem dX4_when_31 : decode cX4_when 31 = .ok (.invokevirtual 152, 3) := by decide +kernel
theorem dX4_when_34 : decode cX4_when 34 = .ok (.iinc 2 1, 3) := by decide +kernel
theorem dX4_when_37 : decode cX4_when 37 = .ok (.goto (-21), 3) := by decide +kernel
theorem dX4_when_40 : decode cX4_when 40 = .ok (.aload_n 0, 1) := by decide +kernel
theorem dX4_when_41 : decode cX4_when 41 = .ok (.iload_n 1, 1) := by decide +kernel
theorem dX4_when_42 : decode cX4_when 42 = .ok (.invokevirtual 126, 3) := by decide +kernel
theorem dX4_when_45 : decode cX4_when 45 = .ok (.istore_n 3, 1) := by decide +kernel
theorem dX4_when_46 : decode cX4_when 46 = .ok (.aload_n 0, 1) := by decide +kernel
theorem dX4_when_47 : decode cX4_when 47 = .ok (.invokevirtual 184, 3) := by decide +kernel
theorem dX4_when_50 : decode cX4_when 50 = .ok (.iload_n 2, 1) := by decide +kernel
theorem dX4_when_51 : decode cX4_when 51 = .ok (.bipush 61, 2) := by decide +kernel
theorem dX4_when_53 : decode cX4_when 53 = .ok (.if_icmp .ge 12, 3) := by decide +kernel
theorem dX4_when_56 : decode cX4_when 56 = .ok (.aload_n 0, 1) := by decide +kernel
theorem dX4_when_57 : decode cX4_when 57 = .ok (.iload_n 2, 1) := by decide +kernel
theorem dX4_when_58 : decode cX4_when 58 = .ok (.iload_n 3, 1) := by decide +kernel
theorem dX4_when_59 : decode cX4_when 59 = .ok (.invokevirtual 92, 3) := by decide +kernel
theorem dX4_when_62 : decode cX4_when 62 = .ok (.goto 5, 3) := by decide +kernel
theorem dX4_when_65 : decode cX4_when 65 = .ok (.bipush (-9), 2) := by decide +kernel
theorem dX4_when_67 : decode cX4_when 67 = .ok (.ireturn, 1) := by decide +kernel
set_option maxRecDepth 20000 in
theorem ggX4_lack_X4_jar : GoodIn wsX4_lack wsX4_jar := goodIn_r _ [7, 8, 12, 13, 14, 15, 16, 17, 18, 19, 20, 21, 22, 23, 24, 25, 26, 27, 28, 29, 30, 31, 32, 33, 34] (by decide +kernel) (by decide +kernel)
set_option maxRecDepth 20000 in
theorem gX4_lack_X4_jar : GoodIn wsX4_lack (wsV RX4 117 RX4 yX4_jar wsX4_jar) := goodIn_app (goodIn_of _ (by decide +kernel)) ggX4_lack_X4_jar
set_option maxRecDepth 20000 in
theorem ggX4_lack_X4_worthTo : GoodIn wsX4_lack wsX4_worthTo := goodIn_r _ [11] (by decide +kernel) (by decide +kernel)
set_option maxRecDepth 20000 in
theorem gX4_lack_X4_worthTo : GoodIn wsX4_lack (va_wsS RX4 120 yX4_worthTo wsX4_worthTo) := goodIn_app (goodIn_of _ (by decide +kernel)) ggX4_lack_X4_worthTo
theorem dX4_lack_0 : decode cX4_lack 0 = .ok (.bipush (-9), 2) := by decide +kernel
theorem dX4_lack_2 : decode cX4_lack 2 = .ok (.istore_n 2, 1) := by decide +kernel
theorem dX4_lack_3 : decode cX4_lack 3 = .ok (.bipush 99, 2) := by decide +kernel
theorem dX4_lack_5 : decode cX4_lack 5 = .ok (.istore_n 3, 1) := by decide +kernel
theorem dX4_lack_6 : decode cX4_lack 6 = .ok (.iload_n 3, 1) := by decide +kernel
theorem dX4_lack_7 : decode cX4_lack 7 = .ok (.aload_n 0, 1) := by decide +kernel
theorem dX4_lack_8 : decode cX4_lack 8 = .ok (.iload_n 1, 1) := by decide +kernel
theorem dX4_lack_9 : decode cX4_lack 9 = .ok (.invokevirtual 117, 3) := by decide +kernel
theorem dX4_lack_12 : decode cX4_lack 12 = .ok (.if_icmp .lt 42, 3) := by decide +kernel
theorem dX4_lack_15 : decode cX4_lack 15 = .ok (.aload_n 0, 1) := by decide +kernel
theorem dX4_lack_16 : decode cX4_lack 16 = .ok (.getfield 35, 3) := by decide +kernel
theorem dX4_lack_19 : decode cX4_lack 19 = .ok (.iload_n 1, 1) := by decide +kernel
theorem dX4_lack_20 : decode cX4_lack 20 = .ok (.iaload, 1) := by decide +kernel
theorem dX4_lack_21 : decode cX4_lack 21 = .ok (.iload_n 3, 1) := by decide +kernel
theorem dX4_lack_22 : decode cX4_lack 22 = .ok (.invokestatic 120, 3) := by decide +kernel
theorem dX4_lack_25 : decode cX4_lack 25 = .ok (.iconst 5, 1) := by decide +kernel
theorem dX4_lack_26 : decode cX4_lack 26 = .ok (.aload_n 0, 1) := by decide +kernel
theorem dX4_lack_27 : decode cX4_lack 27 = .ok (.getfield 41, 3) := by decide +kernel
theorem dX4_lack_30 : decode cX4_lack 30 = .ok (.iload_n 1, 1) := by decide +kernel
theorem dX4_lack_31 : decode cX4_lack 31 = .ok (.iaload, 1) := by decide +kernel
theorem dX4_lack_32 : decode cX4_lack 32 = .ok (.imul, 1) := by decide +kernel
theorem dX4_lack_33 : decode cX4_lack 33 = .ok (.if_icmp .lt 13, 3) := by decide +kernel
theorem dX4_lack_36 : decode cX4_lack 36 = .ok (.iload_n 3, 1) := by decide +kernel
theorem dX4_lack_37 : decode cX4_lack 37 = .ok (.aload_n 0, 1) := by decide +kernel
theorem dX4_lack_38 : decode cX4_lack 38 = .ok (.iload_n 1, 1) := by decide +kernel
theorem dX4_lack_39 : decode cX4_lack 39 = .ok (.invokevirtual 117, 3) := by decide +kernel
theorem dX4_lack_42 : decode cX4_lack 42 = .ok (.isub, 1) := by decide +kernel
theorem dX4_lack_43 : decode cX4_lack 43 = .ok (.goto 4, 3) := by decide +kernel
theorem dX4_lack_46 : decode cX4_lack 46 = .ok (.iload_n 2, 1) := by decide +kernel
theorem dX4_lack_47 : decode cX4_lack 47 = .ok (.istore_n 2, 1) := by decide +kernel
theorem dX4_lack_48 : decode cX4_lack 48 = .ok (.iinc 3 (-1), 3) := by decide +kernel
theorem dX4_lack_51 : decode cX4_lack 51 = .ok (.goto (-45), 3) := by decide +kernel
theorem dX4_lack_54 : decode cX4_lack 54 = .ok (.iload_n 2, 1) := by decide +kernel
theorem dX4_lack_55 : decode cX4_lack 55 = .ok (.ireturn, 1) := by decide +kernel
set_option maxRecDepth 20000 in
theorem ggX4_lacks_X4_isHouse : GoodIn wsX4_lacks wsX4_isHouse := goodIn_r _ [6, 7, 8, 9, 5, 10, 29, 30, 31, 32, 33, 34, 35, 36, 37, 38, 39, 40, 41, 42, 43, 44, 45, 46, 47, 48, 49, 50, 51] (by decide +kernel) (by decide +kernel)
set_option maxRecDepth 20000 in
theorem gX4_lacks_X4_isHouse : GoodIn wsX4_lacks (wsV RX4 135 RX4 yX4_isHouse wsX4_isHouse) := goodIn_app (goodIn_of _ (by decide +kernel)) ggX4_lacks_X4_isHouse
set_option maxRecDepth 20000 in
theorem ggX4_lacks_X4_lack : GoodIn wsX4_lacks wsX4_lack := goodIn_r _ [14, 1, 15, 16, 17, 18, 5, 19, 20, 21, 22, 23, 29, 30, 31, 32, 33, 34, 35, 36, 37, 38, 39, 40, 41, 42, 43, 44, 45, 46, 47, 48, 49, 50, 51] (by decide +kernel) (by decide +kernel)
set_option maxRecDepth 20000 in
theorem gX4_lacks_X4_lack : GoodIn wsX4_lacks (wsV RX4 187 RX4 yX4_lack wsX4_lack) := goodIn_app (goodIn_of _ (by decide +kernel)) ggX4_lacks_X4_lack
set_option maxRecDepth 20000 in
theorem ggX4_lacks_X4_jar : GoodIn wsX4_lacks wsX4_jar := goodIn_r _ [19, 20, 29, 30, 31, 32, 33, 34, 35, 36, 37, 38, 39, 40, 41, 42, 43, 44, 45, 46, 47, 48, 49, 50, 51] (by decide +kernel) (by decide +kernel)
set_option maxRecDepth 20000 in
theorem gX4_lacks_X4_jar : GoodIn wsX4_lacks (wsV RX4 117 RX4 yX4_jar wsX4_jar) := goodIn_app (goodIn_of _ (by decide +kernel)) ggX4_lacks_X4_jar
set_option maxRecDepth 20000 in
theorem ggX4_lacks_X4_worthTo : GoodIn wsX4_lacks wsX4_worthTo := goodIn_r _ [23] (by decide +kernel) (by decide +kernel)
set_option maxRecDepth 20000 in
theorem gX4_lacks_X4_worthTo : GoodIn wsX4_lacks (va_wsS RX4 120 yX4_worthTo wsX4_worthTo) := goodIn_app (goodIn_of _ (by decide +kernel)) ggX4_lacks_X4_worthTo
set_option maxRecDepth 20000 in
theorem ggX4_lacks_X4_tells : GoodIn wsX4_lacks wsX4_tells := goodIn_r _ [27, 28, 29, 30, 31, 32, 33, 34, 35, 36, 37, 38, 39, 40, 41, 42, 43, 44, 45, 46, 47, 48, 49, 50, 51] (by decide +kernel) (by decide +kernel)
set_option maxRecDepth 20000 in
theorem gX4_lacks_X4_tells : GoodIn wsX4_lacks (wsV RX4 92 RX4 yX4_tells wsX4_tells) := goodIn_app (goodIn_of _ (by decide +kernel)) ggX4_lacks_X4_tells
theorem dX4_lacks_0 : decode cX4_lacks 0 = .ok (.aload_n 0, 1) := by decide +kernel
theorem dX4_lacks_1 : decode cX4_lacks 1 = .ok (.iload_n 1, 1) := by decide +kernel
theorem dX4_lacks_2 : decode cX4_lacks 2 = .ok (.invokevirtual 135, 3) := by decide +kernel
theorem dX4_lacks_5 : decode cX4_lacks 5 = .ok (.ifCond .ne 5, 3) := by decide +kernel
theorem dX4_lacks_8 : decode cX4_lacks 8 = .ok (.iconst (-1), 1) := by decide +kernel
theorem dX4_lacks_9 : decode cX4_lacks 9 = .ok (.ireturn, 1) := by decide +kernel
theorem dX4_lacks_10 : decode cX4_lacks 10 = .ok (.aload_n 0, 1) := by decide +kernel
theorem dX4_lacks_11 : decode cX4_lacks 11 = .ok (.iload_n 1, 1) := by decide +kernel
theorem dX4_lacks_12 : decode cX4_lacks 12 = .ok (.invokevirtual 187, 3) := by decide +kernel
theorem dX4_lacks_15 : decode cX4_lacks 15 = .ok (.istore_n 2, 1) := by decide +kernel
theorem dX4_lacks_16 : decode cX4_lacks 16 = .ok (.iload_n 2, 1) := by decide +kernel
theorem dX4_lacks_17 : decode cX4_lacks 17 = .ok (.bipush (-9), 2) := by decide +kernel
theorem dX4_lacks_19 : decode cX4_lacks 19 = .ok (.if_icmp .ne 8, 3) := by decide +kernel
theorem dX4_lacks_22 : decode cX4_lacks 22 = .ok (.bipush (-9), 2) := by decide +kernel
theorem dX4_lacks_24 : decode cX4_lacks 24 = .ok (.goto 24, 3) := by decide +kernel
theorem dX4_lacks_27 : decode cX4_lacks 27 = .ok (.aload_n 0, 1) := by decide +kernel
theorem dX4_lacks_28 : decode cX4_lacks 28 = .ok (.iload_n 2, 1) := by decide +kernel
theorem dX4_lacks_29 : decode cX4_lacks 29 = .ok (.aload_n 0, 1) := by decide +kernel
theorem dX4_lacks_30 : decode cX4_lacks 30 = .ok (.getfield 35, 3) := by decide +kernel
theorem dX4_lacks_33 : decode cX4_lacks 33 = .ok (.iload_n 1, 1) := by decide +kernel
theorem dX4_lacks_34 : decode cX4_lacks 34 = .ok (.iaload, 1) := by decide +kernel
theorem dX4_lacks_35 : decode cX4_lacks 35 = .ok (.aload_n 0, 1) := by decide +kernel
theorem dX4_lacks_36 : decode cX4_lacks 36 = .ok (.iload_n 1, 1) := by decide +kernel
theorem dX4_lacks_37 : decode cX4_lacks 37 = .ok (.invokevirtual 117, 3) := by decide +kernel
theorem dX4_lacks_40 : decode cX4_lacks 40 = .ok (.iload_n 2, 1) := by decide +kernel
theorem dX4_lacks_41 : decode cX4_lacks 41 = .ok (.iadd, 1) := by decide +kernel
theorem dX4_lacks_42 : decode cX4_lacks 42 = .ok (.invokestatic 120, 3) := by decide +kernel
theorem dX4_lacks_45 : decode cX4_lacks 45 = .ok (.invokevirtual 92, 3) := by decide +kernel
theorem dX4_lacks_48 : decode cX4_lacks 48 = .ok (.ireturn, 1) := by decide +kernel
set_option maxRecDepth 20000 in
theorem ggX4_share_X4_worksOff : GoodIn wsX4_share wsX4_worksOff := goodIn_r _ [7, 1, 8, 9, 10, 6, 11, 12, 13, 14, 15, 16, 17, 18, 19, 20, 21, 2, 22, 23, 24, 37, 38, 39, 40, 41, 42, 43, 44, 45, 46, 47, 48, 49, 50, 51, 52, 53, 54, 55, 56, 57, 58, 59] (by decide +kernel) (by decide +kernel)
set_option maxRecDepth 20000 in
theorem gX4_share_X4_worksOff : GoodIn wsX4_share (wsV RX4 169 RX4 yX4_worksOff wsX4_worksOff) := goodIn_app (goodIn_of _ (by decide +kernel)) ggX4_share_X4_worksOff
set_option maxRecDepth 20000 in
theorem ggX4_share_X4_lack : GoodIn wsX4_share wsX4_lack := goodIn_r _ [28, 17, 12, 18, 19, 20, 6, 21, 2, 22, 23, 24, 37, 38, 39, 40, 41, 42, 43, 44, 45, 46, 47, 48, 49, 50, 51, 52, 53, 54, 55, 56, 57, 58, 59] (by decide +kernel) (by decide +kernel)
set_option maxRecDepth 20000 in
theorem gX4_share_X4_lack : GoodIn wsX4_share (wsV RX4 187 RX4 yX4_lack wsX4_lack) := goodIn_app (goodIn_of _ (by decide +kernel)) ggX4_share_X4_lack
set_option maxRecDepth 20000 in
theorem ggX4_share_X4_many : GoodIn wsX4_share wsX4_many := goodIn_r _ [31] (by decide +kernel) (by decide +kernel)
set_option maxRecDepth 20000 in
theorem gX4_share_X4_many : GoodIn wsX4_share (va_wsS RX4 172 yX4_many wsX4_many) := goodIn_app (goodIn_of _ (by decide +kernel)) ggX4_share_X4_many
set_option maxRecDepth 20000 in
theorem ggX4_share_X4_tells : GoodIn wsX4_share wsX4_tells := goodIn_r _ [35, 36, 37, 38, 39, 40, 41, 42, 43, 44, 45, 46, 47, 48, 49, 50, 51, 52, 53, 54, 55, 56, 57, 58, 59] (by decide +kernel) (by decide +kernel)
set_option maxRecDepth 20000 in
theorem gX4_share_X4_tells : GoodIn wsX4_share (wsV RX4 92 RX4 yX4_tells wsX4_tells) := goodIn_app (goodIn_of _ (by decide +kernel)) ggX4_share_X4_tells
theorem dX4_share_0 : decode cX4_share 0 = .ok (.aload_n 0, 1) := by decide +kernel
theorem dX4_share_1 : decode cX4_share 1 = .ok (.getfield 111, 3) := by decide +kernel
theorem dX4_share_4 : decode cX4_share 4 = .ok (.ifCond .ne 6, 3) := by decide +kernel
theorem dX4_share_7 : decode cX4_share 7 = .ok (.bipush (-4), 2) := by decide +kernel
theorem dX4_share_9 : decode cX4_share 9 = .ok (.ireturn, 1) := by decide +kernel
theorem dX4_share_10 : decode cX4_share 10 = .ok (.aload_n 0, 1) := by decide +kernel
theorem dX4_share_11 : decode cX4_share 11 = .ok (.invokevirtual 169, 3) := by decide +kernel
theorem dX4_share_14 : decode cX4_share 14 = .ok (.istore_n 1, 1) := by decide +kernel
theorem dX4_share_15 : decode cX4_share 15 = .ok (.iload_n 1, 1) := by decide +kernel
theorem dX4_share_16 : decode cX4_share 16 = .ok (.istore_n 2, 1) := by decide +kernel
theorem dX4_share_17 : decode cX4_share 17 = .ok (.iconst 0, 1) := by decide +kernel
theorem dX4_share_18 : decode cX4_share 18 = .ok (.istore_n 3, 1) := by decide +kernel
theorem dX4_share_19 : decode cX4_share 19 = .ok (.iconst 0, 1) := by decide +kernel
theorem dX4_share_20 : decode cX4_share 20 = .ok (.istore 4, 2) := by decide +kernel
theorem dX4_share_22 : decode cX4_share 22 = .ok (.iload 4, 2) := by decide +kernel
theorem dX4_share_24 : decode cX4_share 24 = .ok (.iconst 1, 1) := by decide +kernel
theorem dX4_share_25 : decode cX4_share 25 = .ok (.aload_n 0, 1) := by decide +kernel
theorem dX4_share_26 : decode cX4_share 26 = .ok (.getfield 111, 3) := by decide +kernel
theorem dX4_share_29 : decode cX4_share 29 = .ok (.ishl, 1) := by decide +kernel
theorem dX4_share_30 : decode cX4_share 30 = .ok (.if_icmp .ge 145, 3) := by decide +kernel
theorem dX4_share_33 : decode cX4_share 33 = .ok (.iconst 0, 1) := by decide +kernel
theorem dX4_share_34 : decode cX4_share 34 = .ok (.istore 5, 2) := by decide +kernel
theorem dX4_share_36 : decode cX4_share 36 = .ok (.iload 4, 2) := by decide +kernel
theorem dX4_share_38 : decode cX4_share 38 = .ok (.iload_n 1, 1) := by decide +kernel
theorem dX4_share_39 : decode cX4_share 39 = .ok (.iand, 1) := by decide +kernel
theorem dX4_share_40 : decode cX4_share 40 = .ok (.iload_n 1, 1) := by decide +kernel
theorem dX4_share_41 : decode cX4_share 41 = .ok (.if_icmp .ne 7, 3) := by decide +kernel
theorem dX4_share_44 : decode cX4_share 44 = .ok (.iconst 1, 1) := by decide +kernel
theorem dX4_share_45 : decode cX4_share 45 = .ok (.goto 4, 3) := by decide +kernel
theorem dX4_share_48 : decode cX4_share 48 = .ok (.iconst 0, 1) := by decide +kernel
theorem dX4_share_49 : decode cX4_share 49 = .ok (.istore 6, 2) := by decide +kernel
theorem dX4_share_51 : decode cX4_share 51 = .ok (.iconst 0, 1) := by decide +kernel
theorem dX4_share_52 : decode cX4_share 52 = .ok (.istore 7, 2) := by decide +kernel
theorem dX4_share_54 : decode cX4_share 54 = .ok (.iload 7, 2) := by decide +kernel
theorem dX4_share_56 : decode cX4_share 56 = .ok (.aload_n 0, 1) := by decide +kernel
theorem dX4_share_57 : decode cX4_share 57 = .ok (.getfield 111, 3) := by decide +kernel
theorem dX4_share_60 : decode cX4_share 60 = .ok (.if_icmp .ge 75, 3) := by decide +kernel
theorem dX4_share_63 : decode cX4_share 63 = .ok (.iload 4, 2) := by decide +kernel
theorem dX4_share_65 : decode cX4_share 65 = .ok (.iload 7, 2) := by decide +kernel
theorem dX4_share_67 : decode cX4_share 67 = .ok (.ishr, 1) := by decide +kernel
theorem dX4_share_68 : decode cX4_share 68 = .ok (.iconst 1, 1) := by decide +kernel
theorem dX4_share_69 : decode cX4_share 69 = .ok (.iand, 1) := by decide +kernel
theorem dX4_share_70 : decode cX4_share 70 = .ok (.iconst 1, 1) := by decide +kernel
theorem dX4_share_71 : decode cX4_share 71 = .ok (.if_icmp .ne 7, 3) := by decide +kernel
theorem dX4_share_74 : decode cX4_share 74 = .ok (.iconst 1, 1) := by decide +kernel
theorem dX4_share_75 : decode cX4_share 75 = .ok (.goto 4, 3) := by decide +kernel
theorem dX4_share_78 : decode cX4_share 78 = .ok (.iconst 0, 1) := by decide +kernel
theorem dX4_share_79 : decode cX4_share 79 = .ok (.istore 8, 2) := by decide +kernel
theorem dX4_share_81 : decode cX4_share 81 = .ok (.iload 6, 2) := by decide +kernel
theorem dX4_share_83 : decode cX4_share 83 = .ok (.ifCond .eq 23, 3) := by decide +kernel
theorem dX4_share_86 : decode cX4_share 86 = .ok (.iload 8, 2) := by decide +kernel
theorem dX4_share_88 : decode cX4_share 88 = .ok (.ifCond .eq 14, 3) := by decide +kernel
theorem dX4_share_91 : decode cX4_share 91 = .ok (.aload_n 0, 1) := by decide +kernel
theorem dX4_share_92 : decode cX4_share 92 = .ok (.iload 7, 2) := by decide +kernel
theorem dX4_share_94 : decode cX4_share 94 = .ok (.invokevirtual 187, 3) := by decide +kernel
theorem dX4_share_97 : decode cX4_share 97 = .ok (.bipush (-9), 2) := by decide +kernel
theorem dX4_share_99 : decode cX4_share 99 = .ok (.if_icmp .eq 7, 3) := by decide +kernel
theorem dX4_share_102 : decode cX4_share 102 = .ok (.iconst 1, 1) := by decide +kernel
theorem dX4_share_103 : decode cX4_share 103 = .ok (.goto 4, 3) := by decide +kernel
theorem dX4_share_106 : decode cX4_share 106 = .ok (.iconst 0, 1) := by decide +kernel
theorem dX4_share_107 : decode cX4_share 107 = .ok (.istore 6, 2) := by decide +kernel
theorem dX4_share_109 : decode cX4_share 109 = .ok (.iload 5, 2) := by decide +kernel
theorem dX4_share_111 : decode cX4_share 111 = .ok (.iload 8, 2) := by decide +kernel
theorem dX4_share_113 : decode cX4_share 113 = .ok (.ifCond .eq 12, 3) := by decide +kernel
theorem dX4_share_116 : decode cX4_share 116 = .ok (.aload_n 0, 1) := by decide +kernel
theorem dX4_share_117 : decode cX4_share 117 = .ok (.iload 7, 2) := by decide +kernel
theorem dX4_share_119 : decode cX4_share 119 = .ok (.invokevirtual 187, 3) := by decide +kernel
theorem dX4_share_122 : decode cX4_share 122 = .ok (.goto 4, 3) := by decide +kernel
theorem dX4_share_125 : decode cX4_share 125 = .ok (.iconst 0, 1) := by decide +kernel
theorem dX4_share_126 : decode cX4_share 126 = .ok (.iadd, 1) := by decide +kernel
theorem dX4_share_127 : decode cX4_share 127 = .ok (.istore 5, 2) := by decide +kernel
theorem dX4_share_129 : decode cX4_share 129 = .ok (.iinc 7 1, 3) := by decide +kernel
theorem dX4_share_132 : decode cX4_share 132 = .ok (.goto (-78), 3) := by decide +kernel
theorem dX4_share_135 : decode cX4_share 135 = .ok (.iload 6, 2) := by decide +kernel
theorem dX4_share_137 : decode cX4_share 137 = .ok (.ifCond .eq 32, 3) := by decide +kernel
theorem dX4_share_140 : decode cX4_share 140 = .ok (.iload 5, 2) := by decide +kernel
theorem dX4_share_142 : decode cX4_share 142 = .ok (.aload_n 0, 1) := by decide +kernel
theorem dX4_share_143 : decode cX4_share 143 = .ok (.getfield 44, 3) := by decide +kernel
theorem dX4_share_146 : decode cX4_share 146 = .ok (.iconst 1, 1) := by decide +kernel
theorem dX4_share_147 : decode cX4_share 147 = .ok (.iaload, 1) := by decide +kernel
theorem dX4_share_148 : decode cX4_share 148 = .ok (.if_icmp .gt 21, 3) := by decide +kernel
theorem dX4_share_151 : decode cX4_share 151 = .ok (.iload 4, 2) := by decide +kernel
theorem dX4_share_153 : decode cX4_share 153 = .ok (.invokestatic 172, 3) := by decide +kernel
theorem dX4_share_156 : decode cX4_share 156 = .ok (.iload_n 2, 1) := by decide +kernel
theorem dX4_share_157 : decode cX4_share 157 = .ok (.invokestatic 172, 3) := by decide +kernel
theorem dX4_share_160 : decode cX4_share 160 = .ok (.if_icmp .le 9, 3) := by decide +kernel
theorem dX4_share_163 : decode cX4_share 163 = .ok (.iload 4, 2) := by decide +kernel
theorem dX4_share_165 : decode cX4_share 165 = .ok (.istore_n 2, 1) := by decide +kernel
theorem dX4_share_166 : decode cX4_share 166 = .ok (.iload 5, 2) := by decide +kernel
theorem dX4_share_168 : decode cX4_share 168 = .ok (.istore_n 3, 1) := by decide +kernel
theorem dX4_share_169 : decode cX4_share 169 = .ok (.iinc 4 1, 3) := by decide +kernel
theorem dX4_share_172 : decode cX4_share 172 = .ok (.goto (-150), 3) := by decide +kernel
theorem dX4_share_175 : decode cX4_share 175 = .ok (.aload_n 0, 1) := by decide +kernel
theorem dX4_share_176 : decode cX4_share 176 = .ok (.iload_n 2, 1) := by decide +kernel
theorem dX4_share_177 : decode cX4_share 177 = .ok (.iload_n 3, 1) := by decide +kernel
theorem dX4_share_178 : decode cX4_share 178 = .ok (.invokevirtual 92, 3) := by decide +kernel
theorem dX4_share_181 : decode cX4_share 181 = .ok (.ireturn, 1) := by decide +kernel
set_option maxRecDepth 20000 in
theorem ggX4_best_X4_asides : GoodIn wsX4_best wsX4_asides := goodIn_r _ [6, 7, 8, 63, 64, 65, 66, 67, 68, 69, 70, 71, 72, 73, 74, 75, 76, 77, 78, 79, 80, 81, 82, 83, 84, 85] (by decide +kernel) (by decide +kernel)
set_option maxRecDepth 20000 in
theorem gX4_best_X4_asides : GoodIn wsX4_best (wsV RX4 177 RX4 yX4_asides wsX4_asides) := goodIn_app (goodIn_of _ (by decide +kernel)) ggX4_best_X4_asides
set_option maxRecDepth 20000 in
theorem ggX4_best_X4_goesOn : GoodIn wsX4_best wsX4_goesOn := goodIn_r _ [12, 13, 14, 15, 5, 16, 1, 17, 8, 18, 19, 20, 21, 63, 64, 65, 66, 67, 68, 69, 70, 71, 72, 73, 74, 75, 76, 77, 78, 79, 80, 81, 82, 83, 84, 85] (by decide +kernel) (by decide +kernel)
set_option maxRecDepth 20000 in
theorem gX4_best_X4_goesOn : GoodIn wsX4_best (wsV RX4 180 RX4 yX4_goesOn wsX4_goesOn) := goodIn_app (goodIn_of _ (by decide +kernel)) ggX4_best_X4_goesOn
set_option maxRecDepth 20000 in
theorem ggX4_best_X4_springs : GoodIn wsX4_best wsX4_springs := goodIn_r _ [25, 8, 1, 26, 27, 28, 5, 29, 30, 18, 19, 20, 21, 31, 32, 33, 34, 63, 64, 65, 66, 67, 68, 69, 70, 71, 72, 73, 74, 75, 76, 77, 78, 79, 80, 81, 82, 83, 84, 85] (by decide +kernel) (by decide +kernel)
set_option maxRecDepth 20000 in
theorem gX4_best_X4_springs : GoodIn wsX4_best (wsV RX4 155 RX4 yX4_springs wsX4_springs) := goodIn_app (goodIn_of _ (by decide +kernel)) ggX4_best_X4_springs
set_option maxRecDepth 20000 in
theorem ggX4_best_X4_worksOff : GoodIn wsX4_best wsX4_worksOff := goodIn_r _ [38, 1, 39, 40, 41, 5, 42, 43, 44, 45, 46, 47, 30, 18, 19, 20, 21, 8, 48, 49, 50, 63, 64, 65, 66, 67, 68, 69, 70, 71, 72, 73, 74, 75, 76, 77, 78, 79, 80, 81, 82, 83, 84, 85] (by decide +kernel) (by decide +kernel)
set_option maxRecDepth 20000 in
theorem gX4_best_X4_worksOff : GoodIn wsX4_best (wsV RX4 169 RX4 yX4_worksOff wsX4_worksOff) := goodIn_app (goodIn_of _ (by decide +kernel)) ggX4_best_X4_worksOff
set_option maxRecDepth 20000 in
theorem ggX4_best_X4_many : GoodIn wsX4_best wsX4_many := goodIn_r _ [53] (by decide +kernel) (by decide +kernel)
set_option maxRecDepth 20000 in
theorem gX4_best_X4_many : GoodIn wsX4_best (va_wsS RX4 172 yX4_many wsX4_many) := goodIn_app (goodIn_of _ (by decide +kernel)) ggX4_best_X4_many
set_option maxRecDepth 20000 in
theorem ggX4_best_X4_backs : GoodIn wsX4_best wsX4_backs := goodIn_r _ [57, 8, 7, 63, 64, 65, 66, 67, 68, 69, 70, 71, 72, 73, 74, 75, 76, 77, 78, 79, 80, 81, 82, 83, 84, 85] (by decide +kernel) (by decide +kernel)
set_option maxRecDepth 20000 in
theorem gX4_best_X4_backs : GoodIn wsX4_best (wsV RX4 184 RX4 yX4_backs wsX4_backs) := goodIn_app (goodIn_of _ (by decide +kernel)) ggX4_best_X4_backs
set_option maxRecDepth 20000 in
theorem ggX4_best_X4_tells : GoodIn wsX4_best wsX4_tells := goodIn_r _ [61, 62, 63, 64, 65, 66, 67, 68, 69, 70, 71, 72, 73, 74, 75, 76, 77, 78, 79, 80, 81, 82, 83, 84, 85] (by decide +kernel) (by decide +kernel)
set_option maxRecDepth 20000 in
theorem gX4_best_X4_tells : GoodIn wsX4_best (wsV RX4 92 RX4 yX4_tells wsX4_tells) := goodIn_app (goodIn_of _ (by decide +kernel)) ggX4_best_X4_tells
theorem dX4_best_0 : decode cX4_best 0 = .ok (.aload_n 0, 1) := by decide +kernel
theorem dX4_best_1 : decode cX4_best 1 = .ok (.getfield 111, 3) := by decide +kernel
theorem dX4_best_4 : decode cX4_best 4 = .ok (.ifCond .ne 6, 3) := by decide +kernel
theorem dX4_best_7 : decode cX4_best 7 = .ok (.bipush (-4), 2) := by decide +kernel
theorem dX4_best_9 : decode cX4_best 9 = .ok (.ireturn, 1) := by decide +kernel
theorem dX4_best_10 : decode cX4_best 10 = .ok (.iconst 0, 1) := by decide +kernel
theorem dX4_best_11 : decode cX4_best 11 = .ok (.istore_n 1, 1) := by decide +kernel
theorem dX4_best_12 : decode cX4_best 12 = .ok (.iconst (-1), 1) := by decide +kernel
theorem dX4_best_13 : decode cX4_best 13 = .ok (.istore_n 2, 1) := by decide +kernel
theorem dX4_best_14 : decode cX4_best 14 = .ok (.aload_n 0, 1) := by decide +kernel
theorem dX4_best_15 : decode cX4_best 15 = .ok (.invokevirtual 177, 3) := by decide +kernel
theorem dX4_best_18 : decode cX4_best 18 = .ok (.iconst 0, 1) := by decide +kernel
theorem dX4_best_19 : decode cX4_best 19 = .ok (.istore_n 3, 1) := by decide +kernel
theorem dX4_best_20 : decode cX4_best 20 = .ok (.iload_n 3, 1) := by decide +kernel
theorem dX4_best_21 : decode cX4_best 21 = .ok (.bipush 21, 2) := by decide +kernel
theorem dX4_best_23 : decode cX4_best 23 = .ok (.if_icmp .ge 57, 3) := by decide +kernel
theorem dX4_best_26 : decode cX4_best 26 = .ok (.aload_n 0, 1) := by decide +kernel
theorem dX4_best_27 : decode cX4_best 27 = .ok (.iload_n 3, 1) := by decide +kernel
theorem dX4_best_28 : decode cX4_best 28 = .ok (.invokevirtual 180, 3) := by decide +kernel
theorem dX4_best_31 : decode cX4_best 31 = .ok (.aload_n 0, 1) := by decide +kernel
theorem dX4_best_32 : decode cX4_best 32 = .ok (.invokevirtual 155, 3) := by decide +kernel
theorem dX4_best_35 : decode cX4_best 35 = .ok (.pop, 1) := by decide +kernel
theorem dX4_best_36 : decode cX4_best 36 = .ok (.aload_n 0, 1) := by decide +kernel
theorem dX4_best_37 : decode cX4_best 37 = .ok (.invokevirtual 169, 3) := by decide +kernel
theorem dX4_best_40 : decode cX4_best 40 = .ok (.invokestatic 172, 3) := by decide +kernel
theorem dX4_best_43 : decode cX4_best 43 = .ok (.istore 4, 2) := by decide +kernel
theorem dX4_best_45 : decode cX4_best 45 = .ok (.aload_n 0, 1) := by decide +kernel
theorem dX4_best_46 : decode cX4_best 46 = .ok (.invokevirtual 184, 3) := by decide +kernel
theorem dX4_best_49 : decode cX4_best 49 = .ok (.iload 4, 2) := by decide +kernel
theorem dX4_best_51 : decode cX4_best 51 = .ok (.iload_n 2, 1) := by decide +kernel
theorem dX4_best_52 : decode cX4_best 52 = .ok (.if_icmp .le 7, 3) := by decide +kernel
theorem dX4_best_55 : decode cX4_best 55 = .ok (.iload_n 3, 1) := by decide +kernel
theorem dX4_best_56 : decode cX4_best 56 = .ok (.goto 4, 3) := by decide +kernel
theorem dX4_best_59 : decode cX4_best 59 = .ok (.iload_n 1, 1) := by decide +kernel
theorem dX4_best_60 : decode cX4_best 60 = .ok (.istore_n 1, 1) := by decide +kernel
theorem dX4_best_61 : decode cX4_best 61 = .ok (.iload 4, 2) := by decide +kernel
theorem dX4_best_63 : decode cX4_best 63 = .ok (.iload_n 2, 1) := by decide +kernel
theorem dX4_best_64 : decode cX4_best 64 = .ok (.if_icmp .le 8, 3) := by decide +kernel
theorem dX4_best_67 : decode cX4_best 67 = .ok (.iload 4, 2) := by decide +kernel
theorem dX4_best_69 : decode cX4_best 69 = .ok (.goto 4, 3) := by decide +kernel
theorem dX4_best_72 : decode cX4_best 72 = .ok (.iload_n 2, 1) := by decide +kernel
theorem dX4_best_73 : decode cX4_best 73 = .ok (.istore_n 2, 1) := by decide +kernel
theorem dX4_best_74 : decode cX4_best 74 = .ok (.iinc 3 1, 3) := by decide +kernel
theorem dX4_best_77 : decode cX4_best 77 = .ok (.goto (-57), 3) := by decide +kernel
theorem dX4_best_80 : decode cX4_best 80 = .ok (.aload_n 0, 1) := by decide +kernel
theorem dX4_best_81 : decode cX4_best 81 = .ok (.iload_n 1, 1) := by decide +kernel
theorem dX4_best_82 : decode cX4_best 82 = .ok (.iload_n 2, 1) := by decide +kernel
theorem dX4_best_83 : decode cX4_best 83 = .ok (.invokevirtual 92, 3) := by decide +kernel
theorem dX4_best_86 : decode cX4_best 86 = .ok (.ireturn, 1) := by decide +kernel
set_option maxRecDepth 20000 in
theorem ggX4_lending_X4_in : GoodIn wsX4_lending wsX4_in := goodIn_r _ [6] (by decide +kernel) (by decide +kernel)
set_option maxRecDepth 20000 in
theorem gX4_lending_X4_in : GoodIn wsX4_lending (va_wsS RX4 74 yX4_in wsX4_in) := goodIn_app (goodIn_of _ (by decide +kernel)) ggX4_lending_X4_in
set_option maxRecDepth 20000 in
theorem ggX4_lending_X4_worksOff : GoodIn wsX4_lending wsX4_worksOff := goodIn_r _ [10, 2, 11, 12, 13, 5, 14, 15, 16, 17, 18, 19, 20, 21, 22, 23, 24, 25, 26, 27, 28, 50, 51, 52, 53, 54, 55, 56, 57, 58, 59, 60, 61, 62, 63, 64, 65, 66, 67, 68, 69, 70, 71, 72] (by decide +kernel) (by decide +kernel)
set_option maxRecDepth 20000 in
theorem gX4_lending_X4_worksOff : GoodIn wsX4_lending (wsV RX4 169 RX4 yX4_worksOff wsX4_worksOff) := goodIn_app (goodIn_of _ (by decide +kernel)) ggX4_lending_X4_worksOff
set_option maxRecDepth 20000 in
theorem ggX4_lending_X4_many : GoodIn wsX4_lending wsX4_many := goodIn_r _ [31] (by decide +kernel) (by decide +kernel)
set_option maxRecDepth 20000 in
theorem gX4_lending_X4_many : GoodIn wsX4_lending (va_wsS RX4 172 yX4_many wsX4_many) := goodIn_app (goodIn_of _ (by decide +kernel)) ggX4_lending_X4_many
set_option maxRecDepth 20000 in
theorem ggX4_lending_X4_asides : GoodIn wsX4_lending wsX4_asides := goodIn_r _ [35, 36, 25, 50, 51, 52, 53, 54, 55, 56, 57, 58, 59, 60, 61, 62, 63, 64, 65, 66, 67, 68, 69, 70, 71, 72] (by decide +kernel) (by decide +kernel)
set_option maxRecDepth 20000 in
theorem gX4_lending_X4_asides : GoodIn wsX4_lending (wsV RX4 177 RX4 yX4_asides wsX4_asides) := goodIn_app (goodIn_of _ (by decide +kernel)) ggX4_lending_X4_asides
set_option maxRecDepth 20000 in
theorem ggX4_lending_X4_jar : GoodIn wsX4_lending wsX4_jar := goodIn_r _ [24, 25, 50, 51, 52, 53, 54, 55, 56, 57, 58, 59, 60, 61, 62, 63, 64, 65, 66, 67, 68, 69, 70, 71, 72] (by decide +kernel) (by decide +kernel)
set_option maxRecDepth 20000 in
theorem gX4_lending_X4_jar : GoodIn wsX4_lending (wsV RX4 117 RX4 yX4_jar wsX4_jar) := goodIn_app (goodIn_of _ (by decide +kernel)) ggX4_lending_X4_jar
set_option maxRecDepth 20000 in
theorem ggX4_lending_X4_lends : GoodIn wsX4_lending wsX4_lends := goodIn_r _ [40, 25, 21, 22, 23, 5, 24, 50, 51, 52, 53, 54, 55, 56, 57, 58, 59, 60, 61, 62, 63, 64, 65, 66, 67, 68, 69, 70, 71, 72] (by decide +kernel) (by decide +kernel)
set_option maxRecDepth 20000 in
theorem gX4_lending_X4_lends : GoodIn wsX4_lending (wsV RX4 159 RX4 yX4_lends wsX4_lends) := goodIn_app (goodIn_of _ (by decide +kernel)) ggX4_lending_X4_lends
set_option maxRecDepth 20000 in
theorem ggX4_lending_X4_backs : GoodIn wsX4_lending wsX4_backs := goodIn_r _ [44, 25, 36, 50, 51, 52, 53, 54, 55, 56, 57, 58, 59, 60, 61, 62, 63, 64, 65, 66, 67, 68, 69, 70, 71, 72] (by decide +kernel) (by decide +kernel)
set_option maxRecDepth 20000 in
theorem gX4_lending_X4_backs : GoodIn wsX4_lending (wsV RX4 184 RX4 yX4_backs wsX4_backs) := goodIn_app (goodIn_of _ (by decide +kernel)) ggX4_lending_X4_backs
set_option maxRecDepth 20000 in
theorem ggX4_lending_X4_tells : GoodIn wsX4_lending wsX4_tells := goodIn_r _ [48, 49, 50, 51, 52, 53, 54, 55, 56, 57, 58, 59, 60, 61, 62, 63, 64, 65, 66, 67, 68, 69, 70, 71, 72] (by decide +kernel) (by decide +kernel)
set_option maxRecDepth 20000 in
theorem gX4_lending_X4_tells : GoodIn wsX4_lending (wsV RX4 92 RX4 yX4_tells wsX4_tells) := goodIn_app (goodIn_of _ (by decide +kernel)) ggX4_lending_X4_tells
theorem dX4_lending_0 : decode cX4_lending 0 = .ok (.iload_n 1, 1) := by decide +kernel
theorem dX4_lending_1 : decode cX4_lending 1 = .ok (.i2l, 1) := by decide +kernel
theorem dX4_lending_2 : decode cX4_lending 2 = .ok (.lconst 1, 1) := by decide +kernel
theorem dX4_lending_3 : decode cX4_lending 3 = .ok (.ldc2_w 147, 3) := by decide +kernel
theorem dX4_lending_6 : decode cX4_lending 6 = .ok (.invokestatic 74, 3) := by decide +kernel
theorem dX4_lending_9 : decode cX4_lending 9 = .ok (.ifCond .ne 5, 3) := by decide +kernel
theorem dX4_lending_12 : decode cX4_lending 12 = .ok (.iconst (-1), 1) := by decide +kernel
theorem dX4_lending_13 : decode cX4_lending 13 = .ok (.ireturn, 1) := by decide +kernel
theorem dX4_lending_14 : decode cX4_lending 14 = .ok (.aload_n 0, 1) := by decide +kernel
theorem dX4_lending_15 : decode cX4_lending 15 = .ok (.getfield 111, 3) := by decide +kernel
theorem dX4_lending_18 : decode cX4_lending 18 = .ok (.ifCond .ne 6, 3) := by decide +kernel
theorem dX4_lending_21 : decode cX4_lending 21 = .ok (.bipush (-4), 2) := by decide +kernel
theorem dX4_lending_23 : decode cX4_lending 23 = .ok (.ireturn, 1) := by decide +kernel
theorem dX4_lending_24 : decode cX4_lending 24 = .ok (.bipush (-9), 2) := by decide +kernel
theorem dX4_lending_26 : decode cX4_lending 26 = .ok (.istore_n 2, 1) := by decide +kernel
theorem dX4_lending_27 : decode cX4_lending 27 = .ok (.aload_n 0, 1) := by decide +kernel
theorem dX4_lending_28 : decode cX4_lending 28 = .ok (.invokevirtual 169, 3) := by decide +kernel
theorem dX4_lending_31 : decode cX4_lending 31 = .ok (.invokestatic 172, 3) := by decide +kernel
theorem dX4_lending_34 : decode cX4_lending 34 = .ok (.istore_n 3, 1) := by decide +kernel
theorem dX4_lending_35 : decode cX4_lending 35 = .ok (.aload_n 0, 1) := by decide +kernel
theorem dX4_lending_36 : decode cX4_lending 36 = .ok (.invokevirtual 177, 3) := by decide +kernel
theorem dX4_lending_39 : decode cX4_lending 39 = .ok (.iconst 0, 1) := by decide +kernel
theorem dX4_lending_40 : decode cX4_lending 40 = .ok (.istore 4, 2) := by decide +kernel
theorem dX4_lending_42 : decode cX4_lending 42 = .ok (.iload 4, 2) := by decide +kernel
theorem dX4_lending_44 : decode cX4_lending 44 = .ok (.aload_n 0, 1) := by decide +kernel
theorem dX4_lending_45 : decode cX4_lending 45 = .ok (.getfield 111, 3) := by decide +kernel
theorem dX4_lending_48 : decode cX4_lending 48 = .ok (.if_icmp .ge 98, 3) := by decide +kernel
theorem dX4_lending_51 : decode cX4_lending 51 = .ok (.iconst 0, 1) := by decide +kernel
theorem dX4_lending_52 : decode cX4_lending 52 = .ok (.istore 5, 2) := by decide +kernel
theorem dX4_lending_54 : decode cX4_lending 54 = .ok (.iload 5, 2) := by decide +kernel
theorem dX4_lending_56 : decode cX4_lending 56 = .ok (.aload_n 0, 1) := by decide +kernel
theorem dX4_lending_57 : decode cX4_lending 57 = .ok (.getfield 111, 3) := by decide +kernel
theorem dX4_lending_60 : decode cX4_lending 60 = .ok (.if_icmp .ge 80, 3) := by decide +kernel
theorem dX4_lending_63 : decode cX4_lending 63 = .ok (.iload 4, 2) := by decide +kernel
theorem dX4_lending_65 : decode cX4_lending 65 = .ok (.iload 5, 2) := by decide +kernel
theorem dX4_lending_67 : decode cX4_lending 67 = .ok (.if_icmp .eq 67, 3) := by decide +kernel
theorem dX4_lending_70 : decode cX4_lending 70 = .ok (.aload_n 0, 1) := by decide +kernel
theorem dX4_lending_71 : decode cX4_lending 71 = .ok (.iload 4, 2) := by decide +kernel
theorem dX4_lending_73 : decode cX4_lending 73 = .ok (.invokevirtual 117, 3) := by decide +kernel
theorem dX4_lending_76 : decode cX4_lending 76 = .ok (.iload_n 1, 1) := by decide +kernel
theorem dX4_lending_77 : decode cX4_lending 77 = .ok (.if_icmp .lt 57, 3) := by decide +kernel
theorem dX4_lending_80 : decode cX4_lending 80 = .ok (.aload_n 0, 1) := by decide +kernel
theorem dX4_lending_81 : decode cX4_lending 81 = .ok (.iload 4, 2) := by decide +kernel
theorem dX4_lending_83 : decode cX4_lending 83 = .ok (.iload 5, 2) := by decide +kernel
theorem dX4_lending_85 : decode cX4_lending 85 = .ok (.iload_n 1, 1) := by decide +kernel
theorem dX4_lending_86 : decode cX4_lending 86 = .ok (.invokevirtual 159, 3) := by decide +kernel
theorem dX4_lending_89 : decode cX4_lending 89 = .ok (.aload_n 0, 1) := by decide +kernel
theorem dX4_lending_90 : decode cX4_lending 90 = .ok (.invokevirtual 169, 3) := by decide +kernel
theorem dX4_lending_93 : decode cX4_lending 93 = .ok (.invokestatic 172, 3) := by decide +kernel
theorem dX4_lending_96 : decode cX4_lending 96 = .ok (.istore 6, 2) := by decide +kernel
theorem dX4_lending_98 : decode cX4_lending 98 = .ok (.aload_n 0, 1) := by decide +kernel
theorem dX4_lending_99 : decode cX4_lending 99 = .ok (.invokevirtual 184, 3) := by decide +kernel
theorem dX4_lending_102 : decode cX4_lending 102 = .ok (.iload 6, 2) := by decide +kernel
theorem dX4_lending_104 : decode cX4_lending 104 = .ok (.iload_n 3, 1) := by decide +kernel
theorem dX4_lending_105 : decode cX4_lending 105 = .ok (.if_icmp .le 14, 3) := by decide +kernel
theorem dX4_lending_108 : decode cX4_lending 108 = .ok (.bipush 10, 2) := by decide +kernel
theorem dX4_lending_110 : decode cX4_lending 110 = .ok (.iload 4, 2) := by decide +kernel
theorem dX4_lending_112 : decode cX4_lending 112 = .ok (.imul, 1) := by decide +kernel
theorem dX4_lending_113 : decode cX4_lending 113 = .ok (.iload 5, 2) := by decide +kernel
theorem dX4_lending_115 : decode cX4_lending 115 = .ok (.iadd, 1) := by decide +kernel
theorem dX4_lending_116 : decode cX4_lending 116 = .ok (.goto 4, 3) := by decide +kernel
theorem dX4_lending_119 : decode cX4_lending 119 = .ok (.iload_n 2, 1) := by decide +kernel
theorem dX4_lending_120 : decode cX4_lending 120 = .ok (.istore_n 2, 1) := by decide +kernel
theorem dX4_lending_121 : decode cX4_lending 121 = .ok (.iload 6, 2) := by decide +kernel
theorem dX4_lending_123 : decode cX4_lending 123 = .ok (.iload_n 3, 1) := by decide +kernel
theorem dX4_lending_124 : decode cX4_lending 124 = .ok (.if_icmp .le 8, 3) := by decide +kernel
theorem dX4_lending_127 : decode cX4_lending 127 = .ok (.iload 6, 2) := by decide +kernel
theorem dX4_lending_129 : decode cX4_lending 129 = .ok (.goto 4, 3) := by decide +kernel
theorem dX4_lending_132 : decode cX4_lending 132 = .ok (.iload_n 3, 1) := by decide +kernel
theorem dX4_lending_133 : decode cX4_lending 133 = .ok (.istore_n 3, 1) := by decide +kernel
theorem dX4_lending_134 : decode cX4_lending 134 = .ok (.iinc 5 1, 3) := by decide +kernel
theorem dX4_lending_137 : decode cX4_lending 137 = .ok (.goto (-83), 3) := by decide +kernel
theorem dX4_lending_140 : decode cX4_lending 140 = .ok (.iinc 4 1, 3) := by decide +kernel
theorem dX4_lending_143 : decode cX4_lending 143 = .ok (.goto (-101), 3) := by decide +kernel
theorem dX4_lending_146 : decode cX4_lending 146 = .ok (.iload_n 2, 1) := by decide +kernel
theorem dX4_lending_147 : decode cX4_lending 147 = .ok (.bipush (-9), 2) := by decide +kernel
theorem dX4_lending_149 : decode cX4_lending 149 = .ok (.if_icmp .ne 8, 3) := by decide +kernel
theorem dX4_lending_152 : decode cX4_lending 152 = .ok (.bipush (-9), 2) := by decide +kernel
theorem dX4_lending_154 : decode cX4_lending 154 = .ok (.goto 9, 3) := by decide +kernel
theorem dX4_lending_157 : decode cX4_lending 157 = .ok (.aload_n 0, 1) := by decide +kernel
theorem dX4_lending_158 : decode cX4_lending 158 = .ok (.iload_n 2, 1) := by decide +kernel
theorem dX4_lending_159 : decode cX4_lending 159 = .ok (.iload_n 3, 1) := by decide +kernel
theorem dX4_lending_160 : decode cX4_lending 160 = .ok (.invokevirtual 92, 3) := by decide +kernel
theorem dX4_lending_163 : decode cX4_lending 163 = .ok (.ireturn, 1) := by decide +kernel
set_option maxRecDepth 20000 in
theorem ggX4_greedy_X4_in : GoodIn wsX4_greedy wsX4_in := goodIn_r _ [6] (by decide +kernel) (by decide +kernel)
set_option maxRecDepth 20000 in
theorem gX4_greedy_X4_in : GoodIn wsX4_greedy (va_wsS RX4 74 yX4_in wsX4_in) := goodIn_app (goodIn_of _ (by decide +kernel)) ggX4_greedy_X4_in
set_option maxRecDepth 20000 in
theorem ggX4_greedy_X4_jar : GoodIn wsX4_greedy wsX4_jar := goodIn_r _ [10, 11, 26, 27, 28, 29, 30, 31, 32, 33, 34, 35, 36, 37, 38, 39, 40, 41, 42, 43, 44, 45, 46, 47, 48] (by decide +kernel) (by decide +kernel)
set_option maxRecDepth 20000 in
theorem gX4_greedy_X4_jar : GoodIn wsX4_greedy (wsV RX4 117 RX4 yX4_jar wsX4_jar) := goodIn_app (goodIn_of _ (by decide +kernel)) ggX4_greedy_X4_jar
set_option maxRecDepth 20000 in
theorem ggX4_greedy_X4_broughtBy : GoodIn wsX4_greedy wsX4_broughtBy := goodIn_r _ [15, 11, 26, 27, 28, 29, 30, 31, 32, 33, 34, 35, 36, 37, 38, 39, 40, 41, 42, 43, 44, 45, 46, 47, 48] (by decide +kernel) (by decide +kernel)
set_option maxRecDepth 20000 in
theorem gX4_greedy_X4_broughtBy : GoodIn wsX4_greedy (wsV RX4 123 RX4 yX4_broughtBy wsX4_broughtBy) := goodIn_app (goodIn_of _ (by decide +kernel)) ggX4_greedy_X4_broughtBy
set_option maxRecDepth 20000 in
theorem ggX4_greedy_X4_brings : GoodIn wsX4_greedy wsX4_brings := goodIn_r _ [19, 20, 7, 8, 9, 5, 10, 11, 12, 13, 14, 15, 26, 27, 28, 29, 30, 31, 32, 33, 34, 35, 36, 37, 38, 39, 40, 41, 42, 43, 44, 45, 46, 47, 48] (by decide +kernel) (by decide +kernel)
set_option maxRecDepth 20000 in
theorem gX4_greedy_X4_brings : GoodIn wsX4_greedy (wsV RX4 129 RX4 yX4_brings wsX4_brings) := goodIn_app (goodIn_of _ (by decide +kernel)) ggX4_greedy_X4_brings
set_option maxRecDepth 20000 in
theorem ggX4_greedy_X4_tells : GoodIn wsX4_greedy wsX4_tells := goodIn_r _ [24, 25, 26, 27, 28, 29, 30, 31, 32, 33, 34, 35, 36, 37, 38, 39, 40, 41, 42, 43, 44, 45, 46, 47, 48] (by decide +kernel) (by decide +kernel)
set_option maxRecDepth 20000 in
theorem gX4_greedy_X4_tells : GoodIn wsX4_greedy (wsV RX4 92 RX4 yX4_tells wsX4_tells) := goodIn_app (goodIn_of _ (by decide +kernel)) ggX4_greedy_X4_tells
theorem dX4_greedy_0 : decode cX4_greedy 0 = .ok (.iload_n 1, 1) := by decide +kernel
theorem dX4_greedy_1 : decode cX4_greedy 1 = .ok (.i2l, 1) := by decide +kernel
theorem dX4_greedy_2 : decode cX4_greedy 2 = .ok (.lconst 0, 1) := by decide +kernel
theorem dX4_greedy_3 : decode cX4_greedy 3 = .ok (.ldc2_w 190, 3) := by decide +kernel
theorem dX4_greedy_6 : decode cX4_greedy 6 = .ok (.invokestatic 74, 3) := by decide +kernel
theorem dX4_greedy_9 : decode cX4_greedy 9 = .ok (.ifCond .ne 5, 3) := by decide +kernel
theorem dX4_greedy_12 : decode cX4_greedy 12 = .ok (.iconst (-1), 1) := by decide +kernel
theorem dX4_greedy_13 : decode cX4_greedy 13 = .ok (.ireturn, 1) := by decide +kernel
theorem dX4_greedy_14 : decode cX4_greedy 14 = .ok (.aload_n 0, 1) := by decide +kernel
theorem dX4_greedy_15 : decode cX4_greedy 15 = .ok (.getfield 111, 3) := by decide +kernel
theorem dX4_greedy_18 : decode cX4_greedy 18 = .ok (.ifCond .ne 6, 3) := by decide +kernel
theorem dX4_greedy_21 : decode cX4_greedy 21 = .ok (.bipush (-4), 2) := by decide +kernel
theorem dX4_greedy_23 : decode cX4_greedy 23 = .ok (.ireturn, 1) := by decide +kernel
theorem dX4_greedy_24 : decode cX4_greedy 24 = .ok (.iconst 0, 1) := by decide +kernel
theorem dX4_greedy_25 : decode cX4_greedy 25 = .ok (.istore_n 2, 1) := by decide +kernel
theorem dX4_greedy_26 : decode cX4_greedy 26 = .ok (.iconst 0, 1) := by decide +kernel
theorem dX4_greedy_27 : decode cX4_greedy 27 = .ok (.istore_n 3, 1) := by decide +kernel
theorem dX4_greedy_28 : decode cX4_greedy 28 = .ok (.iconst 0, 1) := by decide +kernel
theorem dX4_greedy_29 : decode cX4_greedy 29 = .ok (.istore 4, 2) := by decide +kernel
theorem dX4_greedy_31 : decode cX4_greedy 31 = .ok (.iload 4, 2) := by decide +kernel
theorem dX4_greedy_33 : decode cX4_greedy 33 = .ok (.iconst 1, 1) := by decide +kernel
theorem dX4_greedy_34 : decode cX4_greedy 34 = .ok (.aload_n 0, 1) := by decide +kernel
theorem dX4_greedy_35 : decode cX4_greedy 35 = .ok (.getfield 111, 3) := by decide +kernel
theorem dX4_greedy_38 : decode cX4_greedy 38 = .ok (.ishl, 1) := by decide +kernel
theorem dX4_greedy_39 : decode cX4_greedy 39 = .ok (.if_icmp .ge 97, 3) := by decide +kernel
theorem dX4_greedy_42 : decode cX4_greedy 42 = .ok (.iconst 0, 1) := by decide +kernel
theorem dX4_greedy_43 : decode cX4_greedy 43 = .ok (.istore 5, 2) := by decide +kernel
theorem dX4_greedy_45 : decode cX4_greedy 45 = .ok (.iconst 0, 1) := by decide +kernel
theorem dX4_greedy_46 : decode cX4_greedy 46 = .ok (.istore 6, 2) := by decide +kernel
theorem dX4_greedy_48 : decode cX4_greedy 48 = .ok (.iload 6, 2) := by decide +kernel
theorem dX4_greedy_50 : decode cX4_greedy 50 = .ok (.aload_n 0, 1) := by decide +kernel
theorem dX4_greedy_51 : decode cX4_greedy 51 = .ok (.getfield 111, 3) := by decide +kernel
theorem dX4_greedy_54 : decode cX4_greedy 54 = .ok (.if_icmp .ge 45, 3) := by decide +kernel
theorem dX4_greedy_57 : decode cX4_greedy 57 = .ok (.iload 5, 2) := by decide +kernel
theorem dX4_greedy_59 : decode cX4_greedy 59 = .ok (.iload 4, 2) := by decide +kernel
theorem dX4_greedy_61 : decode cX4_greedy 61 = .ok (.iload 6, 2) := by decide +kernel
theorem dX4_greedy_63 : decode cX4_greedy 63 = .ok (.ishr, 1) := by decide +kernel
theorem dX4_greedy_64 : decode cX4_greedy 64 = .ok (.iconst 1, 1) := by decide +kernel
theorem dX4_greedy_65 : decode cX4_greedy 65 = .ok (.iand, 1) := by decide +kernel
theorem dX4_greedy_66 : decode cX4_greedy 66 = .ok (.iconst 1, 1) := by decide +kernel
theorem dX4_greedy_67 : decode cX4_greedy 67 = .ok (.if_icmp .ne 17, 3) := by decide +kernel
theorem dX4_greedy_70 : decode cX4_greedy 70 = .ok (.aload_n 0, 1) := by decide +kernel
theorem dX4_greedy_71 : decode cX4_greedy 71 = .ok (.iconst 3, 1) := by decide +kernel
theorem dX4_greedy_72 : decode cX4_greedy 72 = .ok (.aload_n 0, 1) := by decide +kernel
theorem dX4_greedy_73 : decode cX4_greedy 73 = .ok (.iload 6, 2) := by decide +kernel
theorem dX4_greedy_75 : decode cX4_greedy 75 = .ok (.invokevirtual 117, 3) := by decide +kernel
theorem dX4_greedy_78 : decode cX4_greedy 78 = .ok (.invokevirtual 123, 3) := by decide +kernel
theorem dX4_greedy_81 : decode cX4_greedy 81 = .ok (.goto 9, 3) := by decide +kernel
theorem dX4_greedy_84 : decode cX4_greedy 84 = .ok (.aload_n 0, 1) := by decide +kernel
theorem dX4_greedy_85 : decode cX4_greedy 85 = .ok (.iload 6, 2) := by decide +kernel
theorem dX4_greedy_87 : decode cX4_greedy 87 = .ok (.invokevirtual 129, 3) := by decide +kernel
theorem dX4_greedy_90 : decode cX4_greedy 90 = .ok (.iadd, 1) := by decide +kernel
theorem dX4_greedy_91 : decode cX4_greedy 91 = .ok (.istore 5, 2) := by decide +kernel
theorem dX4_greedy_93 : decode cX4_greedy 93 = .ok (.iinc 6 1, 3) := by decide +kernel
theorem dX4_greedy_96 : decode cX4_greedy 96 = .ok (.goto (-48), 3) := by decide +kernel
theorem dX4_greedy_99 : decode cX4_greedy 99 = .ok (.iload 5, 2) := by decide +kernel
theorem dX4_greedy_101 : decode cX4_greedy 101 = .ok (.iload_n 1, 1) := by decide +kernel
theorem dX4_greedy_102 : decode cX4_greedy 102 = .ok (.if_icmp .ne 12, 3) := by decide +kernel
theorem dX4_greedy_105 : decode cX4_greedy 105 = .ok (.iload_n 2, 1) := by decide +kernel
theorem dX4_greedy_106 : decode cX4_greedy 106 = .ok (.ifCond .ne 8, 3) := by decide +kernel
theorem dX4_greedy_109 : decode cX4_greedy 109 = .ok (.iload 4, 2) := by decide +kernel
theorem dX4_greedy_111 : decode cX4_greedy 111 = .ok (.goto 4, 3) := by decide +kernel
theorem dX4_greedy_114 : decode cX4_greedy 114 = .ok (.iload_n 3, 1) := by decide +kernel
theorem dX4_greedy_115 : decode cX4_greedy 115 = .ok (.istore_n 3, 1) := by decide +kernel
theorem dX4_greedy_116 : decode cX4_greedy 116 = .ok (.iload_n 2, 1) := by decide +kernel
theorem dX4_greedy_117 : decode cX4_greedy 117 = .ok (.iload 5, 2) := by decide +kernel
theorem dX4_greedy_119 : decode cX4_greedy 119 = .ok (.iload_n 1, 1) := by decide +kernel
theorem dX4_greedy_120 : decode cX4_greedy 120 = .ok (.if_icmp .ne 7, 3) := by decide +kernel
theorem dX4_greedy_123 : decode cX4_greedy 123 = .ok (.iconst 1, 1) := by decide +kernel
theorem dX4_greedy_124 : decode cX4_greedy 124 = .ok (.goto 4, 3) := by decide +kernel
theorem dX4_greedy_127 : decode cX4_greedy 127 = .ok (.iconst 0, 1) := by decide +kernel
theorem dX4_greedy_128 : decode cX4_greedy 128 = .ok (.iadd, 1) := by decide +kernel
theorem dX4_greedy_129 : decode cX4_greedy 129 = .ok (.istore_n 2, 1) := by decide +kernel
theorem dX4_greedy_130 : decode cX4_greedy 130 = .ok (.iinc 4 1, 3) := by decide +kernel
theorem dX4_greedy_133 : decode cX4_greedy 133 = .ok (.goto (-102), 3) := by decide +kernel
theorem dX4_greedy_136 : decode cX4_greedy 136 = .ok (.iload_n 2, 1) := by decide +kernel
theorem dX4_greedy_137 : decode cX4_greedy 137 = .ok (.ifCond .ne 8, 3) := by decide +kernel
theorem dX4_greedy_140 : decode cX4_greedy 140 = .ok (.bipush (-9), 2) := by decide +kernel
theorem dX4_greedy_142 : decode cX4_greedy 142 = .ok (.goto 9, 3) := by decide +kernel
theorem dX4_greedy_145 : decode cX4_greedy 145 = .ok (.aload_n 0, 1) := by decide +kernel
theorem dX4_greedy_146 : decode cX4_greedy 146 = .ok (.iload_n 2, 1) := by decide +kernel
theorem dX4_greedy_147 : decode cX4_greedy 147 = .ok (.iload_n 3, 1) := by decide +kernel
theorem dX4_greedy_148 : decode cX4_greedy 148 = .ok (.invokevirtual 92, 3) := by decide +kernel
theorem dX4_greedy_151 : decode cX4_greedy 151 = .ok (.ireturn, 1) := by decide +kernel
set_option maxRecDepth 20000 in
theorem ggX4_whyPairs_X4_isHouse : GoodIn wsX4_whyPairs wsX4_isHouse := goodIn_r _ [9, 10, 11, 12, 8, 13, 24, 25, 26, 27, 28, 29, 30, 31, 32, 33, 34, 35, 36, 37, 38, 39, 40, 41, 42, 43, 44, 45, 46] (by decide +kernel) (by decide +kernel)
set_option maxRecDepth 20000 in
theorem gX4_whyPairs_X4_isHouse : GoodIn wsX4_whyPairs (wsV RX4 135 RX4 yX4_isHouse wsX4_isHouse) := goodIn_app (goodIn_of _ (by decide +kernel)) ggX4_whyPairs_X4_isHouse
set_option maxRecDepth 20000 in
theorem ggX4_whyPairs_X4_isRow : GoodIn wsX4_whyPairs wsX4_isRow := goodIn_r _ [16, 17, 11, 12, 8, 13] (by decide +kernel) (by decide +kernel)
set_option maxRecDepth 20000 in
theorem gX4_whyPairs_X4_isRow : GoodIn wsX4_whyPairs (va_wsS RX4 80 yX4_isRow wsX4_isRow) := goodIn_app (goodIn_of _ (by decide +kernel)) ggX4_whyPairs_X4_isRow
set_option maxRecDepth 20000 in
theorem ggX4_whyPairs_X4_finds : GoodIn wsX4_whyPairs wsX4_finds := goodIn_r _ [21, 22, 23, 24, 25, 26, 27, 28, 29, 30, 31, 32, 33, 34, 35, 36, 37, 38, 39, 40, 41, 42, 43, 44, 45, 46] (by decide +kernel) (by decide +kernel)
set_option maxRecDepth 20000 in
theorem gX4_whyPairs_X4_finds : GoodIn wsX4_whyPairs (wsV RX4 84 RX4 yX4_finds wsX4_finds) := goodIn_app (goodIn_of _ (by decide +kernel)) ggX4_whyPairs_X4_finds
set_option maxRecDepth 20000 in
theorem ggX4_whyPairs_X4_in : GoodIn wsX4_whyPairs wsX4_in := goodIn_r _ [13] (by decide +kernel) (by decide +kernel)
set_option maxRecDepth 20000 in
theorem gX4_whyPairs_X4_in : GoodIn wsX4_whyPairs (va_wsS RX4 74 yX4_in wsX4_in) := goodIn_app (goodIn_of _ (by decide +kernel)) ggX4_whyPairs_X4_in
theorem dX4_whyPairs_0 : decode cX4_whyPairs 0 = .ok (.aload_n 0, 1) := by decide +kernel
theorem dX4_whyPairs_1 : decode cX4_whyPairs 1 = .ok (.iload_n 1, 1) := by decide +kernel
theorem dX4_whyPairs_2 : decode cX4_whyPairs 2 = .ok (.invokevirtual 135, 3) := by decide +kernel
theorem dX4_whyPairs_5 : decode cX4_whyPairs 5 = .ok (.ifCond .eq 10, 3) := by decide +kernel
theorem dX4_whyPairs_8 : decode cX4_whyPairs 8 = .ok (.iload_n 2, 1) := by decide +kernel
theorem dX4_whyPairs_9 : decode cX4_whyPairs 9 = .ok (.invokestatic 80, 3) := by decide +kernel
theorem dX4_whyPairs_12 : decode cX4_whyPairs 12 = .ok (.ifCond .ne 5, 3) := by decide +kernel
theorem dX4_whyPairs_15 : decode cX4_whyPairs 15 = .ok (.iconst (-1), 1) := by decide +kernel
theorem dX4_whyPairs_16 : decode cX4_whyPairs 16 = .ok (.ireturn, 1) := by decide +kernel
theorem dX4_whyPairs_17 : decode cX4_whyPairs 17 = .ok (.aload_n 0, 1) := by decide +kernel
theorem dX4_whyPairs_18 : decode cX4_whyPairs 18 = .ok (.getfield 17, 3) := by decide +kernel
theorem dX4_whyPairs_21 : decode cX4_whyPairs 21 = .ok (.iload_n 2, 1) := by decide +kernel
theorem dX4_whyPairs_22 : decode cX4_whyPairs 22 = .ok (.iaload, 1) := by decide +kernel
theorem dX4_whyPairs_23 : decode cX4_whyPairs 23 = .ok (.ifCond .ge 9, 3) := by decide +kernel
theorem dX4_whyPairs_26 : decode cX4_whyPairs 26 = .ok (.aload_n 0, 1) := by decide +kernel
theorem dX4_whyPairs_27 : decode cX4_whyPairs 27 = .ok (.iconst 1, 1) := by decide +kernel
theorem dX4_whyPairs_28 : decode cX4_whyPairs 28 = .ok (.invokevirtual 84, 3) := by decide +kernel
theorem dX4_whyPairs_31 : decode cX4_whyPairs 31 = .ok (.ireturn, 1) := by decide +kernel
theorem dX4_whyPairs_32 : decode cX4_whyPairs 32 = .ok (.aload_n 0, 1) := by decide +kernel
theorem dX4_whyPairs_33 : decode cX4_whyPairs 33 = .ok (.getfield 17, 3) := by decide +kernel
theorem dX4_whyPairs_36 : decode cX4_whyPairs 36 = .ok (.iload_n 2, 1) := by decide +kernel
theorem dX4_whyPairs_37 : decode cX4_whyPairs 37 = .ok (.iaload, 1) := by decide +kernel
theorem dX4_whyPairs_38 : decode cX4_whyPairs 38 = .ok (.iconst 2, 1) := by decide +kernel
theorem dX4_whyPairs_39 : decode cX4_whyPairs 39 = .ok (.irem, 1) := by decide +kernel
theorem dX4_whyPairs_40 : decode cX4_whyPairs 40 = .ok (.iconst 1, 1) := by decide +kernel
theorem dX4_whyPairs_41 : decode cX4_whyPairs 41 = .ok (.if_icmp .ne 9, 3) := by decide +kernel
theorem dX4_whyPairs_44 : decode cX4_whyPairs 44 = .ok (.aload_n 0, 1) := by decide +kernel
theorem dX4_whyPairs_45 : decode cX4_whyPairs 45 = .ok (.iconst 5, 1) := by decide +kernel
theorem dX4_whyPairs_46 : decode cX4_whyPairs 46 = .ok (.invokevirtual 84, 3) := by decide +kernel
theorem dX4_whyPairs_49 : decode cX4_whyPairs 49 = .ok (.ireturn, 1) := by decide +kernel
theorem dX4_whyPairs_50 : decode cX4_whyPairs 50 = .ok (.iconst 0, 1) := by decide +kernel
theorem dX4_whyPairs_51 : decode cX4_whyPairs 51 = .ok (.istore_n 3, 1) := by decide +kernel
theorem dX4_whyPairs_52 : decode cX4_whyPairs 52 = .ok (.iload_n 3, 1) := by decide +kernel
theorem dX4_whyPairs_53 : decode cX4_whyPairs 53 = .ok (.aload_n 0, 1) := by decide +kernel
theorem dX4_whyPairs_54 : decode cX4_whyPairs 54 = .ok (.getfield 17, 3) := by decide +kernel
theorem dX4_whyPairs_57 : decode cX4_whyPairs 57 = .ok (.iload_n 2, 1) := by decide +kernel
theorem dX4_whyPairs_58 : decode cX4_whyPairs 58 = .ok (.iaload, 1) := by decide +kernel
theorem dX4_whyPairs_59 : decode cX4_whyPairs 59 = .ok (.if_icmp .ge 49, 3) := by decide +kernel
theorem dX4_whyPairs_62 : decode cX4_whyPairs 62 = .ok (.aload_n 0, 1) := by decide +kernel
theorem dX4_whyPairs_63 : decode cX4_whyPairs 63 = .ok (.getfield 20, 3) := by decide +kernel
theorem dX4_whyPairs_66 : decode cX4_whyPairs 66 = .ok (.bipush 40, 2) := by decide +kernel
theorem dX4_whyPairs_68 : decode cX4_whyPairs 68 = .ok (.iload_n 2, 1) := by decide +kernel
theorem dX4_whyPairs_69 : decode cX4_whyPairs 69 = .ok (.imul, 1) := by decide +kernel
theorem dX4_whyPairs_70 : decode cX4_whyPairs 70 = .ok (.iload_n 3, 1) := by decide +kernel
theorem dX4_whyPairs_71 : decode cX4_whyPairs 71 = .ok (.iadd, 1) := by decide +kernel
theorem dX4_whyPairs_72 : decode cX4_whyPairs 72 = .ok (.iaload, 1) := by decide +kernel
theorem dX4_whyPairs_73 : decode cX4_whyPairs 73 = .ok (.i2l, 1) := by decide +kernel
theorem dX4_whyPairs_74 : decode cX4_whyPairs 74 = .ok (.lconst 0, 1) := by decide +kernel
theorem dX4_whyPairs_75 : decode cX4_whyPairs 75 = .ok (.iload_n 3, 1) := by decide +kernel
theorem dX4_whyPairs_76 : decode cX4_whyPairs 76 = .ok (.iconst 2, 1) := by decide +kernel
theorem dX4_whyPairs_77 : decode cX4_whyPairs 77 = .ok (.irem, 1) := by decide +kernel
theorem dX4_whyPairs_78 : decode cX4_whyPairs 78 = .ok (.ifCond .ne 9, 3) := by decide +kernel
theorem dX4_whyPairs_81 : decode cX4_whyPairs 81 = .ok (.ldc2_w 147, 3) := by decide +kernel
theorem dX4_whyPairs_84 : decode cX4_whyPairs 84 = .ok (.goto 6, 3) := by decide +kernel
theorem dX4_whyPairs_87 : decode cX4_whyPairs 87 = .ok (.ldc2_w 192, 3) := by decide +kernel
theorem dX4_whyPairs_90 : decode cX4_whyPairs 90 = .ok (.invokestatic 74, 3) := by decide +kernel
theorem dX4_whyPairs_93 : decode cX4_whyPairs 93 = .ok (.ifCond .ne 9, 3) := by decide +kernel
theorem dX4_whyPairs_96 : decode cX4_whyPairs 96 = .ok (.aload_n 0, 1) := by decide +kernel
theorem dX4_whyPairs_97 : decode cX4_whyPairs 97 = .ok (.iconst 3, 1) := by decide +kernel
theorem dX4_whyPairs_98 : decode cX4_whyPairs 98 = .ok (.invokevirtual 84, 3) := by decide +kernel
theorem dX4_whyPairs_101 : decode cX4_whyPairs 101 = .ok (.ireturn, 1) := by decide +kernel
theorem dX4_whyPairs_102 : decode cX4_whyPairs 102 = .ok (.iinc 3 1, 3) := by decide +kernel
theorem dX4_whyPairs_105 : decode cX4_whyPairs 105 = .ok (.goto (-53), 3) := by decide +kernel
theorem dX4_whyPairs_108 : decode cX4_whyPairs 108 = .ok (.iconst 0, 1) := by decide +kernel
theorem dX4_whyPairs_109 : decode cX4_whyPairs 109 = .ok (.ireturn, 1) := by decide +kernel
set_option maxRecDepth 20000 in
theorem ggX4_kindsBy_X4_worthTo : GoodIn wsX4_kindsBy wsX4_worthTo := goodIn_r _ [6] (by decide +kernel) (by decide +kernel)
set_option maxRecDepth 20000 in
theorem gX4_kindsBy_X4_worthTo : GoodIn wsX4_kindsBy (va_wsS RX4 120 yX4_worthTo wsX4_worthTo) := goodIn_app (goodIn_of _ (by decide +kernel)) ggX4_kindsBy_X4_worthTo
theorem dX4_kindsBy_0 : decode cX4_kindsBy 0 = .ok (.iconst 0, 1) := by decide +kernel
theorem dX4_kindsBy_1 : decode cX4_kindsBy 1 = .ok (.istore_n 2, 1) := by decide +kernel
theorem dX4_kindsBy_2 : decode cX4_kindsBy 2 = .ok (.iconst 0, 1) := by decide +kernel
theorem dX4_kindsBy_3 : decode cX4_kindsBy 3 = .ok (.istore_n 3, 1) := by decide +kernel
theorem dX4_kindsBy_4 : decode cX4_kindsBy 4 = .ok (.iload_n 3, 1) := by decide +kernel
theorem dX4_kindsBy_5 : decode cX4_kindsBy 5 = .ok (.bipush 6, 2) := by decide +kernel
theorem dX4_kindsBy_7 : decode cX4_kindsBy 7 = .ok (.if_icmp .ge 92, 3) := by decide +kernel
theorem dX4_kindsBy_10 : decode cX4_kindsBy 10 = .ok (.iconst 1, 1) := by decide +kernel
theorem dX4_kindsBy_11 : decode cX4_kindsBy 11 = .ok (.istore 4, 2) := by decide +kernel
theorem dX4_kindsBy_13 : decode cX4_kindsBy 13 = .ok (.iconst 0, 1) := by decide +kernel
theorem dX4_kindsBy_14 : decode cX4_kindsBy 14 = .ok (.istore 5, 2) := by decide +kernel
theorem dX4_kindsBy_16 : decode cX4_kindsBy 16 = .ok (.iload 5, 2) := by decide +kernel
theorem dX4_kindsBy_18 : decode cX4_kindsBy 18 = .ok (.aload_n 0, 1) := by decide +kernel
theorem dX4_kindsBy_19 : decode cX4_kindsBy 19 = .ok (.getfield 17, 3) := by decide +kernel
theorem dX4_kindsBy_22 : decode cX4_kindsBy 22 = .ok (.iload_n 1, 1) := by decide +kernel
theorem dX4_kindsBy_23 : decode cX4_kindsBy 23 = .ok (.iaload, 1) := by decide +kernel
theorem dX4_kindsBy_24 : decode cX4_kindsBy 24 = .ok (.if_icmp .ge 54, 3) := by decide +kernel
theorem dX4_kindsBy_27 : decode cX4_kindsBy 27 = .ok (.iload 4, 2) := by decide +kernel
theorem dX4_kindsBy_29 : decode cX4_kindsBy 29 = .ok (.ifCond .eq 40, 3) := by decide +kernel
theorem dX4_kindsBy_32 : decode cX4_kindsBy 32 = .ok (.iload_n 3, 1) := by decide +kernel
theorem dX4_kindsBy_33 : decode cX4_kindsBy 33 = .ok (.aload_n 0, 1) := by decide +kernel
theorem dX4_kindsBy_34 : decode cX4_kindsBy 34 = .ok (.getfield 20, 3) := by decide +kernel
theorem dX4_kindsBy_37 : decode cX4_kindsBy 37 = .ok (.bipush 40, 2) := by decide +kernel
theorem dX4_kindsBy_39 : decode cX4_kindsBy 39 = .ok (.iload_n 1, 1) := by decide +kernel
theorem dX4_kindsBy_40 : decode cX4_kindsBy 40 = .ok (.imul, 1) := by decide +kernel
theorem dX4_kindsBy_41 : decode cX4_kindsBy 41 = .ok (.iload 5, 2) := by decide +kernel
theorem dX4_kindsBy_43 : decode cX4_kindsBy 43 = .ok (.iadd, 1) := by decide +kernel
theorem dX4_kindsBy_44 : decode cX4_kindsBy 44 = .ok (.iaload, 1) := by decide +kernel
theorem dX4_kindsBy_45 : decode cX4_kindsBy 45 = .ok (.invokestatic 120, 3) := by decide +kernel
theorem dX4_kindsBy_48 : decode cX4_kindsBy 48 = .ok (.aload_n 0, 1) := by decide +kernel
theorem dX4_kindsBy_49 : decode cX4_kindsBy 49 = .ok (.getfield 20, 3) := by decide +kernel
theorem dX4_kindsBy_52 : decode cX4_kindsBy 52 = .ok (.bipush 40, 2) := by decide +kernel
theorem dX4_kindsBy_54 : decode cX4_kindsBy 54 = .ok (.iload_n 1, 1) := by decide +kernel
theorem dX4_kindsBy_55 : decode cX4_kindsBy 55 = .ok (.imul, 1) := by decide +kernel
theorem dX4_kindsBy_56 : decode cX4_kindsBy 56 = .ok (.iload 5, 2) := by decide +kernel
theorem dX4_kindsBy_58 : decode cX4_kindsBy 58 = .ok (.iadd, 1) := by decide +kernel
theorem dX4_kindsBy_59 : decode cX4_kindsBy 59 = .ok (.iconst 1, 1) := by decide +kernel
theorem dX4_kindsBy_60 : decode cX4_kindsBy 60 = .ok (.iadd, 1) := by decide +kernel
theorem dX4_kindsBy_61 : decode cX4_kindsBy 61 = .ok (.iaload, 1) := by decide +kernel
theorem dX4_kindsBy_62 : decode cX4_kindsBy 62 = .ok (.if_icmp .ne 7, 3) := by decide +kernel
theorem dX4_kindsBy_65 : decode cX4_kindsBy 65 = .ok (.iconst 1, 1) := by decide +kernel
theorem dX4_kindsBy_66 : decode cX4_kindsBy 66 = .ok (.goto 4, 3) := by decide +kernel
theorem dX4_kindsBy_69 : decode cX4_kindsBy 69 = .ok (.iconst 0, 1) := by decide +kernel
theorem dX4_kindsBy_70 : decode cX4_kindsBy 70 = .ok (.istore 4, 2) := by decide +kernel
theorem dX4_kindsBy_72 : decode cX4_kindsBy 72 = .ok (.iinc 5 2, 3) := by decide +kernel
theorem dX4_kindsBy_75 : decode cX4_kindsBy 75 = .ok (.goto (-59), 3) := by decide +kernel
theorem dX4_kindsBy_78 : decode cX4_kindsBy 78 = .ok (.iload_n 2, 1) := by decide +kernel
theorem dX4_kindsBy_79 : decode cX4_kindsBy 79 = .ok (.iload 4, 2) := by decide +kernel
theorem dX4_kindsBy_81 : decode cX4_kindsBy 81 = .ok (.ifCond .eq 9, 3) := by decide +kernel
theorem dX4_kindsBy_84 : decode cX4_kindsBy 84 = .ok (.iconst 1, 1) := by decide +kernel
theorem dX4_kindsBy_85 : decode cX4_kindsBy 85 = .ok (.iload_n 3, 1) := by decide +kernel
theorem dX4_kindsBy_86 : decode cX4_kindsBy 86 = .ok (.ishl, 1) := by decide +kernel
theorem dX4_kindsBy_87 : decode cX4_kindsBy 87 = .ok (.goto 4, 3) := by decide +kernel
theorem dX4_kindsBy_90 : decode cX4_kindsBy 90 = .ok (.iconst 0, 1) := by decide +kernel
theorem dX4_kindsBy_91 : decode cX4_kindsBy 91 = .ok (.ior, 1) := by decide +kernel
theorem dX4_kindsBy_92 : decode cX4_kindsBy 92 = .ok (.istore_n 2, 1) := by decide +kernel
theorem dX4_kindsBy_93 : decode cX4_kindsBy 93 = .ok (.iinc 3 1, 3) := by decide +kernel
theorem dX4_kindsBy_96 : decode cX4_kindsBy 96 = .ok (.goto (-92), 3) := by decide +kernel
theorem dX4_kindsBy_99 : decode cX4_kindsBy 99 = .ok (.iload_n 2, 1) := by decide +kernel
theorem dX4_kindsBy_100 : decode cX4_kindsBy 100 = .ok (.ireturn, 1) := by decide +kernel
set_option maxRecDepth 20000 in
theorem ggX4_kinds_X4_whyPairs : GoodIn wsX4_kinds wsX4_whyPairs := goodIn_r _ [5, 6, 7, 8, 9, 10, 11, 12, 4, 13, 14, 15, 16, 17, 18, 19, 20, 21, 22, 23, 24, 25, 26, 27, 35, 36, 37, 38, 39, 40, 41, 42, 43, 44, 45, 46, 47, 48, 49, 50, 51, 52, 53, 54, 55, 56, 57] (by decide +kernel) (by decide +kernel)
set_option maxRecDepth 20000 in
theorem gX4_kinds_X4_whyPairs : GoodIn wsX4_kinds (wsV RX4 194 RX4 yX4_whyPairs wsX4_whyPairs) := goodIn_app (goodIn_of _ (by decide +kernel)) ggX4_kinds_X4_whyPairs
set_option maxRecDepth 20000 in
theorem ggX4_kinds_X4_kindsBy : GoodIn wsX4_kinds wsX4_kindsBy := goodIn_r _ [31, 6, 7, 32, 33, 4, 34, 35, 36, 37, 38, 39, 40, 41, 42, 43, 44, 45, 46, 47, 48, 49, 50, 51, 52, 53, 54, 55, 56, 57] (by decide +kernel) (by decide +kernel)
set_option maxRecDepth 20000 in
theorem gX4_kinds_X4_kindsBy : GoodIn wsX4_kinds (wsV RX4 197 RX4 yX4_kindsBy wsX4_kindsBy) := goodIn_app (goodIn_of _ (by decide +kernel)) ggX4_kinds_X4_kindsBy
theorem dX4_kinds_0 : decode cX4_kinds 0 = .ok (.aload_n 0, 1) := by decide +kernel
theorem dX4_kinds_1 : decode cX4_kinds 1 = .ok (.iload_n 1, 1) := by decide +kernel
theorem dX4_kinds_2 : decode cX4_kinds 2 = .ok (.iload_n 2, 1) := by decide +kernel
theorem dX4_kinds_3 : decode cX4_kinds 3 = .ok (.invokevirtual 194, 3) := by decide +kernel
theorem dX4_kinds_6 : decode cX4_kinds 6 = .ok (.istore_n 3, 1) := by decide +kernel
theorem dX4_kinds_7 : decode cX4_kinds 7 = .ok (.iload_n 3, 1) := by decide +kernel
theorem dX4_kinds_8 : decode cX4_kinds 8 = .ok (.ifCond .ge 7, 3) := by decide +kernel
theorem dX4_kinds_11 : decode cX4_kinds 11 = .ok (.iload_n 3, 1) := by decide +kernel
theorem dX4_kinds_12 : decode cX4_kinds 12 = .ok (.goto 8, 3) := by decide +kernel
theorem dX4_kinds_15 : decode cX4_kinds 15 = .ok (.aload_n 0, 1) := by decide +kernel
theorem dX4_kinds_16 : decode cX4_kinds 16 = .ok (.iload_n 2, 1) := by decide +kernel
theorem dX4_kinds_17 : decode cX4_kinds 17 = .ok (.invokevirtual 197, 3) := by decide +kernel
theorem dX4_kinds_20 : decode cX4_kinds 20 = .ok (.ireturn, 1) := by decide +kernel
set_option maxRecDepth 20000 in
theorem ggX4_test_X4_whyPairs : GoodIn wsX4_test wsX4_whyPairs := goodIn_r _ [5, 6, 7, 8, 9, 10, 11, 12, 4, 13, 14, 15, 16, 17, 18, 19, 20, 21, 22, 23, 24, 25, 26, 27, 40, 41, 42, 43, 44, 45, 46, 47, 48, 49, 50, 51, 52, 53, 54, 55, 56, 57, 58, 59, 60, 61, 62] (by decide +kernel) (by decide +kernel)
set_option maxRecDepth 20000 in
theorem gX4_test_X4_whyPairs : GoodIn wsX4_test (wsV RX4 194 RX4 yX4_whyPairs wsX4_whyPairs) := goodIn_app (goodIn_of _ (by decide +kernel)) ggX4_test_X4_whyPairs
set_option maxRecDepth 20000 in
theorem ggX4_test_X4_kindsBy : GoodIn wsX4_test wsX4_kindsBy := goodIn_r _ [31, 6, 7, 32, 33, 4, 34, 40, 41, 42, 43, 44, 45, 46, 47, 48, 49, 50, 51, 52, 53, 54, 55, 56, 57, 58, 59, 60, 61, 62] (by decide +kernel) (by decide +kernel)
set_option maxRecDepth 20000 in
theorem gX4_test_X4_kindsBy : GoodIn wsX4_test (wsV RX4 197 RX4 yX4_kindsBy wsX4_kindsBy) := goodIn_app (goodIn_of _ (by decide +kernel)) ggX4_test_X4_kindsBy
set_option maxRecDepth 20000 in
theorem ggX4_test_X4_worthTo : GoodIn wsX4_test wsX4_worthTo := goodIn_r _ [34] (by decide +kernel) (by decide +kernel)
set_option maxRecDepth 20000 in
theorem gX4_test_X4_worthTo : GoodIn wsX4_test (va_wsS RX4 120 yX4_worthTo wsX4_worthTo) := goodIn_app (goodIn_of _ (by decide +kernel)) ggX4_test_X4_worthTo
set_option maxRecDepth 20000 in
theorem ggX4_test_X4_tells : GoodIn wsX4_test wsX4_tells := goodIn_r _ [38, 39, 40, 41, 42, 43, 44, 45, 46, 47, 48, 49, 50, 51, 52, 53, 54, 55, 56, 57, 58, 59, 60, 61, 62] (by decide +kernel) (by decide +kernel)
set_option maxRecDepth 20000 in
theorem gX4_test_X4_tells : GoodIn wsX4_test (wsV RX4 92 RX4 yX4_tells wsX4_tells) := goodIn_app (goodIn_of _ (by decide +kernel)) ggX4_test_X4_tells
theorem dX4_test_0 : decode cX4_test 0 = .ok (.aload_n 0, 1) := by decide +kernel
theorem dX4_test_1 : decode cX4_test 1 = .ok (.iload_n 1, 1) := by decide +kernel
theorem dX4_test_2 : decode cX4_test 2 = .ok (.iload_n 2, 1) := by decide +kernel
theorem dX4_test_3 : decode cX4_test 3 = .ok (.invokevirtual 194, 3) := by decide +kernel
theorem dX4_test_6 : decode cX4_test 6 = .ok (.istore_n 3, 1) := by decide +kernel
theorem dX4_test_7 : decode cX4_test 7 = .ok (.iload_n 3, 1) := by decide +kernel
theorem dX4_test_8 : decode cX4_test 8 = .ok (.ifCond .ge 5, 3) := by decide +kernel
theorem dX4_test_11 : decode cX4_test 11 = .ok (.iload_n 3, 1) := by decide +kernel
theorem dX4_test_12 : decode cX4_test 12 = .ok (.ireturn, 1) := by decide +kernel
theorem dX4_test_13 : decode cX4_test 13 = .ok (.aload_n 0, 1) := by decide +kernel
theorem dX4_test_14 : decode cX4_test 14 = .ok (.iload_n 2, 1) := by decide +kernel
theorem dX4_test_15 : decode cX4_test 15 = .ok (.invokevirtual 197, 3) := by decide +kernel
theorem dX4_test_18 : decode cX4_test 18 = .ok (.istore 4, 2) := by decide +kernel
theorem dX4_test_20 : decode cX4_test 20 = .ok (.iload 4, 2) := by decide +kernel
theorem dX4_test_22 : decode cX4_test 22 = .ok (.ifCond .ne 6, 3) := by decide +kernel
theorem dX4_test_25 : decode cX4_test 25 = .ok (.bipush (-9), 2) := by decide +kernel
theorem dX4_test_27 : decode cX4_test 27 = .ok (.ireturn, 1) := by decide +kernel
theorem dX4_test_28 : decode cX4_test 28 = .ok (.iconst 0, 1) := by decide +kernel
theorem dX4_test_29 : decode cX4_test 29 = .ok (.istore 5, 2) := by decide +kernel
theorem dX4_test_31 : decode cX4_test 31 = .ok (.bipush 99, 2) := by decide +kernel
theorem dX4_test_33 : decode cX4_test 33 = .ok (.istore 6, 2) := by decide +kernel
theorem dX4_test_35 : decode cX4_test 35 = .ok (.iconst 0, 1) := by decide +kernel
theorem dX4_test_36 : decode cX4_test 36 = .ok (.istore 7, 2) := by decide +kernel
theorem dX4_test_38 : decode cX4_test 38 = .ok (.iload 7, 2) := by decide +kernel
theorem dX4_test_40 : decode cX4_test 40 = .ok (.bipush 100, 2) := by decide +kernel
theorem dX4_test_42 : decode cX4_test 42 = .ok (.if_icmp .ge 156, 3) := by decide +kernel
theorem dX4_test_45 : decode cX4_test 45 = .ok (.iconst 0, 1) := by decide +kernel
theorem dX4_test_46 : decode cX4_test 46 = .ok (.istore 8, 2) := by decide +kernel
theorem dX4_test_48 : decode cX4_test 48 = .ok (.iconst 0, 1) := by decide +kernel
theorem dX4_test_49 : decode cX4_test 49 = .ok (.istore 9, 2) := by decide +kernel
theorem dX4_test_51 : decode cX4_test 51 = .ok (.iload 9, 2) := by decide +kernel
theorem dX4_test_53 : decode cX4_test 53 = .ok (.bipush 6, 2) := by decide +kernel
theorem dX4_test_55 : decode cX4_test 55 = .ok (.if_icmp .ge 105, 3) := by decide +kernel
theorem dX4_test_58 : decode cX4_test 58 = .ok (.iconst 0, 1) := by decide +kernel
theorem dX4_test_59 : decode cX4_test 59 = .ok (.istore 10, 2) := by decide +kernel
theorem dX4_test_61 : decode cX4_test 61 = .ok (.iconst 0, 1) := by decide +kernel
theorem dX4_test_62 : decode cX4_test 62 = .ok (.istore 11, 2) := by decide +kernel
theorem dX4_test_64 : decode cX4_test 64 = .ok (.iload 11, 2) := by decide +kernel
theorem dX4_test_66 : decode cX4_test 66 = .ok (.bipush 6, 2) := by decide +kernel
theorem dX4_test_68 : decode cX4_test 68 = .ok (.if_icmp .ge 70, 3) := by decide +kernel
theorem dX4_test_71 : decode cX4_test 71 = .ok (.iload 4, 2) := by decide +kernel
theorem dX4_test_73 : decode cX4_test 73 = .ok (.iload 9, 2) := by decide +kernel
theorem dX4_test_75 : decode cX4_test 75 = .ok (.ishr, 1) := by decide +kernel
theorem dX4_test_76 : decode cX4_test 76 = .ok (.iconst 1, 1) := by decide +kernel
theorem dX4_test_77 : decode cX4_test 77 = .ok (.iand, 1) := by decide +kernel
theorem dX4_test_78 : decode cX4_test 78 = .ok (.iconst 1, 1) := by decide +kernel
theorem dX4_test_79 : decode cX4_test 79 = .ok (.if_icmp .ne 18, 3) := by decide +kernel
theorem dX4_test_82 : decode cX4_test 82 = .ok (.iload 4, 2) := by decide +kernel
theorem dX4_test_84 : decode cX4_test 84 = .ok (.iload 11, 2) := by decide +kernel
theorem dX4_test_86 : decode cX4_test 86 = .ok (.ishr, 1) := by decide +kernel
theorem dX4_test_87 : decode cX4_test 87 = .ok (.iconst 1, 1) := by decide +kernel
theorem dX4_test_88 : decode cX4_test 88 = .ok (.iand, 1) := by decide +kernel
theorem dX4_test_89 : decode cX4_test 89 = .ok (.iconst 1, 1) := by decide +kernel
theorem dX4_test_90 : decode cX4_test 90 = .ok (.if_icmp .ne 7, 3) := by decide +kernel
theorem dX4_test_93 : decode cX4_test 93 = .ok (.iconst 1, 1) := by decide +kernel
theorem dX4_test_94 : decode cX4_test 94 = .ok (.goto 4, 3) := by decide +kernel
theorem dX4_test_97 : decode cX4_test 97 = .ok (.iconst 0, 1) := by decide +kernel
theorem dX4_test_98 : decode cX4_test 98 = .ok (.istore 12, 2) := by decide +kernel
theorem dX4_test_100 : decode cX4_test 100 = .ok (.iload 10, 2) := by decide +kernel
theorem dX4_test_102 : decode cX4_test 102 = .ok (.iload 12, 2) := by decide +kernel
theorem dX4_test_104 : decode cX4_test 104 = .ok (.ifCond .eq 24, 3) := by decide +kernel
theorem dX4_test_107 : decode cX4_test 107 = .ok (.iload 9, 2) := by decide +kernel
theorem dX4_test_109 : decode cX4_test 109 = .ok (.iload 7, 2) := by decide +kernel
theorem dX4_test_111 : decode cX4_test 111 = .ok (.invokestatic 120, 3) := by decide +kernel
theorem dX4_test_114 : decode cX4_test 114 = .ok (.iload 11, 2) := by decide +kernel
theorem dX4_test_116 : decode cX4_test 116 = .ok (.iload 7, 2) := by decide +kernel
theorem dX4_test_118 : decode cX4_test 118 = .ok (.invokestatic 120, 3) := by decide +kernel
theorem dX4_test_121 : decode cX4_test 121 = .ok (.if_icmp .ne 7, 3) := by decide +kernel
theorem dX4_test_124 : decode cX4_test 124 = .ok (.iconst 1, 1) := by decide +kernel
theorem dX4_test_125 : decode cX4_test 125 = .ok (.goto 4, 3) := by decide +kernel
theorem dX4_test_128 : decode cX4_test 128 = .ok (.iconst 0, 1) := by decide +kernel
theorem dX4_test_129 : decode cX4_test 129 = .ok (.iadd, 1) := by decide +kernel
theorem dX4_test_130 : decode cX4_test 130 = .ok (.istore 10, 2) := by decide +kernel
theorem dX4_test_132 : decode cX4_test 132 = .ok (.iinc 11 1, 3) := by decide +kernel
theorem dX4_test_135 : decode cX4_test 135 = .ok (.goto (-71), 3) := by decide +kernel
theorem dX4_test_138 : decode cX4_test 138 = .ok (.iload 10, 2) := by decide +kernel
theorem dX4_test_140 : decode cX4_test 140 = .ok (.iload 8, 2) := by decide +kernel
theorem dX4_test_142 : decode cX4_test 142 = .ok (.if_icmp .le 8, 3) := by decide +kernel
theorem dX4_test_145 : decode cX4_test 145 = .ok (.iload 10, 2) := by decide +kernel
theorem dX4_test_147 : decode cX4_test 147 = .ok (.goto 5, 3) := by decide +kernel
theorem dX4_test_150 : decode cX4_test 150 = .ok (.iload 8, 2) := by decide +kernel
theorem dX4_test_152 : decode cX4_test 152 = .ok (.istore 8, 2) := by decide +kernel
theorem dX4_test_154 : decode cX4_test 154 = .ok (.iinc 9 1, 3) := by decide +kernel
theorem dX4_test_157 : decode cX4_test 157 = .ok (.goto (-106), 3) := by decide +kernel
theorem dX4_test_160 : decode cX4_test 160 = .ok (.iload 8, 2) := by decide +kernel
theorem dX4_test_162 : decode cX4_test 162 = .ok (.iload 6, 2) := by decide +kernel
theorem dX4_test_164 : decode cX4_test 164 = .ok (.if_icmp .ge 8, 3) := by decide +kernel
theorem dX4_test_167 : decode cX4_test 167 = .ok (.iload 7, 2) := by decide +kernel
theorem dX4_test_169 : decode cX4_test 169 = .ok (.goto 5, 3) := by decide +kernel
theorem dX4_test_172 : decode cX4_test 172 = .ok (.iload 5, 2) := by decide +kernel
theorem dX4_test_174 : decode cX4_test 174 = .ok (.istore 5, 2) := by decide +kernel
theorem dX4_test_176 : decode cX4_test 176 = .ok (.iload 8, 2) := by decide +kernel
theorem dX4_test_178 : decode cX4_test 178 = .ok (.iload 6, 2) := by decide +kernel
theorem dX4_test_180 : decode cX4_test 180 = .ok (.if_icmp .ge 8, 3) := by decide +kernel
theorem dX4_test_183 : decode cX4_test 183 = .ok (.iload 8, 2) := by decide +kernel
theorem dX4_test_185 : decode cX4_test 185 = .ok (.goto 5, 3) := by decide +kernel
theorem dX4_test_188 : decode cX4_test 188 = .ok (.iload 6, 2) := by decide +kernel
theorem dX4_test_190 : decode cX4_test 190 = .ok (.istore 6, 2) := by decide +kernel
theorem dX4_test_192 : decode cX4_test 192 = .ok (.iinc 7 1, 3) := by decide +kernel
theorem dX4_test_195 : decode cX4_test 195 = .ok (.goto (-157), 3) := by decide +kernel
theorem dX4_test_198 : decode cX4_test 198 = .ok (.aload_n 0, 1) := by decide +kernel
theorem dX4_test_199 : decode cX4_test 199 = .ok (.iload 5, 2) := by decide +kernel
theorem dX4_test_201 : decode cX4_test 201 = .ok (.iload 6, 2) := by decide +kernel
theorem dX4_test_203 : decode cX4_test 203 = .ok (.invokevirtual 92, 3) := by decide +kernel
theorem dX4_test_206 : decode cX4_test 206 = .ok (.ireturn, 1) := by decide +kernel
set_option maxRecDepth 20000 in
theorem ggX4_jars_X4_isHouse : GoodIn wsX4_jars wsX4_isHouse := goodIn_r _ [7, 8, 9, 10, 6, 11, 20, 21, 22, 23, 24, 25, 26, 27, 28, 29, 30, 31, 32, 33, 34, 35, 36, 37, 38, 39, 40, 41, 42] (by decide +kernel) (by decide +kernel)
set_option maxRecDepth 20000 in
theorem gX4_jars_X4_isHouse : GoodIn wsX4_jars (wsV RX4 135 RX4 yX4_isHouse wsX4_isHouse) := goodIn_app (goodIn_of _ (by decide +kernel)) ggX4_jars_X4_isHouse
set_option maxRecDepth 20000 in
theorem ggX4_jars_X4_in : GoodIn wsX4_jars wsX4_in := goodIn_r _ [11] (by decide +kernel) (by decide +kernel)
set_option maxRecDepth 20000 in
theorem gX4_jars_X4_in : GoodIn wsX4_jars (va_wsS RX4 74 yX4_in wsX4_in) := goodIn_app (goodIn_of _ (by decide +kernel)) ggX4_jars_X4_in
set_option maxRecDepth 20000 in
theorem ggX4_jars_X4_worthTo : GoodIn wsX4_jars wsX4_worthTo := goodIn_r _ [14] (by decide +kernel) (by decide +kernel)
set_option maxRecDepth 20000 in
theorem gX4_jars_X4_worthTo : GoodIn wsX4_jars (va_wsS RX4 120 yX4_worthTo wsX4_worthTo) := goodIn_app (goodIn_of _ (by decide +kernel)) ggX4_jars_X4_worthTo
set_option maxRecDepth 20000 in
theorem ggX4_jars_X4_tells : GoodIn wsX4_jars wsX4_tells := goodIn_r _ [18, 19, 20, 21, 22, 23, 24, 25, 26, 27, 28, 29, 30, 31, 32, 33, 34, 35, 36, 37, 38, 39, 40, 41, 42] (by decide +kernel) (by decide +kernel)
set_option maxRecDepth 20000 in
theorem gX4_jars_X4_tells : GoodIn wsX4_jars (wsV RX4 92 RX4 yX4_tells wsX4_tells) := goodIn_app (goodIn_of _ (by decide +kernel)) ggX4_jars_X4_tells
theorem dX4_jars_0 : decode cX4_jars 0 = .ok (.aload_n 0, 1) := by decide +kernel
theorem dX4_jars_1 : decode cX4_jars 1 = .ok (.iload_n 1, 1) := by decide +kernel
theorem dX4_jars_2 : decode cX4_jars 2 = .ok (.invokevirtual 135, 3) := by decide +kernel
theorem dX4_jars_5 : decode cX4_jars 5 = .ok (.ifCond .eq 15, 3) := by decide +kernel
theorem dX4_jars_8 : decode cX4_jars 8 = .ok (.iload_n 2, 1) := by decide +kernel
theorem dX4_jars_9 : decode cX4_jars 9 = .ok (.i2l, 1) := by decide +kernel
theorem dX4_jars_10 : decode cX4_jars 10 = .ok (.lconst 0, 1) := by decide +kernel
theorem dX4_jars_11 : decode cX4_jars 11 = .ok (.ldc2_w 192, 3) := by decide +kernel
theorem dX4_jars_14 : decode cX4_jars 14 = .ok (.invokestatic 74, 3) := by decide +kernel
theorem dX4_jars_17 : decode cX4_jars 17 = .ok (.ifCond .ne 5, 3) := by decide +kernel
theorem dX4_jars_20 : decode cX4_jars 20 = .ok (.iconst (-1), 1) := by decide +kernel
theorem dX4_jars_21 : decode cX4_jars 21 = .ok (.ireturn, 1) := by decide +kernel
theorem dX4_jars_22 : decode cX4_jars 22 = .ok (.iconst 0, 1) := by decide +kernel
theorem dX4_jars_23 : decode cX4_jars 23 = .ok (.istore_n 3, 1) := by decide +kernel
theorem dX4_jars_24 : decode cX4_jars 24 = .ok (.iconst 0, 1) := by decide +kernel
theorem dX4_jars_25 : decode cX4_jars 25 = .ok (.istore 4, 2) := by decide +kernel
theorem dX4_jars_27 : decode cX4_jars 27 = .ok (.bipush 99, 2) := by decide +kernel
theorem dX4_jars_29 : decode cX4_jars 29 = .ok (.istore 5, 2) := by decide +kernel
theorem dX4_jars_31 : decode cX4_jars 31 = .ok (.iload 5, 2) := by decide +kernel
theorem dX4_jars_33 : decode cX4_jars 33 = .ok (.ifCond .lt 58, 3) := by decide +kernel
theorem dX4_jars_36 : decode cX4_jars 36 = .ok (.aload_n 0, 1) := by decide +kernel
theorem dX4_jars_37 : decode cX4_jars 37 = .ok (.getfield 35, 3) := by decide +kernel
theorem dX4_jars_40 : decode cX4_jars 40 = .ok (.iload_n 1, 1) := by decide +kernel
theorem dX4_jars_41 : decode cX4_jars 41 = .ok (.iaload, 1) := by decide +kernel
theorem dX4_jars_42 : decode cX4_jars 42 = .ok (.iload 5, 2) := by decide +kernel
theorem dX4_jars_44 : decode cX4_jars 44 = .ok (.invokestatic 120, 3) := by decide +kernel
theorem dX4_jars_47 : decode cX4_jars 47 = .ok (.iload_n 2, 1) := by decide +kernel
theorem dX4_jars_48 : decode cX4_jars 48 = .ok (.if_icmp .ne 7, 3) := by decide +kernel
theorem dX4_jars_51 : decode cX4_jars 51 = .ok (.iconst 1, 1) := by decide +kernel
theorem dX4_jars_52 : decode cX4_jars 52 = .ok (.goto 4, 3) := by decide +kernel
theorem dX4_jars_55 : decode cX4_jars 55 = .ok (.iconst 0, 1) := by decide +kernel
theorem dX4_jars_56 : decode cX4_jars 56 = .ok (.istore 6, 2) := by decide +kernel
theorem dX4_jars_58 : decode cX4_jars 58 = .ok (.iload_n 3, 1) := by decide +kernel
theorem dX4_jars_59 : decode cX4_jars 59 = .ok (.iload 6, 2) := by decide +kernel
theorem dX4_jars_61 : decode cX4_jars 61 = .ok (.ifCond .eq 7, 3) := by decide +kernel
theorem dX4_jars_64 : decode cX4_jars 64 = .ok (.iconst 1, 1) := by decide +kernel
theorem dX4_jars_65 : decode cX4_jars 65 = .ok (.goto 4, 3) := by decide +kernel
theorem dX4_jars_68 : decode cX4_jars 68 = .ok (.iconst 0, 1) := by decide +kernel
theorem dX4_jars_69 : decode cX4_jars 69 = .ok (.iadd, 1) := by decide +kernel
theorem dX4_jars_70 : decode cX4_jars 70 = .ok (.istore_n 3, 1) := by decide +kernel
theorem dX4_jars_71 : decode cX4_jars 71 = .ok (.iload 6, 2) := by decide +kernel
theorem dX4_jars_73 : decode cX4_jars 73 = .ok (.ifCond .eq 8, 3) := by decide +kernel
theorem dX4_jars_76 : decode cX4_jars 76 = .ok (.iload 5, 2) := by decide +kernel
theorem dX4_jars_78 : decode cX4_jars 78 = .ok (.goto 5, 3) := by decide +kernel
theorem dX4_jars_81 : decode cX4_jars 81 = .ok (.iload 4, 2) := by decide +kernel
theorem dX4_jars_83 : decode cX4_jars 83 = .ok (.istore 4, 2) := by decide +kernel
theorem dX4_jars_85 : decode cX4_jars 85 = .ok (.iinc 5 (-1), 3) := by decide +kernel
theorem dX4_jars_88 : decode cX4_jars 88 = .ok (.goto (-57), 3) := by decide +kernel
theorem dX4_jars_91 : decode cX4_jars 91 = .ok (.iload_n 3, 1) := by decide +kernel
theorem dX4_jars_92 : decode cX4_jars 92 = .ok (.ifCond .ne 8, 3) := by decide +kernel
theorem dX4_jars_95 : decode cX4_jars 95 = .ok (.bipush (-9), 2) := by decide +kernel
theorem dX4_jars_97 : decode cX4_jars 97 = .ok (.goto 10, 3) := by decide +kernel
theorem dX4_jars_100 : decode cX4_jars 100 = .ok (.aload_n 0, 1) := by decide +kernel
theorem dX4_jars_101 : decode cX4_jars 101 = .ok (.iload_n 3, 1) := by decide +kernel
theorem dX4_jars_102 : decode cX4_jars 102 = .ok (.iload 4, 2) := by decide +kernel
theorem dX4_jars_104 : decode cX4_jars 104 = .ok (.invokevirtual 92, 3) := by decide +kernel
theorem dX4_jars_107 : decode cX4_jars 107 = .ok (.ireturn, 1) := by decide +kernel
set_option maxRecDepth 20000 in
theorem ggX4_takesNine_X4_jar : GoodIn wsX4_takesNine wsX4_jar := goodIn_r _ [6, 1, 11, 12, 13, 14, 15, 16, 17, 18, 19, 20, 21, 22, 23, 24, 25, 26, 27, 28, 29, 30, 31, 32, 33] (by decide +kernel) (by decide +kernel)
set_option maxRecDepth 20000 in
theorem gX4_takesNine_X4_jar : GoodIn wsX4_takesNine (wsV RX4 117 RX4 yX4_jar wsX4_jar) := goodIn_app (goodIn_of _ (by decide +kernel)) ggX4_takesNine_X4_jar
set_option maxRecDepth 20000 in
theorem ggX4_takesNine_X4_leaves : GoodIn wsX4_takesNine wsX4_leaves := goodIn_r _ [10, 1, 11, 12, 13, 14, 15, 16, 17, 18, 19, 20, 21, 22, 23, 24, 25, 26, 27, 28, 29, 30, 31, 32, 33] (by decide +kernel) (by decide +kernel)
set_option maxRecDepth 20000 in
theorem gX4_takesNine_X4_leaves : GoodIn wsX4_takesNine (wsV RX4 163 RX4 yX4_leaves wsX4_leaves) := goodIn_app (goodIn_of _ (by decide +kernel)) ggX4_takesNine_X4_leaves
theorem dX4_takesNine_0 : decode cX4_takesNine 0 = .ok (.aload_n 0, 1) := by decide +kernel
theorem dX4_takesNine_1 : decode cX4_takesNine 1 = .ok (.getfield 44, 3) := by decide +kernel
theorem dX4_takesNine_4 : decode cX4_takesNine 4 = .ok (.iconst 1, 1) := by decide +kernel
theorem dX4_takesNine_5 : decode cX4_takesNine 5 = .ok (.iaload, 1) := by decide +kernel
theorem dX4_takesNine_6 : decode cX4_takesNine 6 = .ok (.bipush 9, 2) := by decide +kernel
theorem dX4_takesNine_8 : decode cX4_takesNine 8 = .ok (.if_icmp .ge 12, 3) := by decide +kernel
theorem dX4_takesNine_11 : decode cX4_takesNine 11 = .ok (.aload_n 0, 1) := by decide +kernel
theorem dX4_takesNine_12 : decode cX4_takesNine 12 = .ok (.getfield 44, 3) := by decide +kernel
theorem dX4_takesNine_15 : decode cX4_takesNine 15 = .ok (.iconst 1, 1) := by decide +kernel
theorem dX4_takesNine_16 : decode cX4_takesNine 16 = .ok (.iaload, 1) := by decide +kernel
theorem dX4_takesNine_17 : decode cX4_takesNine 17 = .ok (.goto 5, 3) := by decide +kernel
theorem dX4_takesNine_20 : decode cX4_takesNine 20 = .ok (.bipush 9, 2) := by decide +kernel
theorem dX4_takesNine_22 : decode cX4_takesNine 22 = .ok (.istore_n 2, 1) := by decide +kernel
theorem dX4_takesNine_23 : decode cX4_takesNine 23 = .ok (.aload_n 0, 1) := by decide +kernel
theorem dX4_takesNine_24 : decode cX4_takesNine 24 = .ok (.iload_n 1, 1) := by decide +kernel
theorem dX4_takesNine_25 : decode cX4_takesNine 25 = .ok (.invokevirtual 117, 3) := by decide +kernel
theorem dX4_takesNine_28 : decode cX4_takesNine 28 = .ok (.iload_n 2, 1) := by decide +kernel
theorem dX4_takesNine_29 : decode cX4_takesNine 29 = .ok (.iadd, 1) := by decide +kernel
theorem dX4_takesNine_30 : decode cX4_takesNine 30 = .ok (.bipush 99, 2) := by decide +kernel
theorem dX4_takesNine_32 : decode cX4_takesNine 32 = .ok (.if_icmp .le 14, 3) := by decide +kernel
theorem dX4_takesNine_35 : decode cX4_takesNine 35 = .ok (.bipush 99, 2) := by decide +kernel
theorem dX4_takesNine_37 : decode cX4_takesNine 37 = .ok (.aload_n 0, 1) := by decide +kernel
theorem dX4_takesNine_38 : decode cX4_takesNine 38 = .ok (.iload_n 1, 1) := by decide +kernel
theorem dX4_takesNine_39 : decode cX4_takesNine 39 = .ok (.invokevirtual 117, 3) := by decide +kernel
theorem dX4_takesNine_42 : decode cX4_takesNine 42 = .ok (.isub, 1) := by decide +kernel
theorem dX4_takesNine_43 : decode cX4_takesNine 43 = .ok (.goto 4, 3) := by decide +kernel
theorem dX4_takesNine_46 : decode cX4_takesNine 46 = .ok (.iload_n 2, 1) := by decide +kernel
theorem dX4_takesNine_47 : decode cX4_takesNine 47 = .ok (.istore_n 2, 1) := by decide +kernel
theorem dX4_takesNine_48 : decode cX4_takesNine 48 = .ok (.aload_n 0, 1) := by decide +kernel
theorem dX4_takesNine_49 : decode cX4_takesNine 49 = .ok (.iload_n 1, 1) := by decide +kernel
theorem dX4_takesNine_50 : decode cX4_takesNine 50 = .ok (.iload_n 2, 1) := by decide +kernel
theorem dX4_takesNine_51 : decode cX4_takesNine 51 = .ok (.ineg, 1) := by decide +kernel
theorem dX4_takesNine_52 : decode cX4_takesNine 52 = .ok (.invokevirtual 163, 3) := by decide +kernel
theorem dX4_takesNine_55 : decode cX4_takesNine 55 = .ok (.return_, 1) := by decide +kernel
set_option maxRecDepth 20000 in
theorem ggX4_leavesNine_X4_jar : GoodIn wsX4_leavesNine wsX4_jar := goodIn_r _ [5, 6, 11, 12, 13, 14, 15, 16, 17, 18, 19, 20, 21, 22, 23, 24, 25, 26, 27, 28, 29, 30, 31, 32, 33] (by decide +kernel) (by decide +kernel)
set_option maxRecDepth 20000 in
theorem gX4_leavesNine_X4_jar : GoodIn wsX4_leavesNine (wsV RX4 117 RX4 yX4_jar wsX4_jar) := goodIn_app (goodIn_of _ (by decide +kernel)) ggX4_leavesNine_X4_jar
set_option maxRecDepth 20000 in
theorem ggX4_leavesNine_X4_leaves : GoodIn wsX4_leavesNine wsX4_leaves := goodIn_r _ [10, 6, 11, 12, 13, 14, 15, 16, 17, 18, 19, 20, 21, 22, 23, 24, 25, 26, 27, 28, 29, 30, 31, 32, 33] (by decide +kernel) (by decide +kernel)
set_option maxRecDepth 20000 in
theorem gX4_leavesNine_X4_leaves : GoodIn wsX4_leavesNine (wsV RX4 163 RX4 yX4_leaves wsX4_leaves) := goodIn_app (goodIn_of _ (by decide +kernel)) ggX4_leavesNine_X4_leaves
theorem dX4_leavesNine_0 : decode cX4_leavesNine 0 = .ok (.aload_n 0, 1) := by decide +kernel
theorem dX4_leavesNine_1 : decode cX4_leavesNine 1 = .ok (.iload_n 1, 1) := by decide +kernel
theorem dX4_leavesNine_2 : decode cX4_leavesNine 2 = .ok (.aload_n 0, 1) := by decide +kernel
theorem dX4_leavesNine_3 : decode cX4_leavesNine 3 = .ok (.iload_n 1, 1) := by decide +kernel
theorem dX4_leavesNine_4 : decode cX4_leavesNine 4 = .ok (.invokevirtual 117, 3) := by decide +kernel
theorem dX4_leavesNine_7 : decode cX4_leavesNine 7 = .ok (.bipush 9, 2) := by decide +kernel
theorem dX4_leavesNine_9 : decode cX4_leavesNine 9 = .ok (.if_icmp .ge 11, 3) := by decide +kernel
theorem dX4_leavesNine_12 : decode cX4_leavesNine 12 = .ok (.aload_n 0, 1) := by decide +kernel
theorem dX4_leavesNine_13 : decode cX4_leavesNine 13 = .ok (.iload_n 1, 1) := by decide +kernel
theorem dX4_leavesNine_14 : decode cX4_leavesNine 14 = .ok (.invokevirtual 117, 3) := by decide +kernel
theorem dX4_leavesNine_17 : decode cX4_leavesNine 17 = .ok (.goto 5, 3) := by decide +kernel
theorem dX4_leavesNine_20 : decode cX4_leavesNine 20 = .ok (.bipush 9, 2) := by decide +kernel
theorem dX4_leavesNine_22 : decode cX4_leavesNine 22 = .ok (.invokevirtual 163, 3) := by decide +kernel
theorem dX4_leavesNine_25 : decode cX4_leavesNine 25 = .ok (.return_, 1) := by decide +kernel
set_option maxRecDepth 20000 in
theorem ggX4_duel_X4_isHouse : GoodIn wsX4_duel wsX4_isHouse := goodIn_r _ [7, 8, 9, 10, 6, 11, 46, 47, 48, 49, 50, 51, 52, 53, 54, 55, 56, 57, 58, 59, 60, 61, 62, 63, 64, 65, 66, 67, 68] (by decide +kernel) (by decide +kernel)
set_option maxRecDepth 20000 in
theorem gX4_duel_X4_isHouse : GoodIn wsX4_duel (wsV RX4 135 RX4 yX4_isHouse wsX4_isHouse) := goodIn_app (goodIn_of _ (by decide +kernel)) ggX4_duel_X4_isHouse
set_option maxRecDepth 20000 in
theorem ggX4_duel_X4_in : GoodIn wsX4_duel wsX4_in := goodIn_r _ [11] (by decide +kernel) (by decide +kernel)
set_option maxRecDepth 20000 in
theorem gX4_duel_X4_in : GoodIn wsX4_duel (va_wsS RX4 74 yX4_in wsX4_in) := goodIn_app (goodIn_of _ (by decide +kernel)) ggX4_duel_X4_in
set_option maxRecDepth 20000 in
theorem ggX4_duel_X4_asides : GoodIn wsX4_duel wsX4_asides := goodIn_r _ [15, 16, 17, 46, 47, 48, 49, 50, 51, 52, 53, 54, 55, 56, 57, 58, 59, 60, 61, 62, 63, 64, 65, 66, 67, 68] (by decide +kernel) (by decide +kernel)
set_option maxRecDepth 20000 in
theorem gX4_duel_X4_asides : GoodIn wsX4_duel (wsV RX4 177 RX4 yX4_asides wsX4_asides) := goodIn_app (goodIn_of _ (by decide +kernel)) ggX4_duel_X4_asides
set_option maxRecDepth 20000 in
theorem ggX4_duel_X4_takesNine : GoodIn wsX4_duel wsX4_takesNine := goodIn_r _ [21, 17, 22, 23, 24, 6, 25, 26, 27, 28, 29, 46, 47, 48, 49, 50, 51, 52, 53, 54, 55, 56, 57, 58, 59, 60, 61, 62, 63, 64, 65, 66, 67, 68] (by decide +kernel) (by decide +kernel)
set_option maxRecDepth 20000 in
theorem gX4_duel_X4_takesNine : GoodIn wsX4_duel (wsV RX4 200 RX4 yX4_takesNine wsX4_takesNine) := goodIn_app (goodIn_of _ (by decide +kernel)) ggX4_duel_X4_takesNine
set_option maxRecDepth 20000 in
theorem ggX4_duel_X4_leavesNine : GoodIn wsX4_duel wsX4_leavesNine := goodIn_r _ [33, 22, 23, 24, 6, 25, 17, 26, 27, 28, 29, 46, 47, 48, 49, 50, 51, 52, 53, 54, 55, 56, 57, 58, 59, 60, 61, 62, 63, 64, 65, 66, 67, 68] (by decide +kernel) (by decide +kernel)
set_option maxRecDepth 20000 in
theorem gX4_duel_X4_leavesNine : GoodIn wsX4_duel (wsV RX4 203 RX4 yX4_leavesNine wsX4_leavesNine) := goodIn_app (goodIn_of _ (by decide +kernel)) ggX4_duel_X4_leavesNine
set_option maxRecDepth 20000 in
theorem ggX4_duel_X4_worthNow : GoodIn wsX4_duel wsX4_worthNow := goodIn_r _ [37, 38, 22, 23, 24, 6, 25, 17, 39, 40, 41, 46, 47, 48, 49, 50, 51, 52, 53, 54, 55, 56, 57, 58, 59, 60, 61, 62, 63, 64, 65, 66, 67, 68] (by decide +kernel) (by decide +kernel)
set_option maxRecDepth 20000 in
theorem gX4_duel_X4_worthNow : GoodIn wsX4_duel (wsV RX4 126 RX4 yX4_worthNow wsX4_worthNow) := goodIn_app (goodIn_of _ (by decide +kernel)) ggX4_duel_X4_worthNow
set_option maxRecDepth 20000 in
theorem ggX4_duel_X4_backs : GoodIn wsX4_duel wsX4_backs := goodIn_r _ [45, 17, 16, 46, 47, 48, 49, 50, 51, 52, 53, 54, 55, 56, 57, 58, 59, 60, 61, 62, 63, 64, 65, 66, 67, 68] (by decide +kernel) (by decide +kernel)
set_option maxRecDepth 20000 in
theorem gX4_duel_X4_backs : GoodIn wsX4_duel (wsV RX4 184 RX4 yX4_backs wsX4_backs) := goodIn_app (goodIn_of _ (by decide +kernel)) ggX4_duel_X4_backs
theorem dX4_duel_0 : decode cX4_duel 0 = .ok (.aload_n 0, 1) := by decide +kernel
theorem dX4_duel_1 : decode cX4_duel 1 = .ok (.iload_n 1, 1) := by decide +kernel
theorem dX4_duel_2 : decode cX4_duel 2 = .ok (.invokevirtual 135, 3) := by decide +kernel
theorem dX4_duel_5 : decode cX4_duel 5 = .ok (.ifCond .eq 28, 3) := by decide +kernel
theorem dX4_duel_8 : decode cX4_duel 8 = .ok (.aload_n 0, 1) := by decide +kernel
theorem dX4_duel_9 : decode cX4_duel 9 = .ok (.iload_n 2, 1) := by decide +kernel
theorem dX4_duel_10 : decode cX4_duel 10 = .ok (.invokevirtual 135, 3) := by decide +kernel
theorem dX4_duel_13 : decode cX4_duel 13 = .ok (.ifCond .eq 20, 3) := by decide +kernel
theorem dX4_duel_16 : decode cX4_duel 16 = .ok (.iload_n 1, 1) := by decide +kernel
theorem dX4_duel_17 : decode cX4_duel 17 = .ok (.iload_n 2, 1) := by decide +kernel
theorem dX4_duel_18 : decode cX4_duel 18 = .ok (.if_icmp .eq 15, 3) := by decide +kernel
theorem dX4_duel_21 : decode cX4_duel 21 = .ok (.iload_n 3, 1) := by decide +kernel
theorem dX4_duel_22 : decode cX4_duel 22 = .ok (.i2l, 1) := by decide +kernel
theorem dX4_duel_23 : decode cX4_duel 23 = .ok (.lconst 0, 1) := by decide +kernel
theorem dX4_duel_24 : decode cX4_duel 24 = .ok (.ldc2_w 138, 3) := by decide +kernel
theorem dX4_duel_27 : decode cX4_duel 27 = .ok (.invokestatic 74, 3) := by decide +kernel
theorem dX4_duel_30 : decode cX4_duel 30 = .ok (.ifCond .ne 5, 3) := by decide +kernel
theorem dX4_duel_33 : decode cX4_duel 33 = .ok (.iconst (-1), 1) := by decide +kernel
theorem dX4_duel_34 : decode cX4_duel 34 = .ok (.ireturn, 1) := by decide +kernel
theorem dX4_duel_35 : decode cX4_duel 35 = .ok (.iconst 1, 1) := by decide +kernel
theorem dX4_duel_36 : decode cX4_duel 36 = .ok (.istore 4, 2) := by decide +kernel
theorem dX4_duel_38 : decode cX4_duel 38 = .ok (.iconst 0, 1) := by decide +kernel
theorem dX4_duel_39 : decode cX4_duel 39 = .ok (.istore 5, 2) := by decide +kernel
theorem dX4_duel_41 : decode cX4_duel 41 = .ok (.iload 5, 2) := by decide +kernel
theorem dX4_duel_43 : decode cX4_duel 43 = .ok (.iload_n 3, 1) := by decide +kernel
theorem dX4_duel_44 : decode cX4_duel 44 = .ok (.if_icmp .ge 15, 3) := by decide +kernel
theorem dX4_duel_47 : decode cX4_duel 47 = .ok (.iload 4, 2) := by decide +kernel
theorem dX4_duel_49 : decode cX4_duel 49 = .ok (.iconst 3, 1) := by decide +kernel
theorem dX4_duel_50 : decode cX4_duel 50 = .ok (.imul, 1) := by decide +kernel
theorem dX4_duel_51 : decode cX4_duel 51 = .ok (.istore 4, 2) := by decide +kernel
theorem dX4_duel_53 : decode cX4_duel 53 = .ok (.iinc 5 1, 3) := by decide +kernel
theorem dX4_duel_56 : decode cX4_duel 56 = .ok (.goto (-15), 3) := by decide +kernel
theorem dX4_duel_59 : decode cX4_duel 59 = .ok (.aload_n 0, 1) := by decide +kernel
theorem dX4_duel_60 : decode cX4_duel 60 = .ok (.invokevirtual 177, 3) := by decide +kernel
theorem dX4_duel_63 : decode cX4_duel 63 = .ok (.iconst 0, 1) := by decide +kernel
theorem dX4_duel_64 : decode cX4_duel 64 = .ok (.istore 5, 2) := by decide +kernel
theorem dX4_duel_66 : decode cX4_duel 66 = .ok (.iload 5, 2) := by decide +kernel
theorem dX4_duel_68 : decode cX4_duel 68 = .ok (.iload 4, 2) := by decide +kernel
theorem dX4_duel_70 : decode cX4_duel 70 = .ok (.if_icmp .ge 105, 3) := by decide +kernel
theorem dX4_duel_73 : decode cX4_duel 73 = .ok (.iload 4, 2) := by decide +kernel
theorem dX4_duel_75 : decode cX4_duel 75 = .ok (.istore 6, 2) := by decide +kernel
theorem dX4_duel_77 : decode cX4_duel 77 = .ok (.iconst 0, 1) := by decide +kernel
theorem dX4_duel_78 : decode cX4_duel 78 = .ok (.istore 7, 2) := by decide +kernel
theorem dX4_duel_80 : decode cX4_duel 80 = .ok (.iload 7, 2) := by decide +kernel
theorem dX4_duel_82 : decode cX4_duel 82 = .ok (.iload_n 3, 1) := by decide +kernel
theorem dX4_duel_83 : decode cX4_duel 83 = .ok (.if_icmp .ge 64, 3) := by decide +kernel
theorem dX4_duel_86 : decode cX4_duel 86 = .ok (.iload 6, 2) := by decide +kernel
theorem dX4_duel_88 : decode cX4_duel 88 = .ok (.iconst 3, 1) := by decide +kernel
theorem dX4_duel_89 : decode cX4_duel 89 = .ok (.idiv, 1) := by decide +kernel
theorem dX4_duel_90 : decode cX4_duel 90 = .ok (.istore 6, 2) := by decide +kernel
theorem dX4_duel_92 : decode cX4_duel 92 = .ok (.iload 7, 2) := by decide +kernel
theorem dX4_duel_94 : decode cX4_duel 94 = .ok (.iconst 2, 1) := by decide +kernel
theorem dX4_duel_95 : decode cX4_duel 95 = .ok (.irem, 1) := by decide +kernel
theorem dX4_duel_96 : decode cX4_duel 96 = .ok (.ifCond .ne 7, 3) := by decide +kernel
theorem dX4_duel_99 : decode cX4_duel 99 = .ok (.iload_n 1, 1) := by decide +kernel
theorem dX4_duel_100 : decode cX4_duel 100 = .ok (.goto 4, 3) := by decide +kernel
theorem dX4_duel_103 : decode cX4_duel 103 = .ok (.iload_n 2, 1) := by decide +kernel
theorem dX4_duel_104 : decode cX4_duel 104 = .ok (.istore 8, 2) := by decide +kernel
theorem dX4_duel_106 : decode cX4_duel 106 = .ok (.iload 5, 2) := by decide +kernel
theorem dX4_duel_108 : decode cX4_duel 108 = .ok (.iload 6, 2) := by decide +kernel
theorem dX4_duel_110 : decode cX4_duel 110 = .ok (.idiv, 1) := by decide +kernel
theorem dX4_duel_111 : decode cX4_duel 111 = .ok (.iconst 3, 1) := by decide +kernel
theorem dX4_duel_112 : decode cX4_duel 112 = .ok (.irem, 1) := by decide +kernel
theorem dX4_duel_113 : decode cX4_duel 113 = .ok (.istore 9, 2) := by decide +kernel
theorem dX4_duel_115 : decode cX4_duel 115 = .ok (.iload 9, 2) := by decide +kernel
theorem dX4_duel_117 : decode cX4_duel 117 = .ok (.ifCond .ne 12, 3) := by decide +kernel
theorem dX4_duel_120 : decode cX4_duel 120 = .ok (.aload_n 0, 1) := by decide +kernel
theorem dX4_duel_121 : decode cX4_duel 121 = .ok (.iload 8, 2) := by decide +kernel
theorem dX4_duel_123 : decode cX4_duel 123 = .ok (.invokevirtual 200, 3) := by decide +kernel
theorem dX4_duel_126 : decode cX4_duel 126 = .ok (.goto 15, 3) := by decide +kernel
theorem dX4_duel_129 : decode cX4_duel 129 = .ok (.iload 9, 2) := by decide +kernel
theorem dX4_duel_131 : decode cX4_duel 131 = .ok (.iconst 1, 1) := by decide +kernel
theorem dX4_duel_132 : decode cX4_duel 132 = .ok (.if_icmp .ne 9, 3) := by decide +kernel
theorem dX4_duel_135 : decode cX4_duel 135 = .ok (.aload_n 0, 1) := by decide +kernel
theorem dX4_duel_136 : decode cX4_duel 136 = .ok (.iload 8, 2) := by decide +kernel
theorem dX4_duel_138 : decode cX4_duel 138 = .ok (.invokevirtual 203, 3) := by decide +kernel
theorem dX4_duel_141 : decode cX4_duel 141 = .ok (.iinc 7 1, 3) := by decide +kernel
theorem dX4_duel_144 : decode cX4_duel 144 = .ok (.goto (-64), 3) := by decide +kernel
theorem dX4_duel_147 : decode cX4_duel 147 = .ok (.aload_n 0, 1) := by decide +kernel
theorem dX4_duel_148 : decode cX4_duel 148 = .ok (.getfield 59, 3) := by decide +kernel
theorem dX4_duel_151 : decode cX4_duel 151 = .ok (.iload 5, 2) := by decide +kernel
theorem dX4_duel_153 : decode cX4_duel 153 = .ok (.aload_n 0, 1) := by decide +kernel
theorem dX4_duel_154 : decode cX4_duel 154 = .ok (.iload_n 1, 1) := by decide +kernel
theorem dX4_duel_155 : decode cX4_duel 155 = .ok (.invokevirtual 126, 3) := by decide +kernel
theorem dX4_duel_158 : decode cX4_duel 158 = .ok (.aload_n 0, 1) := by decide +kernel
theorem dX4_duel_159 : decode cX4_duel 159 = .ok (.iload_n 2, 1) := by decide +kernel
theorem dX4_duel_160 : decode cX4_duel 160 = .ok (.invokevirtual 126, 3) := by decide +kernel
theorem dX4_duel_163 : decode cX4_duel 163 = .ok (.isub, 1) := by decide +kernel
theorem dX4_duel_164 : decode cX4_duel 164 = .ok (.iastore, 1) := by decide +kernel
theorem dX4_duel_165 : decode cX4_duel 165 = .ok (.aload_n 0, 1) := by decide +kernel
theorem dX4_duel_166 : decode cX4_duel 166 = .ok (.invokevirtual 184, 3) := by decide +kernel
theorem dX4_duel_169 : decode cX4_duel 169 = .ok (.iinc 5 1, 3) := by decide +kernel
theorem dX4_duel_172 : decode cX4_duel 172 = .ok (.goto (-106), 3) := by decide +kernel
theorem dX4_duel_175 : decode cX4_duel 175 = .ok (.iload_n 3, 1) := by decide +kernel
theorem dX4_duel_176 : decode cX4_duel 176 = .ok (.iconst 1, 1) := by decide +kernel
theorem dX4_duel_177 : decode cX4_duel 177 = .ok (.isub, 1) := by decide +kernel
theorem dX4_duel_178 : decode cX4_duel 178 = .ok (.istore 5, 2) := by decide +kernel
theorem dX4_duel_180 : decode cX4_duel 180 = .ok (.iload 5, 2) := by decide +kernel
theorem dX4_duel_182 : decode cX4_duel 182 = .ok (.ifCond .lt 145, 3) := by decide +kernel
theorem dX4_duel_185 : decode cX4_duel 185 = .ok (.iload 4, 2) := by decide +kernel
theorem dX4_duel_187 : decode cX4_duel 187 = .ok (.iconst 3, 1) := by decide +kernel
theorem dX4_duel_188 : decode cX4_duel 188 = .ok (.idiv, 1) := by decide +kernel
theorem dX4_duel_189 : decode cX4_duel 189 = .ok (.istore 4, 2) := by decide +kernel
theorem dX4_duel_191 : decode cX4_duel 191 = .ok (.iconst 0, 1) := by decide +kernel
theorem dX4_duel_192 : decode cX4_duel 192 = .ok (.istore 6, 2) := by decide +kernel
theorem dX4_duel_194 : decode cX4_duel 194 = .ok (.iload 6, 2) := by decide +kernel
theorem dX4_duel_196 : decode cX4_duel 196 = .ok (.iload 4, 2) := by decide +kernel
theorem dX4_duel_198 : decode cX4_duel 198 = .ok (.if_icmp .ge 123, 3) := by decide +kernel
theorem dX4_duel_201 : decode cX4_duel 201 = .ok (.aload_n 0, 1) := by decide +kernel
theorem dX4_duel_202 : decode cX4_duel 202 = .ok (.getfield 59, 3) := by decide +kernel
theorem dX4_duel_205 : decode cX4_duel 205 = .ok (.iconst 3, 1) := by decide +kernel
theorem dX4_duel_206 : decode cX4_duel 206 = .ok (.iload 6, 2) := by decide +kernel
theorem dX4_duel_208 : decode cX4_duel 208 = .ok (.imul, 1) := by decide +kernel
theorem dX4_duel_209 : decode cX4_duel 209 = .ok (.iaload, 1) := by decide +kernel
theorem dX4_duel_210 : decode cX4_duel 210 = .ok (.istore 7, 2) := by decide +kernel
theorem dX4_duel_212 : decode cX4_duel 212 = .ok (.aload_n 0, 1) := by decide +kernel
theorem dX4_duel_213 : decode cX4_duel 213 = .ok (.getfield 59, 3) := by decide +kernel
theorem dX4_duel_216 : decode cX4_duel 216 = .ok (.iconst 3, 1) := by decide +kernel
theorem dX4_duel_217 : decode cX4_duel 217 = .ok (.iload 6, 2) := by decide +kernel
theorem dX4_duel_219 : decode cX4_duel 219 = .ok (.imul, 1) := by decide +kernel
theorem dX4_duel_220 : decode cX4_duel 220 = .ok (.iconst 1, 1) := by decide +kernel
theorem dX4_duel_221 : decode cX4_duel 221 = .ok (.iadd, 1) := by decide +kernel
theorem dX4_duel_222 : decode cX4_duel 222 = .ok (.iaload, 1) := by decide +kernel
theorem dX4_duel_223 : decode cX4_duel 223 = .ok (.istore 8, 2) := by decide +kernel
theorem dX4_duel_225 : decode cX4_duel 225 = .ok (.aload_n 0, 1) := by decide +kernel
theorem dX4_duel_226 : decode cX4_duel 226 = .ok (.getfield 59, 3) := by decide +kernel
theorem dX4_duel_229 : decode cX4_duel 229 = .ok (.iconst 3, 1) := by decide +kernel
theorem dX4_duel_230 : decode cX4_duel 230 = .ok (.iload 6, 2) := by decide +kernel
theorem dX4_duel_232 : decode cX4_duel 232 = .ok (.imul, 1) := by decide +kernel
theorem dX4_duel_233 : decode cX4_duel 233 = .ok (.iconst 2, 1) := by decide +kernel
theorem dX4_duel_234 : decode cX4_duel 234 = .ok (.iadd, 1) := by decide +kernel
theorem dX4_duel_235 : decode cX4_duel 235 = .ok (.iaload, 1) := by decide +kernel
theorem dX4_duel_236 : decode cX4_duel 236 = .ok (.istore 9, 2) := by decide +kernel
theorem dX4_duel_238 : decode cX4_duel 238 = .ok (.iload 7, 2) := by decide +kernel
theorem dX4_duel_240 : decode cX4_duel 240 = .ok (.iload 8, 2) := by decide +kernel
theorem dX4_duel_242 : decode cX4_duel 242 = .ok (.if_icmp .le 8, 3) := by decide +kernel
theorem dX4_duel_245 : decode cX4_duel 245 = .ok (.iload 7, 2) := by decide +kernel
theorem dX4_duel_247 : decode cX4_duel 247 = .ok (.goto 5, 3) := by decide +kernel
theorem dX4_duel_250 : decode cX4_duel 250 = .ok (.iload 8, 2) := by decide +kernel
theorem dX4_duel_252 : decode cX4_duel 252 = .ok (.istore 10, 2) := by decide +kernel
theorem dX4_duel_254 : decode cX4_duel 254 = .ok (.iload 7, 2) := by decide +kernel
theorem dX4_duel_256 : decode cX4_duel 256 = .ok (.iload 8, 2) := by decide +kernel
theorem dX4_duel_258 : decode cX4_duel 258 = .ok (.if_icmp .ge 8, 3) := by decide +kernel
theorem dX4_duel_261 : decode cX4_duel 261 = .ok (.iload 7, 2) := by decide +kernel
theorem dX4_duel_263 : decode cX4_duel 263 = .ok (.goto 5, 3) := by decide +kernel
theorem dX4_duel_266 : decode cX4_duel 266 = .ok (.iload 8, 2) := by decide +kernel
theorem dX4_duel_268 : decode cX4_duel 268 = .ok (.istore 11, 2) := by decide +kernel
theorem dX4_duel_270 : decode cX4_duel 270 = .ok (.aload_n 0, 1) := by decide +kernel
theorem dX4_duel_271 : decode cX4_duel 271 = .ok (.getfield 59, 3) := by decide +kernel
theorem dX4_duel_274 : decode cX4_duel 274 = .ok (.iload 6, 2) := by decide +kernel
theorem dX4_duel_276 : decode cX4_duel 276 = .ok (.iload 5, 2) := by decide +kernel
theorem dX4_duel_278 : decode cX4_duel 278 = .ok (.iconst 2, 1) := by decide +kernel
theorem dX4_duel_279 : decode cX4_duel 279 = .ok (.irem, 1) := by decide +kernel
theorem dX4_duel_280 : decode cX4_duel 280 = .ok (.ifCond .ne 20, 3) := by decide +kernel
theorem dX4_duel_283 : decode cX4_duel 283 = .ok (.iload 10, 2) := by decide +kernel
theorem dX4_duel_285 : decode cX4_duel 285 = .ok (.iload 9, 2) := by decide +kernel
theorem dX4_duel_287 : decode cX4_duel 287 = .ok (.if_icmp .le 8, 3) := by decide +kernel
theorem dX4_duel_290 : decode cX4_duel 290 = .ok (.iload 10, 2) := by decide +kernel
theorem dX4_duel_292 : decode cX4_duel 292 = .ok (.goto 22, 3) := by decide +kernel
theorem dX4_duel_295 : decode cX4_duel 295 = .ok (.iload 9, 2) := by decide +kernel
theorem dX4_duel_297 : decode cX4_duel 297 = .ok (.goto 17, 3) := by decide +kernel
theorem dX4_duel_300 : decode cX4_duel 300 = .ok (.iload 11, 2) := by decide +kernel
theorem dX4_duel_302 : decode cX4_duel 302 = .ok (.iload 9, 2) := by decide +kernel
theorem dX4_duel_304 : decode cX4_duel 304 = .ok (.if_icmp .ge 8, 3) := by decide +kernel
theorem dX4_duel_307 : decode cX4_duel 307 = .ok (.iload 11, 2) := by decide +kernel
theorem dX4_duel_309 : decode cX4_duel 309 = .ok (.goto 5, 3) := by decide +kernel
theorem dX4_duel_312 : decode cX4_duel 312 = .ok (.iload 9, 2) := by decide +kernel
theorem dX4_duel_314 : decode cX4_duel 314 = .ok (.iastore, 1) := by decide +kernel
theorem dX4_duel_315 : decode cX4_duel 315 = .ok (.iinc 6 1, 3) := by decide +kernel
theorem dX4_duel_318 : decode cX4_duel 318 = .ok (.goto (-124), 3) := by decide +kernel
theorem dX4_duel_321 : decode cX4_duel 321 = .ok (.iinc 5 (-1), 3) := by decide +kernel
theorem dX4_duel_324 : decode cX4_duel 324 = .ok (.goto (-144), 3) := by decide +kernel
theorem dX4_duel_327 : decode cX4_duel 327 = .ok (.aload_n 0, 1) := by decide +kernel
theorem dX4_duel_328 : decode cX4_duel 328 = .ok (.getfield 59, 3) := by decide +kernel
theorem dX4_duel_331 : decode cX4_duel 331 = .ok (.iconst 0, 1) := by decide +kernel
theorem dX4_duel_332 : decode cX4_duel 332 = .ok (.iaload, 1) := by decide +kernel
theorem dX4_duel_333 : decode cX4_duel 333 = .ok (.sipush 500, 3) := by decide +kernel
theorem dX4_duel_336 : decode cX4_duel 336 = .ok (.iadd, 1) := by decide +kernel
theorem dX4_duel_337 : decode cX4_duel 337 = .ok (.ireturn, 1) := by decide +kernel
set_option maxRecDepth 20000 in
theorem ggX4_odds_X4_in : GoodIn wsX4_odds wsX4_in := goodIn_r _ [9] (by decide +kernel) (by decide +kernel)
set_option maxRecDepth 20000 in
theorem gX4_odds_X4_in : GoodIn wsX4_odds (va_wsS RX4 74 yX4_in wsX4_in) := goodIn_app (goodIn_of _ (by decide +kernel)) ggX4_odds_X4_in
set_option maxRecDepth 20000 in
theorem ggX4_odds_X4_asides : GoodIn wsX4_odds wsX4_asides := goodIn_r _ [13, 14, 5, 49, 50, 51, 52, 53, 54, 55, 56, 57, 58, 59, 60, 61, 62, 63, 64, 65, 66, 67, 68, 69, 70, 71] (by decide +kernel) (by decide +kernel)
set_option maxRecDepth 20000 in
theorem gX4_odds_X4_asides : GoodIn wsX4_odds (wsV RX4 177 RX4 yX4_asides wsX4_asides) := goodIn_app (goodIn_of _ (by decide +kernel)) ggX4_odds_X4_asides
set_option maxRecDepth 20000 in
theorem ggX4_odds_X4_jar : GoodIn wsX4_odds wsX4_jar := goodIn_r _ [18, 5, 49, 50, 51, 52, 53, 54, 55, 56, 57, 58, 59, 60, 61, 62, 63, 64, 65, 66, 67, 68, 69, 70, 71] (by decide +kernel) (by decide +kernel)
set_option maxRecDepth 20000 in
theorem gX4_odds_X4_jar : GoodIn wsX4_odds (wsV RX4 117 RX4 yX4_jar wsX4_jar) := goodIn_app (goodIn_of _ (by decide +kernel)) ggX4_odds_X4_jar
set_option maxRecDepth 20000 in
theorem ggX4_odds_X4_worksOff : GoodIn wsX4_odds wsX4_worksOff := goodIn_r _ [22, 3, 23, 24, 25, 8, 26, 27, 28, 29, 30, 31, 32, 15, 16, 17, 18, 5, 33, 34, 35, 49, 50, 51, 52, 53, 54, 55, 56, 57, 58, 59, 60, 61, 62, 63, 64, 65, 66, 67, 68, 69, 70, 71] (by decide +kernel) (by decide +kernel)
set_option maxRecDepth 20000 in
theorem gX4_odds_X4_worksOff : GoodIn wsX4_odds (wsV RX4 169 RX4 yX4_worksOff wsX4_worksOff) := goodIn_app (goodIn_of _ (by decide +kernel)) ggX4_odds_X4_worksOff
set_option maxRecDepth 20000 in
theorem ggX4_odds_X4_many : GoodIn wsX4_odds wsX4_many := goodIn_r _ [38] (by decide +kernel) (by decide +kernel)
set_option maxRecDepth 20000 in
theorem gX4_odds_X4_many : GoodIn wsX4_odds (va_wsS RX4 172 yX4_many wsX4_many) := goodIn_app (goodIn_of _ (by decide +kernel)) ggX4_odds_X4_many
set_option maxRecDepth 20000 in
theorem ggX4_odds_X4_backs : GoodIn wsX4_odds wsX4_backs := goodIn_r _ [42, 5, 14, 49, 50, 51, 52, 53, 54, 55, 56, 57, 58, 59, 60, 61, 62, 63, 64, 65, 66, 67, 68, 69, 70, 71] (by decide +kernel) (by decide +kernel)
set_option maxRecDepth 20000 in
theorem gX4_odds_X4_backs : GoodIn wsX4_odds (wsV RX4 184 RX4 yX4_backs wsX4_backs) := goodIn_app (goodIn_of _ (by decide +kernel)) ggX4_odds_X4_backs
set_option maxRecDepth 20000 in
theorem ggX4_odds_X4_fraction : GoodIn wsX4_odds wsX4_fraction := goodIn_r _ [46, 47, 48, 49, 50, 51, 52, 53, 54, 55, 56, 57, 58, 59, 60, 61, 62, 63, 64, 65, 66, 67, 68, 69, 70, 71] (by decide +kernel) (by decide +kernel)
set_option maxRecDepth 20000 in
theorem gX4_odds_X4_fraction : GoodIn wsX4_odds (wsV RX4 210 RX4 yX4_fraction wsX4_fraction) := goodIn_app (goodIn_of _ (by decide +kernel)) ggX4_odds_X4_fraction
theorem dX4_odds_0 : decode cX4_odds 0 = .ok (.iload_n 1, 1) := by decide +kernel
theorem dX4_odds_1 : decode cX4_odds 1 = .ok (.i2l, 1) := by decide +kernel
theorem dX4_odds_2 : decode cX4_odds 2 = .ok (.lconst 0, 1) := by decide +kernel
theorem dX4_odds_3 : decode cX4_odds 3 = .ok (.ldc2_w 206, 3) := by decide +kernel
theorem dX4_odds_6 : decode cX4_odds 6 = .ok (.invokestatic 74, 3) := by decide +kernel
theorem dX4_odds_9 : decode cX4_odds 9 = .ok (.ifCond .eq 15, 3) := by decide +kernel
theorem dX4_odds_12 : decode cX4_odds 12 = .ok (.iload_n 2, 1) := by decide +kernel
theorem dX4_odds_13 : decode cX4_odds 13 = .ok (.i2l, 1) := by decide +kernel
theorem dX4_odds_14 : decode cX4_odds 14 = .ok (.lconst 0, 1) := by decide +kernel
theorem dX4_odds_15 : decode cX4_odds 15 = .ok (.ldc2_w 208, 3) := by decide +kernel
theorem dX4_odds_18 : decode cX4_odds 18 = .ok (.invokestatic 74, 3) := by decide +kernel
theorem dX4_odds_21 : decode cX4_odds 21 = .ok (.ifCond .ne 5, 3) := by decide +kernel
theorem dX4_odds_24 : decode cX4_odds 24 = .ok (.iconst (-1), 1) := by decide +kernel
theorem dX4_odds_25 : decode cX4_odds 25 = .ok (.ireturn, 1) := by decide +kernel
theorem dX4_odds_26 : decode cX4_odds 26 = .ok (.aload_n 0, 1) := by decide +kernel
theorem dX4_odds_27 : decode cX4_odds 27 = .ok (.getfield 111, 3) := by decide +kernel
theorem dX4_odds_30 : decode cX4_odds 30 = .ok (.ifCond .ne 6, 3) := by decide +kernel
theorem dX4_odds_33 : decode cX4_odds 33 = .ok (.bipush (-4), 2) := by decide +kernel
theorem dX4_odds_35 : decode cX4_odds 35 = .ok (.ireturn, 1) := by decide +kernel
theorem dX4_odds_36 : decode cX4_odds 36 = .ok (.lconst 0, 1) := by decide +kernel
theorem dX4_odds_37 : decode cX4_odds 37 = .ok (.lstore_n 3, 1) := by decide +kernel
theorem dX4_odds_38 : decode cX4_odds 38 = .ok (.lconst 0, 1) := by decide +kernel
theorem dX4_odds_39 : decode cX4_odds 39 = .ok (.lstore 5, 2) := by decide +kernel
theorem dX4_odds_41 : decode cX4_odds 41 = .ok (.aload_n 0, 1) := by decide +kernel
theorem dX4_odds_42 : decode cX4_odds 42 = .ok (.invokevirtual 177, 3) := by decide +kernel
theorem dX4_odds_45 : decode cX4_odds 45 = .ok (.iconst 0, 1) := by decide +kernel
theorem dX4_odds_46 : decode cX4_odds 46 = .ok (.istore 7, 2) := by decide +kernel
theorem dX4_odds_48 : decode cX4_odds 48 = .ok (.iload 7, 2) := by decide +kernel
theorem dX4_odds_50 : decode cX4_odds 50 = .ok (.iconst 1, 1) := by decide +kernel
theorem dX4_odds_51 : decode cX4_odds 51 = .ok (.aload_n 0, 1) := by decide +kernel
theorem dX4_odds_52 : decode cX4_odds 52 = .ok (.getfield 111, 3) := by decide +kernel
theorem dX4_odds_55 : decode cX4_odds 55 = .ok (.ishl, 1) := by decide +kernel
theorem dX4_odds_56 : decode cX4_odds 56 = .ok (.if_icmp .ge 147, 3) := by decide +kernel
theorem dX4_odds_59 : decode cX4_odds 59 = .ok (.lconst 1, 1) := by decide +kernel
theorem dX4_odds_60 : decode cX4_odds 60 = .ok (.lstore 8, 2) := by decide +kernel
theorem dX4_odds_62 : decode cX4_odds 62 = .ok (.iconst 0, 1) := by decide +kernel
theorem dX4_odds_63 : decode cX4_odds 63 = .ok (.istore 10, 2) := by decide +kernel
theorem dX4_odds_65 : decode cX4_odds 65 = .ok (.iload 10, 2) := by decide +kernel
theorem dX4_odds_67 : decode cX4_odds 67 = .ok (.aload_n 0, 1) := by decide +kernel
theorem dX4_odds_68 : decode cX4_odds 68 = .ok (.getfield 111, 3) := by decide +kernel
theorem dX4_odds_71 : decode cX4_odds 71 = .ok (.if_icmp .ge 95, 3) := by decide +kernel
theorem dX4_odds_74 : decode cX4_odds 74 = .ok (.iload 7, 2) := by decide +kernel
theorem dX4_odds_76 : decode cX4_odds 76 = .ok (.iload 10, 2) := by decide +kernel
theorem dX4_odds_78 : decode cX4_odds 78 = .ok (.ishr, 1) := by decide +kernel
theorem dX4_odds_79 : decode cX4_odds 79 = .ok (.iconst 1, 1) := by decide +kernel
theorem dX4_odds_80 : decode cX4_odds 80 = .ok (.iand, 1) := by decide +kernel
theorem dX4_odds_81 : decode cX4_odds 81 = .ok (.iconst 1, 1) := by decide +kernel
theorem dX4_odds_82 : decode cX4_odds 82 = .ok (.if_icmp .ne 7, 3) := by decide +kernel
theorem dX4_odds_85 : decode cX4_odds 85 = .ok (.iconst 1, 1) := by decide +kernel
theorem dX4_odds_86 : decode cX4_odds 86 = .ok (.goto 4, 3) := by decide +kernel
theorem dX4_odds_89 : decode cX4_odds 89 = .ok (.iconst 0, 1) := by decide +kernel
theorem dX4_odds_90 : decode cX4_odds 90 = .ok (.istore 11, 2) := by decide +kernel
theorem dX4_odds_92 : decode cX4_odds 92 = .ok (.aload_n 0, 1) := by decide +kernel
theorem dX4_odds_93 : decode cX4_odds 93 = .ok (.iload 10, 2) := by decide +kernel
theorem dX4_odds_95 : decode cX4_odds 95 = .ok (.invokevirtual 117, 3) := by decide +kernel
theorem dX4_odds_98 : decode cX4_odds 98 = .ok (.iload 11, 2) := by decide +kernel
theorem dX4_odds_100 : decode cX4_odds 100 = .ok (.ifCond .eq 7, 3) := by decide +kernel
theorem dX4_odds_103 : decode cX4_odds 103 = .ok (.iconst 0, 1) := by decide +kernel
theorem dX4_odds_104 : decode cX4_odds 104 = .ok (.goto 10, 3) := by decide +kernel
theorem dX4_odds_107 : decode cX4_odds 107 = .ok (.aload_n 0, 1) := by decide +kernel
theorem dX4_odds_108 : decode cX4_odds 108 = .ok (.getfield 38, 3) := by decide +kernel
theorem dX4_odds_111 : decode cX4_odds 111 = .ok (.iload 10, 2) := by decide +kernel
theorem dX4_odds_113 : decode cX4_odds 113 = .ok (.iaload, 1) := by decide +kernel
theorem dX4_odds_114 : decode cX4_odds 114 = .ok (.iadd, 1) := by decide +kernel
theorem dX4_odds_115 : decode cX4_odds 115 = .ok (.istore 12, 2) := by decide +kernel
theorem dX4_odds_117 : decode cX4_odds 117 = .ok (.lload 8, 2) := by decide +kernel
theorem dX4_odds_119 : decode cX4_odds 119 = .ok (.iload 11, 2) := by decide +kernel
theorem dX4_odds_121 : decode cX4_odds 121 = .ok (.ifCond .eq 8, 3) := by decide +kernel
theorem dX4_odds_124 : decode cX4_odds 124 = .ok (.iload_n 2, 1) := by decide +kernel
theorem dX4_odds_125 : decode cX4_odds 125 = .ok (.i2l, 1) := by decide +kernel
theorem dX4_odds_126 : decode cX4_odds 126 = .ok (.goto 8, 3) := by decide +kernel
theorem dX4_odds_129 : decode cX4_odds 129 = .ok (.bipush 12, 2) := by decide +kernel
theorem dX4_odds_131 : decode cX4_odds 131 = .ok (.iload_n 2, 1) := by decide +kernel
theorem dX4_odds_132 : decode cX4_odds 132 = .ok (.isub, 1) := by decide +kernel
theorem dX4_odds_133 : decode cX4_odds 133 = .ok (.i2l, 1) := by decide +kernel
theorem dX4_odds_134 : decode cX4_odds 134 = .ok (.lmul, 1) := by decide +kernel
theorem dX4_odds_135 : decode cX4_odds 135 = .ok (.lstore 8, 2) := by decide +kernel
theorem dX4_odds_137 : decode cX4_odds 137 = .ok (.aload_n 0, 1) := by decide +kernel
theorem dX4_odds_138 : decode cX4_odds 138 = .ok (.getfield 44, 3) := by decide +kernel
theorem dX4_odds_141 : decode cX4_odds 141 = .ok (.iconst 2, 1) := by decide +kernel
theorem dX4_odds_142 : decode cX4_odds 142 = .ok (.iload 10, 2) := by decide +kernel
theorem dX4_odds_144 : decode cX4_odds 144 = .ok (.iadd, 1) := by decide +kernel
theorem dX4_odds_145 : decode cX4_odds 145 = .ok (.iload 12, 2) := by decide +kernel
theorem dX4_odds_147 : decode cX4_odds 147 = .ok (.bipush 99, 2) := by decide +kernel
theorem dX4_odds_149 : decode cX4_odds 149 = .ok (.if_icmp .le 8, 3) := by decide +kernel
theorem dX4_odds_152 : decode cX4_odds 152 = .ok (.bipush 99, 2) := by decide +kernel
theorem dX4_odds_154 : decode cX4_odds 154 = .ok (.goto 5, 3) := by decide +kernel
theorem dX4_odds_157 : decode cX4_odds 157 = .ok (.iload 12, 2) := by decide +kernel
theorem dX4_odds_159 : decode cX4_odds 159 = .ok (.iastore, 1) := by decide +kernel
theorem dX4_odds_160 : decode cX4_odds 160 = .ok (.iinc 10 1, 3) := by decide +kernel
theorem dX4_odds_163 : decode cX4_odds 163 = .ok (.goto (-98), 3) := by decide +kernel
theorem dX4_odds_166 : decode cX4_odds 166 = .ok (.lload 5, 2) := by decide +kernel
theorem dX4_odds_168 : decode cX4_odds 168 = .ok (.lload 8, 2) := by decide +kernel
theorem dX4_odds_170 : decode cX4_odds 170 = .ok (.ladd, 1) := by decide +kernel
theorem dX4_odds_171 : decode cX4_odds 171 = .ok (.lstore 5, 2) := by decide +kernel
theorem dX4_odds_173 : decode cX4_odds 173 = .ok (.lload_n 3, 1) := by decide +kernel
theorem dX4_odds_174 : decode cX4_odds 174 = .ok (.aload_n 0, 1) := by decide +kernel
theorem dX4_odds_175 : decode cX4_odds 175 = .ok (.invokevirtual 169, 3) := by decide +kernel
theorem dX4_odds_178 : decode cX4_odds 178 = .ok (.invokestatic 172, 3) := by decide +kernel
theorem dX4_odds_181 : decode cX4_odds 181 = .ok (.iload_n 1, 1) := by decide +kernel
theorem dX4_odds_182 : decode cX4_odds 182 = .ok (.if_icmp .lt 8, 3) := by decide +kernel
theorem dX4_odds_185 : decode cX4_odds 185 = .ok (.lload 8, 2) := by decide +kernel
theorem dX4_odds_187 : decode cX4_odds 187 = .ok (.goto 4, 3) := by decide +kernel
theorem dX4_odds_190 : decode cX4_odds 190 = .ok (.lconst 0, 1) := by decide +kernel
theorem dX4_odds_191 : decode cX4_odds 191 = .ok (.ladd, 1) := by decide +kernel
theorem dX4_odds_192 : decode cX4_odds 192 = .ok (.lstore_n 3, 1) := by decide +kernel
theorem dX4_odds_193 : decode cX4_odds 193 = .ok (.aload_n 0, 1) := by decide +kernel
theorem dX4_odds_194 : decode cX4_odds 194 = .ok (.invokevirtual 184, 3) := by decide +kernel
theorem dX4_odds_197 : decode cX4_odds 197 = .ok (.iinc 7 1, 3) := by decide +kernel
theorem dX4_odds_200 : decode cX4_odds 200 = .ok (.goto (-152), 3) := by decide +kernel
theorem dX4_odds_203 : decode cX4_odds 203 = .ok (.aload_n 0, 1) := by decide +kernel
theorem dX4_odds_204 : decode cX4_odds 204 = .ok (.lload_n 3, 1) := by decide +kernel
theorem dX4_odds_205 : decode cX4_odds 205 = .ok (.lload 5, 2) := by decide +kernel
theorem dX4_odds_207 : decode cX4_odds 207 = .ok (.invokevirtual 210, 3) := by decide +kernel
theorem dX4_odds_210 : decode cX4_odds 210 = .ok (.ireturn, 1) := by decide +kernel
set_option maxRecDepth 20000 in
theorem ggX4_mid_X4_in : GoodIn wsX4_mid wsX4_in := goodIn_r _ [6] (by decide +kernel) (by decide +kernel)
set_option maxRecDepth 20000 in
theorem gX4_mid_X4_in : GoodIn wsX4_mid (va_wsS RX4 74 yX4_in wsX4_in) := goodIn_app (goodIn_of _ (by decide +kernel)) ggX4_mid_X4_in
set_option maxRecDepth 20000 in
theorem ggX4_mid_X4_worksOff : GoodIn wsX4_mid wsX4_worksOff := goodIn_r _ [10, 2, 11, 12, 13, 5, 14, 15, 16, 17, 18, 19, 20, 21, 22, 23, 24, 25, 26, 27, 28, 49, 50, 51, 52, 53, 54, 55, 56, 57, 58, 59, 60, 61, 62, 63, 64, 65, 66, 67, 68, 69, 70, 71] (by decide +kernel) (by decide +kernel)
set_option maxRecDepth 20000 in
theorem gX4_mid_X4_worksOff : GoodIn wsX4_mid (wsV RX4 169 RX4 yX4_worksOff wsX4_worksOff) := goodIn_app (goodIn_of _ (by decide +kernel)) ggX4_mid_X4_worksOff
set_option maxRecDepth 20000 in
theorem ggX4_mid_X4_asides : GoodIn wsX4_mid wsX4_asides := goodIn_r _ [32, 33, 25, 49, 50, 51, 52, 53, 54, 55, 56, 57, 58, 59, 60, 61, 62, 63, 64, 65, 66, 67, 68, 69, 70, 71] (by decide +kernel) (by decide +kernel)
set_option maxRecDepth 20000 in
theorem gX4_mid_X4_asides : GoodIn wsX4_mid (wsV RX4 177 RX4 yX4_asides wsX4_asides) := goodIn_app (goodIn_of _ (by decide +kernel)) ggX4_mid_X4_asides
set_option maxRecDepth 20000 in
theorem ggX4_mid_X4_goesBy : GoodIn wsX4_mid wsX4_goesBy := goodIn_r _ [37, 2, 38, 25, 21, 22, 23, 5, 24, 49, 50, 51, 52, 53, 54, 55, 56, 57, 58, 59, 60, 61, 62, 63, 64, 65, 66, 67, 68, 69, 70, 71] (by decide +kernel) (by decide +kernel)
set_option maxRecDepth 20000 in
theorem gX4_mid_X4_goesBy : GoodIn wsX4_mid (wsV RX4 152 RX4 yX4_goesBy wsX4_goesBy) := goodIn_app (goodIn_of _ (by decide +kernel)) ggX4_mid_X4_goesBy
set_option maxRecDepth 20000 in
theorem ggX4_mid_X4_backs : GoodIn wsX4_mid wsX4_backs := goodIn_r _ [42, 25, 33, 49, 50, 51, 52, 53, 54, 55, 56, 57, 58, 59, 60, 61, 62, 63, 64, 65, 66, 67, 68, 69, 70, 71] (by decide +kernel) (by decide +kernel)
set_option maxRecDepth 20000 in
theorem gX4_mid_X4_backs : GoodIn wsX4_mid (wsV RX4 184 RX4 yX4_backs wsX4_backs) := goodIn_app (goodIn_of _ (by decide +kernel)) ggX4_mid_X4_backs
set_option maxRecDepth 20000 in
theorem ggX4_mid_X4_fraction : GoodIn wsX4_mid wsX4_fraction := goodIn_r _ [46, 47, 48, 49, 50, 51, 52, 53, 54, 55, 56, 57, 58, 59, 60, 61, 62, 63, 64, 65, 66, 67, 68, 69, 70, 71] (by decide +kernel) (by decide +kernel)
set_option maxRecDepth 20000 in
theorem gX4_mid_X4_fraction : GoodIn wsX4_mid (wsV RX4 210 RX4 yX4_fraction wsX4_fraction) := goodIn_app (goodIn_of _ (by decide +kernel)) ggX4_mid_X4_fraction
theorem dX4_mid_0 : decode cX4_mid 0 = .ok (.iload_n 1, 1) := by decide +kernel
theorem dX4_mid_1 : decode cX4_mid 1 = .ok (.i2l, 1) := by decide +kernel
theorem dX4_mid_2 : decode cX4_mid 2 = .ok (.lconst 0, 1) := by decide +kernel
theorem dX4_mid_3 : decode cX4_mid 3 = .ok (.ldc2_w 208, 3) := by decide +kernel
theorem dX4_mid_6 : decode cX4_mid 6 = .ok (.invokestatic 74, 3) := by decide +kernel
theorem dX4_mid_9 : decode cX4_mid 9 = .ok (.ifCond .ne 5, 3) := by decide +kernel
theorem dX4_mid_12 : decode cX4_mid 12 = .ok (.iconst (-1), 1) := by decide +kernel
theorem dX4_mid_13 : decode cX4_mid 13 = .ok (.ireturn, 1) := by decide +kernel
theorem dX4_mid_14 : decode cX4_mid 14 = .ok (.aload_n 0, 1) := by decide +kernel
theorem dX4_mid_15 : decode cX4_mid 15 = .ok (.getfield 111, 3) := by decide +kernel
theorem dX4_mid_18 : decode cX4_mid 18 = .ok (.ifCond .ne 6, 3) := by decide +kernel
theorem dX4_mid_21 : decode cX4_mid 21 = .ok (.bipush (-4), 2) := by decide +kernel
theorem dX4_mid_23 : decode cX4_mid 23 = .ok (.ireturn, 1) := by decide +kernel
theorem dX4_mid_24 : decode cX4_mid 24 = .ok (.lconst 0, 1) := by decide +kernel
theorem dX4_mid_25 : decode cX4_mid 25 = .ok (.lstore_n 2, 1) := by decide +kernel
theorem dX4_mid_26 : decode cX4_mid 26 = .ok (.aload_n 0, 1) := by decide +kernel
theorem dX4_mid_27 : decode cX4_mid 27 = .ok (.invokevirtual 169, 3) := by decide +kernel
theorem dX4_mid_30 : decode cX4_mid 30 = .ok (.istore 4, 2) := by decide +kernel
theorem dX4_mid_32 : decode cX4_mid 32 = .ok (.aload_n 0, 1) := by decide +kernel
theorem dX4_mid_33 : decode cX4_mid 33 = .ok (.invokevirtual 177, 3) := by decide +kernel
theorem dX4_mid_36 : decode cX4_mid 36 = .ok (.aload_n 0, 1) := by decide +kernel
theorem dX4_mid_37 : decode cX4_mid 37 = .ok (.invokevirtual 152, 3) := by decide +kernel
theorem dX4_mid_40 : decode cX4_mid 40 = .ok (.aload_n 0, 1) := by decide +kernel
theorem dX4_mid_41 : decode cX4_mid 41 = .ok (.invokevirtual 169, 3) := by decide +kernel
theorem dX4_mid_44 : decode cX4_mid 44 = .ok (.istore 5, 2) := by decide +kernel
theorem dX4_mid_46 : decode cX4_mid 46 = .ok (.aload_n 0, 1) := by decide +kernel
theorem dX4_mid_47 : decode cX4_mid 47 = .ok (.invokevirtual 184, 3) := by decide +kernel
theorem dX4_mid_50 : decode cX4_mid 50 = .ok (.iconst 0, 1) := by decide +kernel
theorem dX4_mid_51 : decode cX4_mid 51 = .ok (.istore 6, 2) := by decide +kernel
theorem dX4_mid_53 : decode cX4_mid 53 = .ok (.iload 6, 2) := by decide +kernel
theorem dX4_mid_55 : decode cX4_mid 55 = .ok (.aload_n 0, 1) := by decide +kernel
theorem dX4_mid_56 : decode cX4_mid 56 = .ok (.getfield 111, 3) := by decide +kernel
theorem dX4_mid_59 : decode cX4_mid 59 = .ok (.if_icmp .ge 35, 3) := by decide +kernel
theorem dX4_mid_62 : decode cX4_mid 62 = .ok (.lload_n 2, 1) := by decide +kernel
theorem dX4_mid_63 : decode cX4_mid 63 = .ok (.iload 4, 2) := by decide +kernel
theorem dX4_mid_65 : decode cX4_mid 65 = .ok (.iload 6, 2) := by decide +kernel
theorem dX4_mid_67 : decode cX4_mid 67 = .ok (.ishr, 1) := by decide +kernel
theorem dX4_mid_68 : decode cX4_mid 68 = .ok (.iconst 1, 1) := by decide +kernel
theorem dX4_mid_69 : decode cX4_mid 69 = .ok (.iand, 1) := by decide +kernel
theorem dX4_mid_70 : decode cX4_mid 70 = .ok (.iload_n 1, 1) := by decide +kernel
theorem dX4_mid_71 : decode cX4_mid 71 = .ok (.imul, 1) := by decide +kernel
theorem dX4_mid_72 : decode cX4_mid 72 = .ok (.iload 5, 2) := by decide +kernel
theorem dX4_mid_74 : decode cX4_mid 74 = .ok (.iload 6, 2) := by decide +kernel
theorem dX4_mid_76 : decode cX4_mid 76 = .ok (.ishr, 1) := by decide +kernel
theorem dX4_mid_77 : decode cX4_mid 77 = .ok (.iconst 1, 1) := by decide +kernel
theorem dX4_mid_78 : decode cX4_mid 78 = .ok (.iand, 1) := by decide +kernel
theorem dX4_mid_79 : decode cX4_mid 79 = .ok (.bipush 12, 2) := by decide +kernel
theorem dX4_mid_81 : decode cX4_mid 81 = .ok (.iload_n 1, 1) := by decide +kernel
theorem dX4_mid_82 : decode cX4_mid 82 = .ok (.isub, 1) := by decide +kernel
theorem dX4_mid_83 : decode cX4_mid 83 = .ok (.imul, 1) := by decide +kernel
theorem dX4_mid_84 : decode cX4_mid 84 = .ok (.iadd, 1) := by decide +kernel
theorem dX4_mid_85 : decode cX4_mid 85 = .ok (.i2l, 1) := by decide +kernel
theorem dX4_mid_86 : decode cX4_mid 86 = .ok (.ladd, 1) := by decide +kernel
theorem dX4_mid_87 : decode cX4_mid 87 = .ok (.lstore_n 2, 1) := by decide +kernel
theorem dX4_mid_88 : decode cX4_mid 88 = .ok (.iinc 6 1, 3) := by decide +kernel
theorem dX4_mid_91 : decode cX4_mid 91 = .ok (.goto (-38), 3) := by decide +kernel
theorem dX4_mid_94 : decode cX4_mid 94 = .ok (.aload_n 0, 1) := by decide +kernel
theorem dX4_mid_95 : decode cX4_mid 95 = .ok (.lload_n 2, 1) := by decide +kernel
theorem dX4_mid_96 : decode cX4_mid 96 = .ok (.ldc2_w 208, 3) := by decide +kernel
theorem dX4_mid_99 : decode cX4_mid 99 = .ok (.invokevirtual 210, 3) := by decide +kernel
theorem dX4_mid_102 : decode cX4_mid 102 = .ok (.ireturn, 1) := by decide +kernel
set_option maxRecDepth 20000 in
theorem ggX4_lots_X4_in : GoodIn wsX4_lots wsX4_in := goodIn_r _ [12] (by decide +kernel) (by decide +kernel)
set_option maxRecDepth 20000 in
theorem gX4_lots_X4_in : GoodIn wsX4_lots (va_wsS RX4 74 yX4_in wsX4_in) := goodIn_app (goodIn_of _ (by decide +kernel)) ggX4_lots_X4_in
set_option maxRecDepth 20000 in
theorem ggX4_lots_X4_notes : GoodIn wsX4_lots wsX4_notes := goodIn_r _ [16, 17, 4, 8, 52, 53, 54, 55, 56, 57, 58, 59, 60, 61, 62, 63, 64, 65, 66, 67, 68, 69, 70, 71, 72, 73, 74] (by decide +kernel) (by decide +kernel)
set_option maxRecDepth 20000 in
theorem gX4_lots_X4_notes : GoodIn wsX4_lots (wsV RX4 149 RX4 yX4_notes wsX4_notes) := goodIn_app (goodIn_of _ (by decide +kernel)) ggX4_lots_X4_notes
set_option maxRecDepth 20000 in
theorem ggX4_lots_X4_springs : GoodIn wsX4_lots wsX4_springs := goodIn_r _ [21, 8, 3, 22, 23, 24, 11, 25, 26, 27, 28, 29, 30, 31, 32, 33, 34, 52, 53, 54, 55, 56, 57, 58, 59, 60, 61, 62, 63, 64, 65, 66, 67, 68, 69, 70, 71, 72, 73, 74] (by decide +kernel) (by decide +kernel)
set_option maxRecDepth 20000 in
theorem gX4_lots_X4_springs : GoodIn wsX4_lots (wsV RX4 155 RX4 yX4_springs wsX4_springs) := goodIn_app (goodIn_of _ (by decide +kernel)) ggX4_lots_X4_springs
set_option maxRecDepth 20000 in
theorem ggX4_lots_X4_leavesNine : GoodIn wsX4_lots wsX4_leavesNine := goodIn_r _ [38, 27, 28, 29, 11, 30, 8, 39, 40, 41, 42, 52, 53, 54, 55, 56, 57, 58, 59, 60, 61, 62, 63, 64, 65, 66, 67, 68, 69, 70, 71, 72, 73, 74] (by decide +kernel) (by decide +kernel)
set_option maxRecDepth 20000 in
theorem gX4_lots_X4_leavesNine : GoodIn wsX4_lots (wsV RX4 203 RX4 yX4_leavesNine wsX4_leavesNine) := goodIn_app (goodIn_of _ (by decide +kernel)) ggX4_lots_X4_leavesNine
set_option maxRecDepth 20000 in
theorem ggX4_lots_X4_takesNine : GoodIn wsX4_lots wsX4_takesNine := goodIn_r _ [46, 8, 27, 28, 29, 11, 30, 39, 40, 41, 42, 52, 53, 54, 55, 56, 57, 58, 59, 60, 61, 62, 63, 64, 65, 66, 67, 68, 69, 70, 71, 72, 73, 74] (by decide +kernel) (by decide +kernel)
set_option maxRecDepth 20000 in
theorem gX4_lots_X4_takesNine : GoodIn wsX4_lots (wsV RX4 200 RX4 yX4_takesNine wsX4_takesNine) := goodIn_app (goodIn_of _ (by decide +kernel)) ggX4_lots_X4_takesNine
set_option maxRecDepth 20000 in
theorem ggX4_lots_X4_goesBy : GoodIn wsX4_lots wsX4_goesBy := goodIn_r _ [50, 3, 51, 8, 27, 28, 29, 11, 30, 52, 53, 54, 55, 56, 57, 58, 59, 60, 61, 62, 63, 64, 65, 66, 67, 68, 69, 70, 71, 72, 73, 74] (by decide +kernel) (by decide +kernel)
set_option maxRecDepth 20000 in
theorem gX4_lots_X4_goesBy : GoodIn wsX4_lots (wsV RX4 152 RX4 yX4_goesBy wsX4_goesBy) := goodIn_app (goodIn_of _ (by decide +kernel)) ggX4_lots_X4_goesBy
theorem dX4_lots_0 : decode cX4_lots 0 = .ok (.iload_n 1, 1) := by decide +kernel
theorem dX4_lots_1 : decode cX4_lots 1 = .ok (.i2l, 1) := by decide +kernel
theorem dX4_lots_2 : decode cX4_lots 2 = .ok (.lconst 1, 1) := by decide +kernel
theorem dX4_lots_3 : decode cX4_lots 3 = .ok (.ldc2_w 214, 3) := by decide +kernel
theorem dX4_lots_6 : decode cX4_lots 6 = .ok (.invokestatic 74, 3) := by decide +kernel
theorem dX4_lots_9 : decode cX4_lots 9 = .ok (.ifCond .eq 15, 3) := by decide +kernel
theorem dX4_lots_12 : decode cX4_lots 12 = .ok (.iload_n 2, 1) := by decide +kernel
theorem dX4_lots_13 : decode cX4_lots 13 = .ok (.i2l, 1) := by decide +kernel
theorem dX4_lots_14 : decode cX4_lots 14 = .ok (.lconst 1, 1) := by decide +kernel
theorem dX4_lots_15 : decode cX4_lots 15 = .ok (.ldc2_w 216, 3) := by decide +kernel
theorem dX4_lots_18 : decode cX4_lots 18 = .ok (.invokestatic 74, 3) := by decide +kernel
theorem dX4_lots_21 : decode cX4_lots 21 = .ok (.ifCond .ne 5, 3) := by decide +kernel
theorem dX4_lots_24 : decode cX4_lots 24 = .ok (.iconst (-1), 1) := by decide +kernel
theorem dX4_lots_25 : decode cX4_lots 25 = .ok (.ireturn, 1) := by decide +kernel
theorem dX4_lots_26 : decode cX4_lots 26 = .ok (.aload_n 0, 1) := by decide +kernel
theorem dX4_lots_27 : decode cX4_lots 27 = .ok (.getfield 111, 3) := by decide +kernel
theorem dX4_lots_30 : decode cX4_lots 30 = .ok (.ifCond .ne 6, 3) := by decide +kernel
theorem dX4_lots_33 : decode cX4_lots 33 = .ok (.bipush (-4), 2) := by decide +kernel
theorem dX4_lots_35 : decode cX4_lots 35 = .ok (.ireturn, 1) := by decide +kernel
theorem dX4_lots_36 : decode cX4_lots 36 = .ok (.aload_n 0, 1) := by decide +kernel
theorem dX4_lots_37 : decode cX4_lots 37 = .ok (.getfield 114, 3) := by decide +kernel
theorem dX4_lots_40 : decode cX4_lots 40 = .ok (.iload_n 1, 1) := by decide +kernel
theorem dX4_lots_41 : decode cX4_lots 41 = .ok (.iadd, 1) := by decide +kernel
theorem dX4_lots_42 : decode cX4_lots 42 = .ok (.bipush 40, 2) := by decide +kernel
theorem dX4_lots_44 : decode cX4_lots 44 = .ok (.if_icmp .le 6, 3) := by decide +kernel
theorem dX4_lots_47 : decode cX4_lots 47 = .ok (.bipush (-2), 2) := by decide +kernel
theorem dX4_lots_49 : decode cX4_lots 49 = .ok (.ireturn, 1) := by decide +kernel
theorem dX4_lots_50 : decode cX4_lots 50 = .ok (.iload_n 2, 1) := by decide +kernel
theorem dX4_lots_51 : decode cX4_lots 51 = .ok (.i2l, 1) := by decide +kernel
theorem dX4_lots_52 : decode cX4_lots 52 = .ok (.lstore_n 3, 1) := by decide +kernel
theorem dX4_lots_53 : decode cX4_lots 53 = .ok (.iconst 0, 1) := by decide +kernel
theorem dX4_lots_54 : decode cX4_lots 54 = .ok (.istore 5, 2) := by decide +kernel
theorem dX4_lots_56 : decode cX4_lots 56 = .ok (.iload 5, 2) := by decide +kernel
theorem dX4_lots_58 : decode cX4_lots 58 = .ok (.iload_n 1, 1) := by decide +kernel
theorem dX4_lots_59 : decode cX4_lots 59 = .ok (.if_icmp .ge 103, 3) := by decide +kernel
theorem dX4_lots_62 : decode cX4_lots 62 = .ok (.lload_n 3, 1) := by decide +kernel
theorem dX4_lots_63 : decode cX4_lots 63 = .ok (.ldc2_w 218, 3) := by decide +kernel
theorem dX4_lots_66 : decode cX4_lots 66 = .ok (.lmul, 1) := by decide +kernel
theorem dX4_lots_67 : decode cX4_lots 67 = .ok (.ldc2_w 220, 3) := by decide +kernel
theorem dX4_lots_70 : decode cX4_lots 70 = .ok (.lrem, 1) := by decide +kernel
theorem dX4_lots_71 : decode cX4_lots 71 = .ok (.lstore_n 3, 1) := by decide +kernel
theorem dX4_lots_72 : decode cX4_lots 72 = .ok (.lload_n 3, 1) := by decide +kernel
theorem dX4_lots_73 : decode cX4_lots 73 = .ok (.ldc2_w 222, 3) := by decide +kernel
theorem dX4_lots_76 : decode cX4_lots 76 = .ok (.lrem, 1) := by decide +kernel
theorem dX4_lots_77 : decode cX4_lots 77 = .ok (.l2i, 1) := by decide +kernel
theorem dX4_lots_78 : decode cX4_lots 78 = .ok (.istore 6, 2) := by decide +kernel
theorem dX4_lots_80 : decode cX4_lots 80 = .ok (.lload_n 3, 1) := by decide +kernel
theorem dX4_lots_81 : decode cX4_lots 81 = .ok (.ldc2_w 222, 3) := by decide +kernel
theorem dX4_lots_84 : decode cX4_lots 84 = .ok (.ldiv, 1) := by decide +kernel
theorem dX4_lots_85 : decode cX4_lots 85 = .ok (.aload_n 0, 1) := by decide +kernel
theorem dX4_lots_86 : decode cX4_lots 86 = .ok (.getfield 111, 3) := by decide +kernel
theorem dX4_lots_89 : decode cX4_lots 89 = .ok (.i2l, 1) := by decide +kernel
theorem dX4_lots_90 : decode cX4_lots 90 = .ok (.lrem, 1) := by decide +kernel
theorem dX4_lots_91 : decode cX4_lots 91 = .ok (.l2i, 1) := by decide +kernel
theorem dX4_lots_92 : decode cX4_lots 92 = .ok (.istore 7, 2) := by decide +kernel
theorem dX4_lots_94 : decode cX4_lots 94 = .ok (.aload_n 0, 1) := by decide +kernel
theorem dX4_lots_95 : decode cX4_lots 95 = .ok (.invokevirtual 149, 3) := by decide +kernel
theorem dX4_lots_98 : decode cX4_lots 98 = .ok (.iload 6, 2) := by decide +kernel
theorem dX4_lots_100 : decode cX4_lots 100 = .ok (.ifCond .ne 11, 3) := by decide +kernel
theorem dX4_lots_103 : decode cX4_lots 103 = .ok (.aload_n 0, 1) := by decide +kernel
theorem dX4_lots_104 : decode cX4_lots 104 = .ok (.invokevirtual 155, 3) := by decide +kernel
theorem dX4_lots_107 : decode cX4_lots 107 = .ok (.pop, 1) := by decide +kernel
theorem dX4_lots_108 : decode cX4_lots 108 = .ok (.goto 48, 3) := by decide +kernel
theorem dX4_lots_111 : decode cX4_lots 111 = .ok (.iload 6, 2) := by decide +kernel
theorem dX4_lots_113 : decode cX4_lots 113 = .ok (.iconst 1, 1) := by decide +kernel
theorem dX4_lots_114 : decode cX4_lots 114 = .ok (.if_icmp .ne 12, 3) := by decide +kernel
theorem dX4_lots_117 : decode cX4_lots 117 = .ok (.aload_n 0, 1) := by decide +kernel
theorem dX4_lots_118 : decode cX4_lots 118 = .ok (.iload 7, 2) := by decide +kernel
theorem dX4_lots_120 : decode cX4_lots 120 = .ok (.invokevirtual 203, 3) := by decide +kernel
theorem dX4_lots_123 : decode cX4_lots 123 = .ok (.goto 33, 3) := by decide +kernel
theorem dX4_lots_126 : decode cX4_lots 126 = .ok (.iload 6, 2) := by decide +kernel
theorem dX4_lots_128 : decode cX4_lots 128 = .ok (.iconst 2, 1) := by decide +kernel
theorem dX4_lots_129 : decode cX4_lots 129 = .ok (.if_icmp .ne 12, 3) := by decide +kernel
theorem dX4_lots_132 : decode cX4_lots 132 = .ok (.aload_n 0, 1) := by decide +kernel
theorem dX4_lots_133 : decode cX4_lots 133 = .ok (.iload 7, 2) := by decide +kernel
theorem dX4_lots_135 : decode cX4_lots 135 = .ok (.invokevirtual 200, 3) := by decide +kernel
theorem dX4_lots_138 : decode cX4_lots 138 = .ok (.goto 18, 3) := by decide +kernel
theorem dX4_lots_141 : decode cX4_lots 141 = .ok (.aload_n 0, 1) := by decide +kernel
theorem dX4_lots_142 : decode cX4_lots 142 = .ok (.getfield 44, 3) := by decide +kernel
theorem dX4_lots_145 : decode cX4_lots 145 = .ok (.iconst 0, 1) := by decide +kernel
theorem dX4_lots_146 : decode cX4_lots 146 = .ok (.iaload, 1) := by decide +kernel
theorem dX4_lots_147 : decode cX4_lots 147 = .ok (.bipush 99, 2) := by decide +kernel
theorem dX4_lots_149 : decode cX4_lots 149 = .ok (.if_icmp .ge 7, 3) := by decide +kernel
theorem dX4_lots_152 : decode cX4_lots 152 = .ok (.aload_n 0, 1) := by decide +kernel
theorem dX4_lots_153 : decode cX4_lots 153 = .ok (.invokevirtual 152, 3) := by decide +kernel
theorem dX4_lots_156 : decode cX4_lots 156 = .ok (.iinc 5 1, 3) := by decide +kernel
theorem dX4_lots_159 : decode cX4_lots 159 = .ok (.goto (-103), 3) := by decide +kernel
theorem dX4_lots_162 : decode cX4_lots 162 = .ok (.aload_n 0, 1) := by decide +kernel
theorem dX4_lots_163 : decode cX4_lots 163 = .ok (.getfield 44, 3) := by decide +kernel
theorem dX4_lots_166 : decode cX4_lots 166 = .ok (.iconst 1, 1) := by decide +kernel
theorem dX4_lots_167 : decode cX4_lots 167 = .ok (.iaload, 1) := by decide +kernel
theorem dX4_lots_168 : decode cX4_lots 168 = .ok (.ireturn, 1) := by decide +kernel
theorem dX4_asked_0 : decode cX4_asked 0 = .ok (.aload_n 0, 1) := by decide +kernel
theorem dX4_asked_1 : decode cX4_asked 1 = .ok (.getfield 66, 3) := by decide +kernel
theorem dX4_asked_4 : decode cX4_asked 4 = .ok (.ireturn, 1) := by decide +kernel
theorem dX4_upper_0 : decode cX4_upper 0 = .ok (.aload_n 0, 1) := by decide +kernel
theorem dX4_upper_1 : decode cX4_upper 1 = .ok (.getfield 69, 3) := by decide +kernel
theorem dX4_upper_4 : decode cX4_upper 4 = .ok (.lreturn, 1) := by decide +kernel
theorem dX4_lower_0 : decode cX4_lower 0 = .ok (.aload_n 0, 1) := by decide +kernel
theorem dX4_lower_1 : decode cX4_lower 1 = .ok (.getfield 13, 3) := by decide +kernel
theorem dX4_lower_4 : decode cX4_lower 4 = .ok (.lreturn, 1) := by decide +kernel
set_option maxRecDepth 20000 in
theorem ggX4_ofKind_X4_isOf : GoodIn wsX4_ofKind wsX4_isOf := goodIn_r _ [6] (by decide +kernel) (by decide +kernel)
set_option maxRecDepth 20000 in
theorem gX4_ofKind_X4_isOf : GoodIn wsX4_ofKind (va_wsS RX4 143 yX4_isOf wsX4_isOf) := goodIn_app (goodIn_of _ (by decide +kernel)) ggX4_ofKind_X4_isOf
theorem dX4_ofKind_0 : decode cX4_ofKind 0 = .ok (.iconst 0, 1) := by decide +kernel
theorem dX4_ofKind_1 : decode cX4_ofKind 1 = .ok (.istore_n 2, 1) := by decide +kernel
theorem dX4_ofKind_2 : decode cX4_ofKind 2 = .ok (.iconst 0, 1) := by decide +kernel
theorem dX4_ofKind_3 : decode cX4_ofKind 3 = .ok (.istore_n 3, 1) := by decide +kernel
theorem dX4_ofKind_4 : decode cX4_ofKind 4 = .ok (.iload_n 3, 1) := by decide +kernel
theorem dX4_ofKind_5 : decode cX4_ofKind 5 = .ok (.aload_n 0, 1) := by decide +kernel
theorem dX4_ofKind_6 : decode cX4_ofKind 6 = .ok (.getfield 111, 3) := by decide +kernel
theorem dX4_ofKind_9 : decode cX4_ofKind 9 = .ok (.if_icmp .ge 30, 3) := by decide +kernel
theorem dX4_ofKind_12 : decode cX4_ofKind 12 = .ok (.iload_n 2, 1) := by decide +kernel
theorem dX4_ofKind_13 : decode cX4_ofKind 13 = .ok (.aload_n 0, 1) := by decide +kernel
theorem dX4_ofKind_14 : decode cX4_ofKind 14 = .ok (.getfield 35, 3) := by decide +kernel
theorem dX4_ofKind_17 : decode cX4_ofKind 17 = .ok (.iload_n 3, 1) := by decide +kernel
theorem dX4_ofKind_18 : decode cX4_ofKind 18 = .ok (.iaload, 1) := by decide +kernel
theorem dX4_ofKind_19 : decode cX4_ofKind 19 = .ok (.iload_n 1, 1) := by decide +kernel
theorem dX4_ofKind_20 : decode cX4_ofKind 20 = .ok (.invokestatic 143, 3) := by decide +kernel
theorem dX4_ofKind_23 : decode cX4_ofKind 23 = .ok (.ifCond .eq 7, 3) := by decide +kernel
theorem dX4_ofKind_26 : decode cX4_ofKind 26 = .ok (.iconst 1, 1) := by decide +kernel
theorem dX4_ofKind_27 : decode cX4_ofKind 27 = .ok (.goto 4, 3) := by decide +kernel
theorem dX4_ofKind_30 : decode cX4_ofKind 30 = .ok (.iconst 0, 1) := by decide +kernel
theorem dX4_ofKind_31 : decode cX4_ofKind 31 = .ok (.iadd, 1) := by decide +kernel
theorem dX4_ofKind_32 : decode cX4_ofKind 32 = .ok (.istore_n 2, 1) := by decide +kernel
theorem dX4_ofKind_33 : decode cX4_ofKind 33 = .ok (.iinc 3 1, 3) := by decide +kernel
theorem dX4_ofKind_36 : decode cX4_ofKind 36 = .ok (.goto (-32), 3) := by decide +kernel
theorem dX4_ofKind_39 : decode cX4_ofKind 39 = .ok (.iload_n 2, 1) := by decide +kernel
theorem dX4_ofKind_40 : decode cX4_ofKind 40 = .ok (.ireturn, 1) := by decide +kernel
set_option maxRecDepth 20000 in
theorem ggX4_sumOf_X4_told : GoodIn wsX4_sumOf wsX4_told := goodIn_r _ [6, 7, 8, 9, 10, 11, 12, 5, 13, 14, 15, 16, 17, 18, 19, 20, 21, 22, 23, 24, 25, 26, 27, 28, 29, 30, 31, 32, 33, 34, 35, 36, 37, 38, 39, 40, 41, 42, 43, 44, 45, 46, 47, 48, 49, 50, 51, 52, 53, 54, 55, 56] (by decide +kernel) (by decide +kernel)
set_option maxRecDepth 20000 in
theorem gX4_sumOf_X4_told : GoodIn wsX4_sumOf (wsV RX4 140 RX4 yX4_told wsX4_told) := goodIn_app (goodIn_of _ (by decide +kernel)) ggX4_sumOf_X4_told
theorem dX4_sumOf_0 : decode cX4_sumOf 0 = .ok (.iconst 0, 1) := by decide +kernel
theorem dX4_sumOf_1 : decode cX4_sumOf 1 = .ok (.istore_n 2, 1) := by decide +kernel
theorem dX4_sumOf_2 : decode cX4_sumOf 2 = .ok (.iconst 0, 1) := by decide +kernel
theorem dX4_sumOf_3 : decode cX4_sumOf 3 = .ok (.istore_n 3, 1) := by decide +kernel
theorem dX4_sumOf_4 : decode cX4_sumOf 4 = .ok (.iload_n 3, 1) := by decide +kernel
theorem dX4_sumOf_5 : decode cX4_sumOf 5 = .ok (.aload_n 0, 1) := by decide +kernel
theorem dX4_sumOf_6 : decode cX4_sumOf 6 = .ok (.getfield 111, 3) := by decide +kernel
theorem dX4_sumOf_9 : decode cX4_sumOf 9 = .ok (.if_icmp .ge 18, 3) := by decide +kernel
theorem dX4_sumOf_12 : decode cX4_sumOf 12 = .ok (.iload_n 2, 1) := by decide +kernel
theorem dX4_sumOf_13 : decode cX4_sumOf 13 = .ok (.aload_n 0, 1) := by decide +kernel
theorem dX4_sumOf_14 : decode cX4_sumOf 14 = .ok (.iload_n 3, 1) := by decide +kernel
theorem dX4_sumOf_15 : decode cX4_sumOf 15 = .ok (.iload_n 1, 1) := by decide +kernel
theorem dX4_sumOf_16 : decode cX4_sumOf 16 = .ok (.invokevirtual 140, 3) := by decide +kernel
theorem dX4_sumOf_19 : decode cX4_sumOf 19 = .ok (.iadd, 1) := by decide +kernel
theorem dX4_sumOf_20 : decode cX4_sumOf 20 = .ok (.istore_n 2, 1) := by decide +kernel
theorem dX4_sumOf_21 : decode cX4_sumOf 21 = .ok (.iinc 3 1, 3) := by decide +kernel
theorem dX4_sumOf_24 : decode cX4_sumOf 24 = .ok (.goto (-20), 3) := by decide +kernel
theorem dX4_sumOf_27 : decode cX4_sumOf 27 = .ok (.iload_n 2, 1) := by decide +kernel
theorem dX4_sumOf_28 : decode cX4_sumOf 28 = .ok (.ireturn, 1) := by decide +kernel
theorem dX4_there_0 : decode cX4_there 0 = .ok (.iconst 0, 1) := by decide +kernel
theorem dX4_there_1 : decode cX4_there 1 = .ok (.istore_n 2, 1) := by decide +kernel
theorem dX4_there_2 : decode cX4_there 2 = .ok (.iconst 0, 1) := by decide +kernel
theorem dX4_there_3 : decode cX4_there 3 = .ok (.istore_n 3, 1) := by decide +kernel
theorem dX4_there_4 : decode cX4_there 4 = .ok (.iload_n 3, 1) := by decide +kernel
theorem dX4_there_5 : decode cX4_there 5 = .ok (.iload_n 1, 1) := by decide +kernel
theorem dX4_there_6 : decode cX4_there 6 = .ok (.if_icmp .ge 23, 3) := by decide +kernel
theorem dX4_there_9 : decode cX4_there 9 = .ok (.iload_n 2, 1) := by decide +kernel
theorem dX4_there_10 : decode cX4_there 10 = .ok (.aload_n 0, 1) := by decide +kernel
theorem dX4_there_11 : decode cX4_there 11 = .ok (.iload_n 3, 1) := by decide +kernel
theorem dX4_there_12 : decode cX4_there 12 = .ok (.iaload, 1) := by decide +kernel
theorem dX4_there_13 : decode cX4_there 13 = .ok (.ifCond .ge 7, 3) := by decide +kernel
theorem dX4_there_16 : decode cX4_there 16 = .ok (.iconst 0, 1) := by decide +kernel
theorem dX4_there_17 : decode cX4_there 17 = .ok (.goto 4, 3) := by decide +kernel
theorem dX4_there_20 : decode cX4_there 20 = .ok (.iconst 1, 1) := by decide +kernel
theorem dX4_there_21 : decode cX4_there 21 = .ok (.iadd, 1) := by decide +kernel
theorem dX4_there_22 : decode cX4_there 22 = .ok (.istore_n 2, 1) := by decide +kernel
theorem dX4_there_23 : decode cX4_there 23 = .ok (.iinc 3 1, 3) := by decide +kernel
theorem dX4_there_26 : decode cX4_there 26 = .ok (.goto (-22), 3) := by decide +kernel
theorem dX4_there_29 : decode cX4_there 29 = .ok (.iload_n 2, 1) := by decide +kernel
theorem dX4_there_30 : decode cX4_there 30 = .ok (.ireturn, 1) := by decide +kernel
set_option maxRecDepth 20000 in
theorem ggX4_count_X4_sumOf : GoodIn wsX4_count wsX4_sumOf := goodIn_r _ [11, 1, 12, 13, 14, 10, 15, 16, 17, 18, 19, 20, 21, 22, 2, 23, 24, 25, 26, 27, 28, 29, 30, 31, 32, 33, 34, 35, 36, 37, 38, 39, 40, 41, 52, 53, 54, 55, 56, 57, 58, 59, 60, 61, 62, 63, 64, 65, 66, 67, 68, 69, 70, 71, 72, 73, 74] (by decide +kernel) (by decide +kernel)
set_option maxRecDepth 20000 in
theorem gX4_count_X4_sumOf : GoodIn wsX4_count (wsV RX4 224 RX4 yX4_sumOf wsX4_sumOf) := goodIn_app (goodIn_of _ (by decide +kernel)) ggX4_count_X4_sumOf
set_option maxRecDepth 20000 in
theorem ggX4_count_X4_there : GoodIn wsX4_count wsX4_there := goodIn_r _ [44] (by decide +kernel) (by decide +kernel)
set_option maxRecDepth 20000 in
theorem gX4_count_X4_there : GoodIn wsX4_count (va_wsS RX4 227 yX4_there wsX4_there) := goodIn_app (goodIn_of _ (by decide +kernel)) ggX4_count_X4_there
set_option maxRecDepth 20000 in
theorem ggX4_count_X4_ofKind : GoodIn wsX4_count wsX4_ofKind := goodIn_r _ [48, 1, 16, 49, 50, 10, 51, 52, 53, 54, 55, 56, 57, 58, 59, 60, 61, 62, 63, 64, 65, 66, 67, 68, 69, 70, 71, 72, 73, 74] (by decide +kernel) (by decide +kernel)
set_option maxRecDepth 20000 in
theorem gX4_count_X4_ofKind : GoodIn wsX4_count (wsV RX4 231 RX4 yX4_ofKind wsX4_ofKind) := goodIn_app (goodIn_of _ (by decide +kernel)) ggX4_count_X4_ofKind
theorem dX4_count_0 : decode cX4_count 0 = .ok (.iload_n 1, 1) := by decide +kernel
theorem dX4_count_1 : decode cX4_count 1 = .ok (.tableswitch 146 0 11 #[63, 68, 75, 80, 87, 93, 100, 106, 116, 125, 134, 140], 63) := by decide +kernel
theorem dX4_count_64 : decode cX4_count 64 = .ok (.aload_n 0, 1) := by decide +kernel
theorem dX4_count_65 : decode cX4_count 65 = .ok (.getfield 111, 3) := by decide +kernel
theorem dX4_count_68 : decode cX4_count 68 = .ok (.ireturn, 1) := by decide +kernel
theorem dX4_count_69 : decode cX4_count 69 = .ok (.aload_n 0, 1) := by decide +kernel
theorem dX4_count_70 : decode cX4_count 70 = .ok (.getfield 44, 3) := by decide +kernel
theorem dX4_count_73 : decode cX4_count 73 = .ok (.iconst 0, 1) := by decide +kernel
theorem dX4_count_74 : decode cX4_count 74 = .ok (.iaload, 1) := by decide +kernel
theorem dX4_count_75 : decode cX4_count 75 = .ok (.ireturn, 1) := by decide +kernel
theorem dX4_count_76 : decode cX4_count 76 = .ok (.aload_n 0, 1) := by decide +kernel
theorem dX4_count_77 : decode cX4_count 77 = .ok (.getfield 114, 3) := by decide +kernel
theorem dX4_count_80 : decode cX4_count 80 = .ok (.ireturn, 1) := by decide +kernel
theorem dX4_count_81 : decode cX4_count 81 = .ok (.aload_n 0, 1) := by decide +kernel
theorem dX4_count_82 : decode cX4_count 82 = .ok (.getfield 44, 3) := by decide +kernel
theorem dX4_count_85 : decode cX4_count 85 = .ok (.iconst 1, 1) := by decide +kernel
theorem dX4_count_86 : decode cX4_count 86 = .ok (.iaload, 1) := by decide +kernel
theorem dX4_count_87 : decode cX4_count 87 = .ok (.ireturn, 1) := by decide +kernel
theorem dX4_count_88 : decode cX4_count 88 = .ok (.aload_n 0, 1) := by decide +kernel
theorem dX4_count_89 : decode cX4_count 89 = .ok (.iconst 3, 1) := by decide +kernel
theorem dX4_count_90 : decode cX4_count 90 = .ok (.invokevirtual 224, 3) := by decide +kernel
theorem dX4_count_93 : decode cX4_count 93 = .ok (.ireturn, 1) := by decide +kernel
theorem dX4_count_94 : decode cX4_count 94 = .ok (.aload_n 0, 1) := by decide +kernel
theorem dX4_count_95 : decode cX4_count 95 = .ok (.bipush 6, 2) := by decide +kernel
theorem dX4_count_97 : decode cX4_count 97 = .ok (.invokevirtual 224, 3) := by decide +kernel
theorem dX4_count_100 : decode cX4_count 100 = .ok (.ireturn, 1) := by decide +kernel
theorem dX4_count_101 : decode cX4_count 101 = .ok (.aload_n 0, 1) := by decide +kernel
theorem dX4_count_102 : decode cX4_count 102 = .ok (.iconst 4, 1) := by decide +kernel
theorem dX4_count_103 : decode cX4_count 103 = .ok (.invokevirtual 224, 3) := by decide +kernel
theorem dX4_count_106 : decode cX4_count 106 = .ok (.ireturn, 1) := by decide +kernel
theorem dX4_count_107 : decode cX4_count 107 = .ok (.aload_n 0, 1) := by decide +kernel
theorem dX4_count_108 : decode cX4_count 108 = .ok (.getfield 17, 3) := by decide +kernel
theorem dX4_count_111 : decode cX4_count 111 = .ok (.bipush 6, 2) := by decide +kernel
theorem dX4_count_113 : decode cX4_count 113 = .ok (.invokestatic 227, 3) := by decide +kernel
theorem dX4_count_116 : decode cX4_count 116 = .ok (.ireturn, 1) := by decide +kernel
theorem dX4_count_117 : decode cX4_count 117 = .ok (.aload_n 0, 1) := by decide +kernel
theorem dX4_count_118 : decode cX4_count 118 = .ok (.getfield 23, 3) := by decide +kernel
theorem dX4_count_121 : decode cX4_count 121 = .ok (.iconst 4, 1) := by decide +kernel
theorem dX4_count_122 : decode cX4_count 122 = .ok (.invokestatic 227, 3) := by decide +kernel
theorem dX4_count_125 : decode cX4_count 125 = .ok (.ireturn, 1) := by decide +kernel
theorem dX4_count_126 : decode cX4_count 126 = .ok (.aload_n 0, 1) := by decide +kernel
theorem dX4_count_127 : decode cX4_count 127 = .ok (.getfield 50, 3) := by decide +kernel
theorem dX4_count_130 : decode cX4_count 130 = .ok (.iconst 3, 1) := by decide +kernel
theorem dX4_count_131 : decode cX4_count 131 = .ok (.invokestatic 227, 3) := by decide +kernel
theorem dX4_count_134 : decode cX4_count 134 = .ok (.ireturn, 1) := by decide +kernel
theorem dX4_count_135 : decode cX4_count 135 = .ok (.aload_n 0, 1) := by decide +kernel
theorem dX4_count_136 : decode cX4_count 136 = .ok (.iconst 1, 1) := by decide +kernel
theorem dX4_count_137 : decode cX4_count 137 = .ok (.invokevirtual 231, 3) := by decide +kernel
theorem dX4_count_140 : decode cX4_count 140 = .ok (.ireturn, 1) := by decide +kernel
theorem dX4_count_141 : decode cX4_count 141 = .ok (.aload_n 0, 1) := by decide +kernel
theorem dX4_count_142 : decode cX4_count 142 = .ok (.iconst 2, 1) := by decide +kernel
theorem dX4_count_143 : decode cX4_count 143 = .ok (.invokevirtual 231, 3) := by decide +kernel
theorem dX4_count_146 : decode cX4_count 146 = .ok (.ireturn, 1) := by decide +kernel
theorem dX4_count_147 : decode cX4_count 147 = .ok (.iconst (-1), 1) := by decide +kernel
theorem dX4_count_148 : decode cX4_count 148 = .ok (.ireturn, 1) := by decide +kernel
theorem dX4_finding_0 : decode cX4_finding 0 = .ok (.aload_n 0, 1) := by decide +kernel
theorem dX4_finding_1 : decode cX4_finding 1 = .ok (.getfield 62, 3) := by decide +kernel
theorem dX4_finding_4 : decode cX4_finding 4 = .ok (.ireturn, 1) := by decide +kernel
set_option maxRecDepth 20000 in
theorem ggX4_findings_X4_in : GoodIn wsX4_findings wsX4_in := goodIn_r _ [6] (by decide +kernel) (by decide +kernel)
set_option maxRecDepth 20000 in
theorem gX4_findings_X4_in : GoodIn wsX4_findings (va_wsS RX4 74 yX4_in wsX4_in) := goodIn_app (goodIn_of _ (by decide +kernel)) ggX4_findings_X4_in
theorem dX4_findings_0 : decode cX4_findings 0 = .ok (.iload_n 1, 1) := by decide +kernel
theorem dX4_findings_1 : decode cX4_findings 1 = .ok (.i2l, 1) := by decide +kernel
theorem dX4_findings_2 : decode cX4_findings 2 = .ok (.lconst 1, 1) := by decide +kernel
theorem dX4_findings_3 : decode cX4_findings 3 = .ok (.ldc2_w 72, 3) := by decide +kernel
theorem dX4_findings_6 : decode cX4_findings 6 = .ok (.invokestatic 74, 3) := by decide +kernel
theorem dX4_findings_9 : decode cX4_findings 9 = .ok (.ifCond .eq 12, 3) := by decide +kernel
theorem dX4_findings_12 : decode cX4_findings 12 = .ok (.aload_n 0, 1) := by decide +kernel
theorem dX4_findings_13 : decode cX4_findings 13 = .ok (.getfield 7, 3) := by decide +kernel
theorem dX4_findings_16 : decode cX4_findings 16 = .ok (.iload_n 1, 1) := by decide +kernel
theorem dX4_findings_17 : decode cX4_findings 17 = .ok (.iaload, 1) := by decide +kernel
theorem dX4_findings_18 : decode cX4_findings 18 = .ok (.goto 4, 3) := by decide +kernel
theorem dX4_findings_21 : decode cX4_findings 21 = .ok (.iconst (-1), 1) := by decide +kernel
theorem dX4_findings_22 : decode cX4_findings 22 = .ok (.ireturn, 1) := by decide +kernel
set_option maxRecDepth 20000 in
theorem ggX4_digest_X4_count : GoodIn wsX4_digest wsX4_count := goodIn_r _ [13, 3, 14, 15, 5, 7, 4, 16, 17, 18, 12, 19, 20, 21, 22, 23, 24, 25, 26, 27, 28, 29, 30, 31, 32, 33, 34, 35, 36, 37, 38, 39, 40, 41, 42, 43, 44, 45, 46, 47, 48, 49, 50, 51, 52, 53, 54, 55, 56, 57, 58, 59, 60, 61, 62, 63, 64, 65, 66, 67, 68, 69, 70, 71, 72, 73, 74, 75, 76, 77, 78, 79, 80, 81, 82] (by decide +kernel) (by decide +kernel)
set_option maxRecDepth 20000 in
theorem gX4_digest_X4_count : GoodIn wsX4_digest (wsV RX4 238 RX4 yX4_count wsX4_count) := goodIn_app (goodIn_of _ (by decide +kernel)) ggX4_digest_X4_count
set_option maxRecDepth 20000 in
theorem ggX4_digest_X4_told : GoodIn wsX4_digest wsX4_told := goodIn_r _ [23, 24, 25, 26, 27, 28, 29, 12, 30, 14, 31, 32, 33, 34, 35, 36, 37, 38, 39, 40, 41, 42, 43, 44, 45, 46, 47, 48, 49, 60, 61, 62, 63, 64, 65, 66, 67, 68, 69, 70, 71, 72, 73, 74, 75, 76, 77, 78, 79, 80, 81, 82] (by decide +kernel) (by decide +kernel)
set_option maxRecDepth 20000 in
theorem gX4_digest_X4_told : GoodIn wsX4_digest (wsV RX4 140 RX4 yX4_told wsX4_told) := goodIn_app (goodIn_of _ (by decide +kernel)) ggX4_digest_X4_told
theorem dX4_digest_0 : decode cX4_digest 0 = .ok (.ldc2_w 234, 3) := by decide +kernel
theorem dX4_digest_3 : decode cX4_digest 3 = .ok (.lstore_n 1, 1) := by decide +kernel
theorem dX4_digest_4 : decode cX4_digest 4 = .ok (.iconst 0, 1) := by decide +kernel
theorem dX4_digest_5 : decode cX4_digest 5 = .ok (.istore_n 3, 1) := by decide +kernel
theorem dX4_digest_6 : decode cX4_digest 6 = .ok (.iload_n 3, 1) := by decide +kernel
theorem dX4_digest_7 : decode cX4_digest 7 = .ok (.bipush 12, 2) := by decide +kernel
theorem dX4_digest_9 : decode cX4_digest 9 = .ok (.if_icmp .ge 22, 3) := by decide +kernel
theorem dX4_digest_12 : decode cX4_digest 12 = .ok (.ldc2_w 236, 3) := by decide +kernel
theorem dX4_digest_15 : decode cX4_digest 15 = .ok (.lload_n 1, 1) := by decide +kernel
theorem dX4_digest_16 : decode cX4_digest 16 = .ok (.lmul, 1) := by decide +kernel
theorem dX4_digest_17 : decode cX4_digest 17 = .ok (.aload_n 0, 1) := by decide +kernel
theorem dX4_digest_18 : decode cX4_digest 18 = .ok (.iload_n 3, 1) := by decide +kernel
theorem dX4_digest_19 : decode cX4_digest 19 = .ok (.invokevirtual 238, 3) := by decide +kernel
theorem dX4_digest_22 : decode cX4_digest 22 = .ok (.i2l, 1) := by decide +kernel
theorem dX4_digest_23 : decode cX4_digest 23 = .ok (.ladd, 1) := by decide +kernel
theorem dX4_digest_24 : decode cX4_digest 24 = .ok (.lstore_n 1, 1) := by decide +kernel
theorem dX4_digest_25 : decode cX4_digest 25 = .ok (.iinc 3 1, 3) := by decide +kernel
theorem dX4_digest_28 : decode cX4_digest 28 = .ok (.goto (-22), 3) := by decide +kernel
theorem dX4_digest_31 : decode cX4_digest 31 = .ok (.iconst 0, 1) := by decide +kernel
theorem dX4_digest_32 : decode cX4_digest 32 = .ok (.istore_n 3, 1) := by decide +kernel
theorem dX4_digest_33 : decode cX4_digest 33 = .ok (.iload_n 3, 1) := by decide +kernel
theorem dX4_digest_34 : decode cX4_digest 34 = .ok (.aload_n 0, 1) := by decide +kernel
theorem dX4_digest_35 : decode cX4_digest 35 = .ok (.getfield 111, 3) := by decide +kernel
theorem dX4_digest_38 : decode cX4_digest 38 = .ok (.if_icmp .ge 40, 3) := by decide +kernel
theorem dX4_digest_41 : decode cX4_digest 41 = .ok (.iconst 0, 1) := by decide +kernel
theorem dX4_digest_42 : decode cX4_digest 42 = .ok (.istore 4, 2) := by decide +kernel
theorem dX4_digest_44 : decode cX4_digest 44 = .ok (.iload 4, 2) := by decide +kernel
theorem dX4_digest_46 : decode cX4_digest 46 = .ok (.bipush 7, 2) := by decide +kernel
theorem dX4_digest_48 : decode cX4_digest 48 = .ok (.if_icmp .ge 24, 3) := by decide +kernel
theorem dX4_digest_51 : decode cX4_digest 51 = .ok (.ldc2_w 236, 3) := by decide +kernel
theorem dX4_digest_54 : decode cX4_digest 54 = .ok (.lload_n 1, 1) := by decide +kernel
theorem dX4_digest_55 : decode cX4_digest 55 = .ok (.lmul, 1) := by decide +kernel
theorem dX4_digest_56 : decode cX4_digest 56 = .ok (.aload_n 0, 1) := by decide +kernel
theorem dX4_digest_57 : decode cX4_digest 57 = .ok (.iload_n 3, 1) := by decide +kernel
theorem dX4_digest_58 : decode cX4_digest 58 = .ok (.iload 4, 2) := by decide +kernel
theorem dX4_digest_60 : decode cX4_digest 60 = .ok (.invokevirtual 140, 3) := by decide +kernel
theorem dX4_digest_63 : decode cX4_digest 63 = .ok (.i2l, 1) := by decide +kernel
theorem dX4_digest_64 : decode cX4_digest 64 = .ok (.ladd, 1) := by decide +kernel
theorem dX4_digest_65 : decode cX4_digest 65 = .ok (.lstore_n 1, 1) := by decide +kernel
theorem dX4_digest_66 : decode cX4_digest 66 = .ok (.iinc 4 1, 3) := by decide +kernel
theorem dX4_digest_69 : decode cX4_digest 69 = .ok (.goto (-25), 3) := by decide +kernel
theorem dX4_digest_72 : decode cX4_digest 72 = .ok (.iinc 3 1, 3) := by decide +kernel
theorem dX4_digest_75 : decode cX4_digest 75 = .ok (.goto (-42), 3) := by decide +kernel
theorem dX4_digest_78 : decode cX4_digest 78 = .ok (.iconst 0, 1) := by decide +kernel
theorem dX4_digest_79 : decode cX4_digest 79 = .ok (.istore_n 3, 1) := by decide +kernel
theorem dX4_digest_80 : decode cX4_digest 80 = .ok (.iload_n 3, 1) := by decide +kernel
theorem dX4_digest_81 : decode cX4_digest 81 = .ok (.iconst 3, 1) := by decide +kernel
theorem dX4_digest_82 : decode cX4_digest 82 = .ok (.if_icmp .ge 23, 3) := by decide +kernel
theorem dX4_digest_85 : decode cX4_digest 85 = .ok (.ldc2_w 236, 3) := by decide +kernel
theorem dX4_digest_88 : decode cX4_digest 88 = .ok (.lload_n 1, 1) := by decide +kernel
theorem dX4_digest_89 : decode cX4_digest 89 = .ok (.lmul, 1) := by decide +kernel
theorem dX4_digest_90 : decode cX4_digest 90 = .ok (.aload_n 0, 1) := by decide +kernel
theorem dX4_digest_91 : decode cX4_digest 91 = .ok (.getfield 50, 3) := by decide +kernel
theorem dX4_digest_94 : decode cX4_digest 94 = .ok (.iload_n 3, 1) := by decide +kernel
theorem dX4_digest_95 : decode cX4_digest 95 = .ok (.iaload, 1) := by decide +kernel
theorem dX4_digest_96 : decode cX4_digest 96 = .ok (.i2l, 1) := by decide +kernel
theorem dX4_digest_97 : decode cX4_digest 97 = .ok (.ladd, 1) := by decide +kernel
theorem dX4_digest_98 : decode cX4_digest 98 = .ok (.lstore_n 1, 1) := by decide +kernel
theorem dX4_digest_99 : decode cX4_digest 99 = .ok (.iinc 3 1, 3) := by decide +kernel
theorem dX4_digest_102 : decode cX4_digest 102 = .ok (.goto (-22), 3) := by decide +kernel
theorem dX4_digest_105 : decode cX4_digest 105 = .ok (.iconst 0, 1) := by decide +kernel
theorem dX4_digest_106 : decode cX4_digest 106 = .ok (.istore_n 3, 1) := by decide +kernel
theorem dX4_digest_107 : decode cX4_digest 107 = .ok (.iload_n 3, 1) := by decide +kernel
theorem dX4_digest_108 : decode cX4_digest 108 = .ok (.bipush 6, 2) := by decide +kernel
theorem dX4_digest_110 : decode cX4_digest 110 = .ok (.if_icmp .ge 63, 3) := by decide +kernel
theorem dX4_digest_113 : decode cX4_digest 113 = .ok (.ldc2_w 236, 3) := by decide +kernel
theorem dX4_digest_116 : decode cX4_digest 116 = .ok (.lload_n 1, 1) := by decide +kernel
theorem dX4_digest_117 : decode cX4_digest 117 = .ok (.lmul, 1) := by decide +kernel
theorem dX4_digest_118 : decode cX4_digest 118 = .ok (.aload_n 0, 1) := by decide +kernel
theorem dX4_digest_119 : decode cX4_digest 119 = .ok (.getfield 17, 3) := by decide +kernel
theorem dX4_digest_122 : decode cX4_digest 122 = .ok (.iload_n 3, 1) := by decide +kernel
theorem dX4_digest_123 : decode cX4_digest 123 = .ok (.iaload, 1) := by decide +kernel
theorem dX4_digest_124 : decode cX4_digest 124 = .ok (.i2l, 1) := by decide +kernel
theorem dX4_digest_125 : decode cX4_digest 125 = .ok (.ladd, 1) := by decide +kernel
theorem dX4_digest_126 : decode cX4_digest 126 = .ok (.lstore_n 1, 1) := by decide +kernel
theorem dX4_digest_127 : decode cX4_digest 127 = .ok (.iconst 0, 1) := by decide +kernel
theorem dX4_digest_128 : decode cX4_digest 128 = .ok (.istore 4, 2) := by decide +kernel
theorem dX4_digest_130 : decode cX4_digest 130 = .ok (.iload 4, 2) := by decide +kernel
theorem dX4_digest_132 : decode cX4_digest 132 = .ok (.aload_n 0, 1) := by decide +kernel
theorem dX4_digest_133 : decode cX4_digest 133 = .ok (.getfield 17, 3) := by decide +kernel
theorem dX4_digest_136 : decode cX4_digest 136 = .ok (.iload_n 3, 1) := by decide +kernel
theorem dX4_digest_137 : decode cX4_digest 137 = .ok (.iaload, 1) := by decide +kernel
theorem dX4_digest_138 : decode cX4_digest 138 = .ok (.if_icmp .ge 29, 3) := by decide +kernel
theorem dX4_digest_141 : decode cX4_digest 141 = .ok (.ldc2_w 236, 3) := by decide +kernel
theorem dX4_digest_144 : decode cX4_digest 144 = .ok (.lload_n 1, 1) := by decide +kernel
theorem dX4_digest_145 : decode cX4_digest 145 = .ok (.lmul, 1) := by decide +kernel
theorem dX4_digest_146 : decode cX4_digest 146 = .ok (.aload_n 0, 1) := by decide +kernel
theorem dX4_digest_147 : decode cX4_digest 147 = .ok (.getfield 20, 3) := by decide +kernel
theorem dX4_digest_150 : decode cX4_digest 150 = .ok (.bipush 40, 2) := by decide +kernel
theorem dX4_digest_152 : decode cX4_digest 152 = .ok (.iload_n 3, 1) := by decide +kernel
theorem dX4_digest_153 : decode cX4_digest 153 = .ok (.imul, 1) := by decide +kernel
theorem dX4_digest_154 : decode cX4_digest 154 = .ok (.iload 4, 2) := by decide +kernel
theorem dX4_digest_156 : decode cX4_digest 156 = .ok (.iadd, 1) := by decide +kernel
theorem dX4_digest_157 : decode cX4_digest 157 = .ok (.iaload, 1) := by decide +kernel
theorem dX4_digest_158 : decode cX4_digest 158 = .ok (.i2l, 1) := by decide +kernel
theorem dX4_digest_159 : decode cX4_digest 159 = .ok (.ladd, 1) := by decide +kernel
theorem dX4_digest_160 : decode cX4_digest 160 = .ok (.lstore_n 1, 1) := by decide +kernel
theorem dX4_digest_161 : decode cX4_digest 161 = .ok (.iinc 4 1, 3) := by decide +kernel
theorem dX4_digest_164 : decode cX4_digest 164 = .ok (.goto (-34), 3) := by decide +kernel
theorem dX4_digest_167 : decode cX4_digest 167 = .ok (.iinc 3 1, 3) := by decide +kernel
theorem dX4_digest_170 : decode cX4_digest 170 = .ok (.goto (-63), 3) := by decide +kernel
theorem dX4_digest_173 : decode cX4_digest 173 = .ok (.iconst 0, 1) := by decide +kernel
theorem dX4_digest_174 : decode cX4_digest 174 = .ok (.istore_n 3, 1) := by decide +kernel
theorem dX4_digest_175 : decode cX4_digest 175 = .ok (.iload_n 3, 1) := by decide +kernel
theorem dX4_digest_176 : decode cX4_digest 176 = .ok (.iconst 4, 1) := by decide +kernel
theorem dX4_digest_177 : decode cX4_digest 177 = .ok (.if_icmp .ge 63, 3) := by decide +kernel
theorem dX4_digest_180 : decode cX4_digest 180 = .ok (.ldc2_w 236, 3) := by decide +kernel
theorem dX4_digest_183 : decode cX4_digest 183 = .ok (.lload_n 1, 1) := by decide +kernel
theorem dX4_digest_184 : decode cX4_digest 184 = .ok (.lmul, 1) := by decide +kernel
theorem dX4_digest_185 : decode cX4_digest 185 = .ok (.aload_n 0, 1) := by decide +kernel
theorem dX4_digest_186 : decode cX4_digest 186 = .ok (.getfield 23, 3) := by decide +kernel
theorem dX4_digest_189 : decode cX4_digest 189 = .ok (.iload_n 3, 1) := by decide +kernel
theorem dX4_digest_190 : decode cX4_digest 190 = .ok (.iaload, 1) := by decide +kernel
theorem dX4_digest_191 : decode cX4_digest 191 = .ok (.i2l, 1) := by decide +kernel
theorem dX4_digest_192 : decode cX4_digest 192 = .ok (.ladd, 1) := by decide +kernel
theorem dX4_digest_193 : decode cX4_digest 193 = .ok (.lstore_n 1, 1) := by decide +kernel
theorem dX4_digest_194 : decode cX4_digest 194 = .ok (.iconst 0, 1) := by decide +kernel
theorem dX4_digest_195 : decode cX4_digest 195 = .ok (.istore 4, 2) := by decide +kernel
theorem dX4_digest_197 : decode cX4_digest 197 = .ok (.iload 4, 2) := by decide +kernel
theorem dX4_digest_199 : decode cX4_digest 199 = .ok (.aload_n 0, 1) := by decide +kernel
theorem dX4_digest_200 : decode cX4_digest 200 = .ok (.getfield 23, 3) := by decide +kernel
theorem dX4_digest_203 : decode cX4_digest 203 = .ok (.iload_n 3, 1) := by decide +kernel
theorem dX4_digest_204 : decode cX4_digest 204 = .ok (.iaload, 1) := by decide +kernel
theorem dX4_digest_205 : decode cX4_digest 205 = .ok (.if_icmp .ge 29, 3) := by decide +kernel
theorem dX4_digest_208 : decode cX4_digest 208 = .ok (.ldc2_w 236, 3) := by decide +kernel
theorem dX4_digest_211 : decode cX4_digest 211 = .ok (.lload_n 1, 1) := by decide +kernel
theorem dX4_digest_212 : decode cX4_digest 212 = .ok (.lmul, 1) := by decide +kernel
theorem dX4_digest_213 : decode cX4_digest 213 = .ok (.aload_n 0, 1) := by decide +kernel
theorem dX4_digest_214 : decode cX4_digest 214 = .ok (.getfield 26, 3) := by decide +kernel
theorem dX4_digest_217 : decode cX4_digest 217 = .ok (.bipush 60, 2) := by decide +kernel
theorem dX4_digest_219 : decode cX4_digest 219 = .ok (.iload_n 3, 1) := by decide +kernel
theorem dX4_digest_220 : decode cX4_digest 220 = .ok (.imul, 1) := by decide +kernel
theorem dX4_digest_221 : decode cX4_digest 221 = .ok (.iload 4, 2) := by decide +kernel
theorem dX4_digest_223 : decode cX4_digest 223 = .ok (.iadd, 1) := by decide +kernel
theorem dX4_digest_224 : decode cX4_digest 224 = .ok (.iaload, 1) := by decide +kernel
theorem dX4_digest_225 : decode cX4_digest 225 = .ok (.i2l, 1) := by decide +kernel
theorem dX4_digest_226 : decode cX4_digest 226 = .ok (.ladd, 1) := by decide +kernel
theorem dX4_digest_227 : decode cX4_digest 227 = .ok (.lstore_n 1, 1) := by decide +kernel
theorem dX4_digest_228 : decode cX4_digest 228 = .ok (.iinc 4 1, 3) := by decide +kernel
theorem dX4_digest_231 : decode cX4_digest 231 = .ok (.goto (-34), 3) := by decide +kernel
theorem dX4_digest_234 : decode cX4_digest 234 = .ok (.iinc 3 1, 3) := by decide +kernel
theorem dX4_digest_237 : decode cX4_digest 237 = .ok (.goto (-62), 3) := by decide +kernel
theorem dX4_digest_240 : decode cX4_digest 240 = .ok (.lload_n 1, 1) := by decide +kernel
theorem dX4_digest_241 : decode cX4_digest 241 = .ok (.lreturn, 1) := by decide +kernel
