theorem dX8_init_0 : decode cX8_init 0 = .ok (.aload_n 0, 1) := by decide +kernel
theorem dX8_init_1 : decode cX8_init 1 = .ok (.invokespecial 1, 3) := by decide +kernel
theorem dX8_init_4 : decode cX8_init 4 = .ok (.aload_n 0, 1) := by decide +kernel
theorem dX8_init_5 : decode cX8_init 5 = .ok (.sipush 189, 3) := by decide +kernel
theorem dX8_init_8 : decode cX8_init 8 = .ok (.newarray .int, 2) := by decide +kernel
theorem dX8_init_10 : decode cX8_init 10 = .ok (.putfield 7, 3) := by decide +kernel
theorem dX8_init_13 : decode cX8_init 13 = .ok (.aload_n 0, 1) := by decide +kernel
theorem dX8_init_14 : decode cX8_init 14 = .ok (.sipush 1134, 3) := by decide +kernel
theorem dX8_init_17 : decode cX8_init 17 = .ok (.newarray .int, 2) := by decide +kernel
theorem dX8_init_19 : decode cX8_init 19 = .ok (.putfield 13, 3) := by decide +kernel
theorem dX8_init_22 : decode cX8_init 22 = .ok (.aload_n 0, 1) := by decide +kernel
theorem dX8_init_23 : decode cX8_init 23 = .ok (.sipush 189, 3) := by decide +kernel
theorem dX8_init_26 : decode cX8_init 26 = .ok (.newarray .int, 2) := by decide +kernel
theorem dX8_init_28 : decode cX8_init 28 = .ok (.putfield 16, 3) := by decide +kernel
theorem dX8_init_31 : decode cX8_init 31 = .ok (.aload_n 0, 1) := by decide +kernel
theorem dX8_init_32 : decode cX8_init 32 = .ok (.sipush 1134, 3) := by decide +kernel
theorem dX8_init_35 : decode cX8_init 35 = .ok (.newarray .int, 2) := by decide +kernel
theorem dX8_init_37 : decode cX8_init 37 = .ok (.putfield 19, 3) := by decide +kernel
theorem dX8_init_40 : decode cX8_init 40 = .ok (.aload_n 0, 1) := by decide +kernel
theorem dX8_init_41 : decode cX8_init 41 = .ok (.iconst (-1), 1) := by decide +kernel
theorem dX8_init_42 : decode cX8_init 42 = .ok (.putfield 22, 3) := by decide +kernel
theorem dX8_init_45 : decode cX8_init 45 = .ok (.aload_n 0, 1) := by decide +kernel
theorem dX8_init_46 : decode cX8_init 46 = .ok (.bipush 90, 2) := by decide +kernel
theorem dX8_init_48 : decode cX8_init 48 = .ok (.newarray .int, 2) := by decide +kernel
theorem dX8_init_50 : decode cX8_init 50 = .ok (.putfield 26, 3) := by decide +kernel
theorem dX8_init_53 : decode cX8_init 53 = .ok (.aload_n 0, 1) := by decide +kernel
theorem dX8_init_54 : decode cX8_init 54 = .ok (.iconst 4, 1) := by decide +kernel
theorem dX8_init_55 : decode cX8_init 55 = .ok (.newarray .int, 2) := by decide +kernel
theorem dX8_init_57 : decode cX8_init 57 = .ok (.putfield 29, 3) := by decide +kernel
theorem dX8_init_60 : decode cX8_init 60 = .ok (.aload_n 0, 1) := by decide +kernel
theorem dX8_init_61 : decode cX8_init 61 = .ok (.iconst 4, 1) := by decide +kernel
theorem dX8_init_62 : decode cX8_init 62 = .ok (.newarray .int, 2) := by decide +kernel
theorem dX8_init_64 : decode cX8_init 64 = .ok (.putfield 32, 3) := by decide +kernel
theorem dX8_init_67 : decode cX8_init 67 = .ok (.aload_n 0, 1) := by decide +kernel
theorem dX8_init_68 : decode cX8_init 68 = .ok (.bipush 96, 2) := by decide +kernel
theorem dX8_init_70 : decode cX8_init 70 = .ok (.newarray .long, 2) := by decide +kernel
theorem dX8_init_72 : decode cX8_init 72 = .ok (.putfield 35, 3) := by decide +kernel
theorem dX8_init_75 : decode cX8_init 75 = .ok (.aload_n 0, 1) := by decide +kernel
theorem dX8_init_76 : decode cX8_init 76 = .ok (.bipush 24, 2) := by decide +kernel
theorem dX8_init_78 : decode cX8_init 78 = .ok (.newarray .long, 2) := by decide +kernel
theorem dX8_init_80 : decode cX8_init 80 = .ok (.putfield 39, 3) := by decide +kernel
theorem dX8_init_83 : decode cX8_init 83 = .ok (.aload_n 0, 1) := by decide +kernel
theorem dX8_init_84 : decode cX8_init 84 = .ok (.bipush 12, 2) := by decide +kernel
theorem dX8_init_86 : decode cX8_init 86 = .ok (.newarray .int, 2) := by decide +kernel
theorem dX8_init_88 : decode cX8_init 88 = .ok (.putfield 42, 3) := by decide +kernel
theorem dX8_init_91 : decode cX8_init 91 = .ok (.aload_n 0, 1) := by decide +kernel
theorem dX8_init_92 : decode cX8_init 92 = .ok (.bipush 13, 2) := by decide +kernel
theorem dX8_init_94 : decode cX8_init 94 = .ok (.newarray .int, 2) := by decide +kernel
theorem dX8_init_96 : decode cX8_init 96 = .ok (.putfield 45, 3) := by decide +kernel
theorem dX8_init_99 : decode cX8_init 99 = .ok (.aload_n 0, 1) := by decide +kernel
theorem dX8_init_100 : decode cX8_init 100 = .ok (.bipush 13, 2) := by decide +kernel
theorem dX8_init_102 : decode cX8_init 102 = .ok (.newarray .int, 2) := by decide +kernel
theorem dX8_init_104 : decode cX8_init 104 = .ok (.putfield 48, 3) := by decide +kernel
theorem dX8_init_107 : decode cX8_init 107 = .ok (.aload_n 0, 1) := by decide +kernel
theorem dX8_init_108 : decode cX8_init 108 = .ok (.bipush 13, 2) := by decide +kernel
theorem dX8_init_110 : decode cX8_init 110 = .ok (.newarray .int, 2) := by decide +kernel
theorem dX8_init_112 : decode cX8_init 112 = .ok (.putfield 51, 3) := by decide +kernel
theorem dX8_init_115 : decode cX8_init 115 = .ok (.aload_n 0, 1) := by decide +kernel
theorem dX8_init_116 : decode cX8_init 116 = .ok (.bipush 80, 2) := by decide +kernel
theorem dX8_init_118 : decode cX8_init 118 = .ok (.newarray .long, 2) := by decide +kernel
theorem dX8_init_120 : decode cX8_init 120 = .ok (.putfield 54, 3) := by decide +kernel
theorem dX8_init_123 : decode cX8_init 123 = .ok (.aload_n 0, 1) := by decide +kernel
theorem dX8_init_124 : decode cX8_init 124 = .ok (.sipush 189, 3) := by decide +kernel
theorem dX8_init_127 : decode cX8_init 127 = .ok (.newarray .int, 2) := by decide +kernel
theorem dX8_init_129 : decode cX8_init 129 = .ok (.putfield 57, 3) := by decide +kernel
theorem dX8_init_132 : decode cX8_init 132 = .ok (.aload_n 0, 1) := by decide +kernel
theorem dX8_init_133 : decode cX8_init 133 = .ok (.sipush 180, 3) := by decide +kernel
theorem dX8_init_136 : decode cX8_init 136 = .ok (.newarray .int, 2) := by decide +kernel
theorem dX8_init_138 : decode cX8_init 138 = .ok (.putfield 60, 3) := by decide +kernel
theorem dX8_init_141 : decode cX8_init 141 = .ok (.aload_n 0, 1) := by decide +kernel
theorem dX8_init_142 : decode cX8_init 142 = .ok (.getfield 7, 3) := by decide +kernel
theorem dX8_init_145 : decode cX8_init 145 = .ok (.iconst 1, 1) := by decide +kernel
theorem dX8_init_146 : decode cX8_init 146 = .ok (.iconst 1, 1) := by decide +kernel
theorem dX8_init_147 : decode cX8_init 147 = .ok (.iastore, 1) := by decide +kernel
theorem dX8_init_148 : decode cX8_init 148 = .ok (.aload_n 0, 1) := by decide +kernel
theorem dX8_init_149 : decode cX8_init 149 = .ok (.getfield 7, 3) := by decide +kernel
theorem dX8_init_152 : decode cX8_init 152 = .ok (.iconst 2, 1) := by decide +kernel
theorem dX8_init_153 : decode cX8_init 153 = .ok (.bipush 20, 2) := by decide +kernel
theorem dX8_init_155 : decode cX8_init 155 = .ok (.iastore, 1) := by decide +kernel
theorem dX8_init_156 : decode cX8_init 156 = .ok (.aload_n 0, 1) := by decide +kernel
theorem dX8_init_157 : decode cX8_init 157 = .ok (.getfield 7, 3) := by decide +kernel
theorem dX8_init_160 : decode cX8_init 160 = .ok (.iconst 3, 1) := by decide +kernel
theorem dX8_init_161 : decode cX8_init 161 = .ok (.iconst 2, 1) := by decide +kernel
theorem dX8_init_162 : decode cX8_init 162 = .ok (.iastore, 1) := by decide +kernel
theorem dX8_init_163 : decode cX8_init 163 = .ok (.aload_n 0, 1) := by decide +kernel
theorem dX8_init_164 : decode cX8_init 164 = .ok (.getfield 7, 3) := by decide +kernel
theorem dX8_init_167 : decode cX8_init 167 = .ok (.iconst 4, 1) := by decide +kernel
theorem dX8_init_168 : decode cX8_init 168 = .ok (.iconst 4, 1) := by decide +kernel
theorem dX8_init_169 : decode cX8_init 169 = .ok (.iastore, 1) := by decide +kernel
theorem dX8_init_170 : decode cX8_init 170 = .ok (.aload_n 0, 1) := by decide +kernel
theorem dX8_init_171 : decode cX8_init 171 = .ok (.getfield 7, 3) := by decide +kernel
theorem dX8_init_174 : decode cX8_init 174 = .ok (.iconst 5, 1) := by decide +kernel
theorem dX8_init_175 : decode cX8_init 175 = .ok (.bipush 8, 2) := by decide +kernel
theorem dX8_init_177 : decode cX8_init 177 = .ok (.iastore, 1) := by decide +kernel
theorem dX8_init_178 : decode cX8_init 178 = .ok (.aload_n 0, 1) := by decide +kernel
theorem dX8_init_179 : decode cX8_init 179 = .ok (.getfield 7, 3) := by decide +kernel
theorem dX8_init_182 : decode cX8_init 182 = .ok (.bipush 6, 2) := by decide +kernel
theorem dX8_init_184 : decode cX8_init 184 = .ok (.iconst 2, 1) := by decide +kernel
theorem dX8_init_185 : decode cX8_init 185 = .ok (.iastore, 1) := by decide +kernel
theorem dX8_init_186 : decode cX8_init 186 = .ok (.aload_n 0, 1) := by decide +kernel
theorem dX8_init_187 : decode cX8_init 187 = .ok (.getfield 7, 3) := by decide +kernel
theorem dX8_init_190 : decode cX8_init 190 = .ok (.bipush 8, 2) := by decide +kernel
theorem dX8_init_192 : decode cX8_init 192 = .ok (.iconst 1, 1) := by decide +kernel
theorem dX8_init_193 : decode cX8_init 193 = .ok (.iastore, 1) := by decide +kernel
theorem dX8_init_194 : decode cX8_init 194 = .ok (.iconst 0, 1) := by decide +kernel
theorem dX8_init_195 : decode cX8_init 195 = .ok (.istore_n 1, 1) := by decide +kernel
theorem dX8_init_196 : decode cX8_init 196 = .ok (.iload_n 1, 1) := by decide +kernel
theorem dX8_init_197 : decode cX8_init 197 = .ok (.iconst 4, 1) := by decide +kernel
theorem dX8_init_198 : decode cX8_init 198 = .ok (.if_icmp .ge 16, 3) := by decide +kernel
theorem dX8_init_201 : decode cX8_init 201 = .ok (.aload_n 0, 1) := by decide +kernel
theorem dX8_init_202 : decode cX8_init 202 = .ok (.getfield 29, 3) := by decide +kernel
theorem dX8_init_205 : decode cX8_init 205 = .ok (.iload_n 1, 1) := by decide +kernel
theorem dX8_init_206 : decode cX8_init 206 = .ok (.iconst (-1), 1) := by decide +kernel
theorem dX8_init_207 : decode cX8_init 207 = .ok (.iastore, 1) := by decide +kernel
theorem dX8_init_208 : decode cX8_init 208 = .ok (.iinc 1 1, 3) := by decide +kernel
theorem dX8_init_211 : decode cX8_init 211 = .ok (.goto (-15), 3) := by decide +kernel
theorem dX8_init_214 : decode cX8_init 214 = .ok (.return_, 1) := by decide +kernel
theorem dX8_in_0 : decode cX8_in 0 = .ok (.lload_n 0, 1) := by decide +kernel
theorem dX8_in_1 : decode cX8_in 1 = .ok (.lload_n 2, 1) := by decide +kernel
theorem dX8_in_2 : decode cX8_in 2 = .ok (.lcmp, 1) := by decide +kernel
theorem dX8_in_3 : decode cX8_in 3 = .ok (.ifCond .lt 14, 3) := by decide +kernel
theorem dX8_in_6 : decode cX8_in 6 = .ok (.lload_n 0, 1) := by decide +kernel
theorem dX8_in_7 : decode cX8_in 7 = .ok (.lload 4, 2) := by decide +kernel
theorem dX8_in_9 : decode cX8_in 9 = .ok (.lcmp, 1) := by decide +kernel
theorem dX8_in_10 : decode cX8_in 10 = .ok (.ifCond .gt 7, 3) := by decide +kernel
theorem dX8_in_13 : decode cX8_in 13 = .ok (.iconst 1, 1) := by decide +kernel
theorem dX8_in_14 : decode cX8_in 14 = .ok (.goto 4, 3) := by decide +kernel
theorem dX8_in_17 : decode cX8_in 17 = .ok (.iconst 0, 1) := by decide +kernel
theorem dX8_in_18 : decode cX8_in 18 = .ok (.ireturn, 1) := by decide +kernel
set_option maxRecDepth 20000 in
theorem ggX8_isLine_X8_in : GoodIn wsX8_isLine wsX8_in := goodIn_r _ [5] (by decide +kernel) (by decide +kernel)
set_option maxRecDepth 20000 in
theorem gX8_isLine_X8_in : GoodIn wsX8_isLine (va_wsS RX8 63 yX8_in wsX8_in) := goodIn_app (goodIn_of _ (by decide +kernel)) ggX8_isLine_X8_in
theorem dX8_isLine_0 : decode cX8_isLine 0 = .ok (.iload_n 1, 1) := by decide +kernel
theorem dX8_isLine_1 : decode cX8_isLine 1 = .ok (.i2l, 1) := by decide +kernel
theorem dX8_isLine_2 : decode cX8_isLine 2 = .ok (.lconst 0, 1) := by decide +kernel
theorem dX8_isLine_3 : decode cX8_isLine 3 = .ok (.aload_n 0, 1) := by decide +kernel
theorem dX8_isLine_4 : decode cX8_isLine 4 = .ok (.getfield 7, 3) := by decide +kernel
theorem dX8_isLine_7 : decode cX8_isLine 7 = .ok (.iconst 0, 1) := by decide +kernel
theorem dX8_isLine_8 : decode cX8_isLine 8 = .ok (.iaload, 1) := by decide +kernel
theorem dX8_isLine_9 : decode cX8_isLine 9 = .ok (.iconst 1, 1) := by decide +kernel
theorem dX8_isLine_10 : decode cX8_isLine 10 = .ok (.isub, 1) := by decide +kernel
theorem dX8_isLine_11 : decode cX8_isLine 11 = .ok (.i2l, 1) := by decide +kernel
theorem dX8_isLine_12 : decode cX8_isLine 12 = .ok (.invokestatic 63, 3) := by decide +kernel
theorem dX8_isLine_15 : decode cX8_isLine 15 = .ok (.ireturn, 1) := by decide +kernel
theorem dX8_at_0 : decode cX8_at 0 = .ok (.aload_n 0, 1) := by decide +kernel
theorem dX8_at_1 : decode cX8_at 1 = .ok (.getfield 7, 3) := by decide +kernel
theorem dX8_at_4 : decode cX8_at 4 = .ok (.bipush 9, 2) := by decide +kernel
theorem dX8_at_6 : decode cX8_at 6 = .ok (.bipush 15, 2) := by decide +kernel
theorem dX8_at_8 : decode cX8_at 8 = .ok (.iload_n 1, 1) := by decide +kernel
theorem dX8_at_9 : decode cX8_at 9 = .ok (.imul, 1) := by decide +kernel
theorem dX8_at_10 : decode cX8_at 10 = .ok (.iadd, 1) := by decide +kernel
theorem dX8_at_11 : decode cX8_at 11 = .ok (.iload_n 2, 1) := by decide +kernel
theorem dX8_at_12 : decode cX8_at 12 = .ok (.iadd, 1) := by decide +kernel
theorem dX8_at_13 : decode cX8_at 13 = .ok (.iaload, 1) := by decide +kernel
theorem dX8_at_14 : decode cX8_at 14 = .ok (.ireturn, 1) := by decide +kernel
set_option maxRecDepth 20000 in
theorem ggX8_words_X8_at : GoodIn wsX8_words wsX8_at := goodIn_r _ [5, 6, 7, 8, 9, 10, 11, 12, 13, 14, 15, 16, 17, 18, 19, 20, 21, 22, 23, 24, 25, 26, 27, 28, 29] (by decide +kernel) (by decide +kernel)
set_option maxRecDepth 20000 in
theorem gX8_words_X8_at : GoodIn wsX8_words (wsV RX8 67 RX8 yX8_at wsX8_at) := goodIn_app (goodIn_of _ (by decide +kernel)) ggX8_words_X8_at
theorem dX8_words_0 : decode cX8_words 0 = .ok (.aload_n 0, 1) := by decide +kernel
theorem dX8_words_1 : decode cX8_words 1 = .ok (.iload_n 1, 1) := by decide +kernel
theorem dX8_words_2 : decode cX8_words 2 = .ok (.iconst 2, 1) := by decide +kernel
theorem dX8_words_3 : decode cX8_words 3 = .ok (.invokevirtual 67, 3) := by decide +kernel
theorem dX8_words_6 : decode cX8_words 6 = .ok (.ireturn, 1) := by decide +kernel
set_option maxRecDepth 20000 in
theorem ggX8_begins_X8_at : GoodIn wsX8_begins wsX8_at := goodIn_r _ [5, 6, 7, 8, 9, 10, 11, 12, 13, 14, 15, 16, 17, 18, 19, 20, 21, 22, 23, 24, 25, 26, 27, 28, 29] (by decide +kernel) (by decide +kernel)
set_option maxRecDepth 20000 in
theorem gX8_begins_X8_at : GoodIn wsX8_begins (wsV RX8 67 RX8 yX8_at wsX8_at) := goodIn_app (goodIn_of _ (by decide +kernel)) ggX8_begins_X8_at
theorem dX8_begins_0 : decode cX8_begins 0 = .ok (.iload_n 1, 1) := by decide +kernel
theorem dX8_begins_1 : decode cX8_begins 1 = .ok (.ifCond .eq 13, 3) := by decide +kernel
theorem dX8_begins_4 : decode cX8_begins 4 = .ok (.aload_n 0, 1) := by decide +kernel
theorem dX8_begins_5 : decode cX8_begins 5 = .ok (.iload_n 1, 1) := by decide +kernel
theorem dX8_begins_6 : decode cX8_begins 6 = .ok (.iconst 1, 1) := by decide +kernel
theorem dX8_begins_7 : decode cX8_begins 7 = .ok (.invokevirtual 67, 3) := by decide +kernel
theorem dX8_begins_10 : decode cX8_begins 10 = .ok (.iconst 1, 1) := by decide +kernel
theorem dX8_begins_11 : decode cX8_begins 11 = .ok (.if_icmp .ne 7, 3) := by decide +kernel
theorem dX8_begins_14 : decode cX8_begins 14 = .ok (.iconst 1, 1) := by decide +kernel
theorem dX8_begins_15 : decode cX8_begins 15 = .ok (.goto 4, 3) := by decide +kernel
theorem dX8_begins_18 : decode cX8_begins 18 = .ok (.iconst 0, 1) := by decide +kernel
theorem dX8_begins_19 : decode cX8_begins 19 = .ok (.ireturn, 1) := by decide +kernel
set_option maxRecDepth 20000 in
theorem ggX8_startOf_X8_begins : GoodIn wsX8_startOf wsX8_begins := goodIn_r _ [5, 6, 7, 8, 4, 9, 10, 11, 12, 13, 14, 15, 16, 17, 18, 19, 20, 21, 22, 23, 24, 25, 26, 27, 28, 29, 30, 31, 32, 33] (by decide +kernel) (by decide +kernel)
set_option maxRecDepth 20000 in
theorem gX8_startOf_X8_begins : GoodIn wsX8_startOf (wsV RX8 71 RX8 yX8_begins wsX8_begins) := goodIn_app (goodIn_of _ (by decide +kernel)) ggX8_startOf_X8_begins
theorem dX8_startOf_0 : decode cX8_startOf 0 = .ok (.iload_n 1, 1) := by decide +kernel
theorem dX8_startOf_1 : decode cX8_startOf 1 = .ok (.istore_n 2, 1) := by decide +kernel
theorem dX8_startOf_2 : decode cX8_startOf 2 = .ok (.aload_n 0, 1) := by decide +kernel
theorem dX8_startOf_3 : decode cX8_startOf 3 = .ok (.iload_n 2, 1) := by decide +kernel
theorem dX8_startOf_4 : decode cX8_startOf 4 = .ok (.invokevirtual 71, 3) := by decide +kernel
theorem dX8_startOf_7 : decode cX8_startOf 7 = .ok (.ifCond .ne 9, 3) := by decide +kernel
theorem dX8_startOf_10 : decode cX8_startOf 10 = .ok (.iinc 2 (-1), 3) := by decide +kernel
theorem dX8_startOf_13 : decode cX8_startOf 13 = .ok (.goto (-11), 3) := by decide +kernel
theorem dX8_startOf_16 : decode cX8_startOf 16 = .ok (.iload_n 2, 1) := by decide +kernel
theorem dX8_startOf_17 : decode cX8_startOf 17 = .ok (.ireturn, 1) := by decide +kernel
set_option maxRecDepth 20000 in
theorem ggX8_endOf_X8_begins : GoodIn wsX8_endOf wsX8_begins := goodIn_r _ [6, 7, 8, 9, 5, 10, 1, 11, 12, 13, 14, 15, 16, 17, 18, 19, 20, 21, 22, 23, 24, 25, 26, 27, 28, 29, 30, 31, 32, 33] (by decide +kernel) (by decide +kernel)
set_option maxRecDepth 20000 in
theorem gX8_endOf_X8_begins : GoodIn wsX8_endOf (wsV RX8 71 RX8 yX8_begins wsX8_begins) := goodIn_app (goodIn_of _ (by decide +kernel)) ggX8_endOf_X8_begins
theorem dX8_endOf_0 : decode cX8_endOf 0 = .ok (.iload_n 1, 1) := by decide +kernel
theorem dX8_endOf_1 : decode cX8_endOf 1 = .ok (.iconst 1, 1) := by decide +kernel
theorem dX8_endOf_2 : decode cX8_endOf 2 = .ok (.iadd, 1) := by decide +kernel
theorem dX8_endOf_3 : decode cX8_endOf 3 = .ok (.istore_n 2, 1) := by decide +kernel
theorem dX8_endOf_4 : decode cX8_endOf 4 = .ok (.iload_n 2, 1) := by decide +kernel
theorem dX8_endOf_5 : decode cX8_endOf 5 = .ok (.aload_n 0, 1) := by decide +kernel
theorem dX8_endOf_6 : decode cX8_endOf 6 = .ok (.getfield 7, 3) := by decide +kernel
theorem dX8_endOf_9 : decode cX8_endOf 9 = .ok (.iconst 0, 1) := by decide +kernel
theorem dX8_endOf_10 : decode cX8_endOf 10 = .ok (.iaload, 1) := by decide +kernel
theorem dX8_endOf_11 : decode cX8_endOf 11 = .ok (.if_icmp .ge 17, 3) := by decide +kernel
theorem dX8_endOf_14 : decode cX8_endOf 14 = .ok (.aload_n 0, 1) := by decide +kernel
theorem dX8_endOf_15 : decode cX8_endOf 15 = .ok (.iload_n 2, 1) := by decide +kernel
theorem dX8_endOf_16 : decode cX8_endOf 16 = .ok (.invokevirtual 71, 3) := by decide +kernel
theorem dX8_endOf_19 : decode cX8_endOf 19 = .ok (.ifCond .ne 9, 3) := by decide +kernel
theorem dX8_endOf_22 : decode cX8_endOf 22 = .ok (.iinc 2 1, 3) := by decide +kernel
theorem dX8_endOf_25 : decode cX8_endOf 25 = .ok (.goto (-21), 3) := by decide +kernel
theorem dX8_endOf_28 : decode cX8_endOf 28 = .ok (.iload_n 2, 1) := by decide +kernel
theorem dX8_endOf_29 : decode cX8_endOf 29 = .ok (.ireturn, 1) := by decide +kernel
set_option maxRecDepth 20000 in
theorem ggX8_stanzaOf_X8_begins : GoodIn wsX8_stanzaOf wsX8_begins := goodIn_r _ [5, 6, 7, 8, 4, 9, 10, 11, 12, 13, 14, 15, 16, 17, 18, 19, 20, 21, 22, 23, 24, 25, 26, 27, 28, 29, 30, 31, 32, 33] (by decide +kernel) (by decide +kernel)
set_option maxRecDepth 20000 in
theorem gX8_stanzaOf_X8_begins : GoodIn wsX8_stanzaOf (wsV RX8 71 RX8 yX8_begins wsX8_begins) := goodIn_app (goodIn_of _ (by decide +kernel)) ggX8_stanzaOf_X8_begins
theorem dX8_stanzaOf_0 : decode cX8_stanzaOf 0 = .ok (.iconst 0, 1) := by decide +kernel
theorem dX8_stanzaOf_1 : decode cX8_stanzaOf 1 = .ok (.istore_n 2, 1) := by decide +kernel
theorem dX8_stanzaOf_2 : decode cX8_stanzaOf 2 = .ok (.iconst 1, 1) := by decide +kernel
theorem dX8_stanzaOf_3 : decode cX8_stanzaOf 3 = .ok (.istore_n 3, 1) := by decide +kernel
theorem dX8_stanzaOf_4 : decode cX8_stanzaOf 4 = .ok (.iload_n 3, 1) := by decide +kernel
theorem dX8_stanzaOf_5 : decode cX8_stanzaOf 5 = .ok (.iload_n 1, 1) := by decide +kernel
theorem dX8_stanzaOf_6 : decode cX8_stanzaOf 6 = .ok (.if_icmp .gt 25, 3) := by decide +kernel
theorem dX8_stanzaOf_9 : decode cX8_stanzaOf 9 = .ok (.iload_n 2, 1) := by decide +kernel
theorem dX8_stanzaOf_10 : decode cX8_stanzaOf 10 = .ok (.aload_n 0, 1) := by decide +kernel
theorem dX8_stanzaOf_11 : decode cX8_stanzaOf 11 = .ok (.iload_n 3, 1) := by decide +kernel
theorem dX8_stanzaOf_12 : decode cX8_stanzaOf 12 = .ok (.invokevirtual 71, 3) := by decide +kernel
theorem dX8_stanzaOf_15 : decode cX8_stanzaOf 15 = .ok (.ifCond .eq 7, 3) := by decide +kernel
theorem dX8_stanzaOf_18 : decode cX8_stanzaOf 18 = .ok (.iconst 1, 1) := by decide +kernel
theorem dX8_stanzaOf_19 : decode cX8_stanzaOf 19 = .ok (.goto 4, 3) := by decide +kernel
theorem dX8_stanzaOf_22 : decode cX8_stanzaOf 22 = .ok (.iconst 0, 1) := by decide +kernel
theorem dX8_stanzaOf_23 : decode cX8_stanzaOf 23 = .ok (.iadd, 1) := by decide +kernel
theorem dX8_stanzaOf_24 : decode cX8_stanzaOf 24 = .ok (.istore_n 2, 1) := by decide +kernel
theorem dX8_stanzaOf_25 : decode cX8_stanzaOf 25 = .ok (.iinc 3 1, 3) := by decide +kernel
theorem dX8_stanzaOf_28 : decode cX8_stanzaOf 28 = .ok (.goto (-24), 3) := by decide +kernel
theorem dX8_stanzaOf_31 : decode cX8_stanzaOf 31 = .ok (.iload_n 2, 1) := by decide +kernel
theorem dX8_stanzaOf_32 : decode cX8_stanzaOf 32 = .ok (.ireturn, 1) := by decide +kernel
set_option maxRecDepth 20000 in
theorem ggX8_stanzas_X8_stanzaOf : GoodIn wsX8_stanzas wsX8_stanzaOf := goodIn_r _ [6, 7, 8, 9, 5, 10, 11, 12, 13, 14, 1, 15, 16, 17, 18, 19, 20, 21, 22, 23, 24, 25, 26, 27, 28, 29, 30, 31, 32, 33, 34, 35, 36, 37] (by decide +kernel) (by decide +kernel)
set_option maxRecDepth 20000 in
theorem gX8_stanzas_X8_stanzaOf : GoodIn wsX8_stanzas (wsV RX8 75 RX8 yX8_stanzaOf wsX8_stanzaOf) := goodIn_app (goodIn_of _ (by decide +kernel)) ggX8_stanzas_X8_stanzaOf
theorem dX8_stanzas_0 : decode cX8_stanzas 0 = .ok (.aload_n 0, 1) := by decide +kernel
theorem dX8_stanzas_1 : decode cX8_stanzas 1 = .ok (.getfield 7, 3) := by decide +kernel
theorem dX8_stanzas_4 : decode cX8_stanzas 4 = .ok (.iconst 0, 1) := by decide +kernel
theorem dX8_stanzas_5 : decode cX8_stanzas 5 = .ok (.iaload, 1) := by decide +kernel
theorem dX8_stanzas_6 : decode cX8_stanzas 6 = .ok (.ifCond .ne 7, 3) := by decide +kernel
theorem dX8_stanzas_9 : decode cX8_stanzas 9 = .ok (.iconst 0, 1) := by decide +kernel
theorem dX8_stanzas_10 : decode cX8_stanzas 10 = .ok (.goto 17, 3) := by decide +kernel
theorem dX8_stanzas_13 : decode cX8_stanzas 13 = .ok (.iconst 1, 1) := by decide +kernel
theorem dX8_stanzas_14 : decode cX8_stanzas 14 = .ok (.aload_n 0, 1) := by decide +kernel
theorem dX8_stanzas_15 : decode cX8_stanzas 15 = .ok (.aload_n 0, 1) := by decide +kernel
theorem dX8_stanzas_16 : decode cX8_stanzas 16 = .ok (.getfield 7, 3) := by decide +kernel
theorem dX8_stanzas_19 : decode cX8_stanzas 19 = .ok (.iconst 0, 1) := by decide +kernel
theorem dX8_stanzas_20 : decode cX8_stanzas 20 = .ok (.iaload, 1) := by decide +kernel
theorem dX8_stanzas_21 : decode cX8_stanzas 21 = .ok (.iconst 1, 1) := by decide +kernel
theorem dX8_stanzas_22 : decode cX8_stanzas 22 = .ok (.isub, 1) := by decide +kernel
theorem dX8_stanzas_23 : decode cX8_stanzas 23 = .ok (.invokevirtual 75, 3) := by decide +kernel
theorem dX8_stanzas_26 : decode cX8_stanzas 26 = .ok (.iadd, 1) := by decide +kernel
theorem dX8_stanzas_27 : decode cX8_stanzas 27 = .ok (.ireturn, 1) := by decide +kernel
set_option maxRecDepth 20000 in
theorem ggX8_firstLine_X8_stanzaOf : GoodIn wsX8_firstLine wsX8_stanzaOf := goodIn_r _ [5, 6, 7, 8, 4, 9, 10, 11, 12, 13, 14, 15, 16, 17, 18, 19, 20, 21, 22, 23, 24, 25, 26, 27, 28, 29, 30, 31, 32, 33, 34, 35, 36, 37] (by decide +kernel) (by decide +kernel)
set_option maxRecDepth 20000 in
theorem gX8_firstLine_X8_stanzaOf : GoodIn wsX8_firstLine (wsV RX8 75 RX8 yX8_stanzaOf wsX8_stanzaOf) := goodIn_app (goodIn_of _ (by decide +kernel)) ggX8_firstLine_X8_stanzaOf
theorem dX8_firstLine_0 : decode cX8_firstLine 0 = .ok (.iconst 0, 1) := by decide +kernel
theorem dX8_firstLine_1 : decode cX8_firstLine 1 = .ok (.istore_n 2, 1) := by decide +kernel
theorem dX8_firstLine_2 : decode cX8_firstLine 2 = .ok (.aload_n 0, 1) := by decide +kernel
theorem dX8_firstLine_3 : decode cX8_firstLine 3 = .ok (.iload_n 2, 1) := by decide +kernel
theorem dX8_firstLine_4 : decode cX8_firstLine 4 = .ok (.invokevirtual 75, 3) := by decide +kernel
theorem dX8_firstLine_7 : decode cX8_firstLine 7 = .ok (.iload_n 1, 1) := by decide +kernel
theorem dX8_firstLine_8 : decode cX8_firstLine 8 = .ok (.if_icmp .ge 9, 3) := by decide +kernel
theorem dX8_firstLine_11 : decode cX8_firstLine 11 = .ok (.iinc 2 1, 3) := by decide +kernel
theorem dX8_firstLine_14 : decode cX8_firstLine 14 = .ok (.goto (-12), 3) := by decide +kernel
theorem dX8_firstLine_17 : decode cX8_firstLine 17 = .ok (.iload_n 2, 1) := by decide +kernel
theorem dX8_firstLine_18 : decode cX8_firstLine 18 = .ok (.ireturn, 1) := by decide +kernel
set_option maxRecDepth 20000 in
theorem ggX8_rank_X8_startOf : GoodIn wsX8_rank wsX8_startOf := goodIn_r _ [5, 6, 7, 8, 4, 9, 10, 11, 12, 13, 14, 15, 16, 17, 18, 19, 20, 21, 22, 23, 24, 25, 26, 27, 28, 29, 30, 31, 32, 33, 34, 35, 36, 37] (by decide +kernel) (by decide +kernel)
set_option maxRecDepth 20000 in
theorem gX8_rank_X8_startOf : GoodIn wsX8_rank (wsV RX8 79 RX8 yX8_startOf wsX8_startOf) := goodIn_app (goodIn_of _ (by decide +kernel)) ggX8_rank_X8_startOf
set_option maxRecDepth 20000 in
theorem ggX8_rank_X8_at : GoodIn wsX8_rank wsX8_at := goodIn_r _ [13, 14, 15, 16, 17, 18, 19, 20, 21, 22, 23, 24, 25, 26, 27, 28, 29, 30, 31, 32, 33, 34, 35, 36, 37] (by decide +kernel) (by decide +kernel)
set_option maxRecDepth 20000 in
theorem gX8_rank_X8_at : GoodIn wsX8_rank (wsV RX8 67 RX8 yX8_at wsX8_at) := goodIn_app (goodIn_of _ (by decide +kernel)) ggX8_rank_X8_at
theorem dX8_rank_0 : decode cX8_rank 0 = .ok (.iconst 0, 1) := by decide +kernel
theorem dX8_rank_1 : decode cX8_rank 1 = .ok (.istore_n 2, 1) := by decide +kernel
theorem dX8_rank_2 : decode cX8_rank 2 = .ok (.iconst 0, 1) := by decide +kernel
theorem dX8_rank_3 : decode cX8_rank 3 = .ok (.istore_n 3, 1) := by decide +kernel
theorem dX8_rank_4 : decode cX8_rank 4 = .ok (.aload_n 0, 1) := by decide +kernel
theorem dX8_rank_5 : decode cX8_rank 5 = .ok (.iload_n 1, 1) := by decide +kernel
theorem dX8_rank_6 : decode cX8_rank 6 = .ok (.invokevirtual 79, 3) := by decide +kernel
theorem dX8_rank_9 : decode cX8_rank 9 = .ok (.istore 4, 2) := by decide +kernel
theorem dX8_rank_11 : decode cX8_rank 11 = .ok (.aload_n 0, 1) := by decide +kernel
theorem dX8_rank_12 : decode cX8_rank 12 = .ok (.iload 4, 2) := by decide +kernel
theorem dX8_rank_14 : decode cX8_rank 14 = .ok (.iconst 0, 1) := by decide +kernel
theorem dX8_rank_15 : decode cX8_rank 15 = .ok (.invokevirtual 67, 3) := by decide +kernel
theorem dX8_rank_18 : decode cX8_rank 18 = .ok (.aload_n 0, 1) := by decide +kernel
theorem dX8_rank_19 : decode cX8_rank 19 = .ok (.iload_n 1, 1) := by decide +kernel
theorem dX8_rank_20 : decode cX8_rank 20 = .ok (.iconst 0, 1) := by decide +kernel
theorem dX8_rank_21 : decode cX8_rank 21 = .ok (.invokevirtual 67, 3) := by decide +kernel
theorem dX8_rank_24 : decode cX8_rank 24 = .ok (.if_icmp .eq 43, 3) := by decide +kernel
theorem dX8_rank_27 : decode cX8_rank 27 = .ok (.iload_n 3, 1) := by decide +kernel
theorem dX8_rank_28 : decode cX8_rank 28 = .ok (.iload_n 2, 1) := by decide +kernel
theorem dX8_rank_29 : decode cX8_rank 29 = .ok (.aload_n 0, 1) := by decide +kernel
theorem dX8_rank_30 : decode cX8_rank 30 = .ok (.iload 4, 2) := by decide +kernel
theorem dX8_rank_32 : decode cX8_rank 32 = .ok (.iconst 0, 1) := by decide +kernel
theorem dX8_rank_33 : decode cX8_rank 33 = .ok (.invokevirtual 67, 3) := by decide +kernel
theorem dX8_rank_36 : decode cX8_rank 36 = .ok (.ishr, 1) := by decide +kernel
theorem dX8_rank_37 : decode cX8_rank 37 = .ok (.iconst 1, 1) := by decide +kernel
theorem dX8_rank_38 : decode cX8_rank 38 = .ok (.iand, 1) := by decide +kernel
theorem dX8_rank_39 : decode cX8_rank 39 = .ok (.ifCond .ne 7, 3) := by decide +kernel
theorem dX8_rank_42 : decode cX8_rank 42 = .ok (.iconst 1, 1) := by decide +kernel
theorem dX8_rank_43 : decode cX8_rank 43 = .ok (.goto 4, 3) := by decide +kernel
theorem dX8_rank_46 : decode cX8_rank 46 = .ok (.iconst 0, 1) := by decide +kernel
theorem dX8_rank_47 : decode cX8_rank 47 = .ok (.iadd, 1) := by decide +kernel
theorem dX8_rank_48 : decode cX8_rank 48 = .ok (.istore_n 3, 1) := by decide +kernel
theorem dX8_rank_49 : decode cX8_rank 49 = .ok (.iload_n 2, 1) := by decide +kernel
theorem dX8_rank_50 : decode cX8_rank 50 = .ok (.iconst 1, 1) := by decide +kernel
theorem dX8_rank_51 : decode cX8_rank 51 = .ok (.aload_n 0, 1) := by decide +kernel
theorem dX8_rank_52 : decode cX8_rank 52 = .ok (.iload 4, 2) := by decide +kernel
theorem dX8_rank_54 : decode cX8_rank 54 = .ok (.iconst 0, 1) := by decide +kernel
theorem dX8_rank_55 : decode cX8_rank 55 = .ok (.invokevirtual 67, 3) := by decide +kernel
theorem dX8_rank_58 : decode cX8_rank 58 = .ok (.ishl, 1) := by decide +kernel
theorem dX8_rank_59 : decode cX8_rank 59 = .ok (.ior, 1) := by decide +kernel
theorem dX8_rank_60 : decode cX8_rank 60 = .ok (.istore_n 2, 1) := by decide +kernel
theorem dX8_rank_61 : decode cX8_rank 61 = .ok (.iinc 4 1, 3) := by decide +kernel
theorem dX8_rank_64 : decode cX8_rank 64 = .ok (.goto (-53), 3) := by decide +kernel
theorem dX8_rank_67 : decode cX8_rank 67 = .ok (.iload_n 3, 1) := by decide +kernel
theorem dX8_rank_68 : decode cX8_rank 68 = .ok (.ireturn, 1) := by decide +kernel
set_option maxRecDepth 20000 in
theorem ggX8_indent_X8_rank : GoodIn wsX8_indent wsX8_rank := goodIn_r _ [6, 7, 8, 9, 5, 10, 11, 12, 13, 14, 15, 16, 17, 18, 1, 19, 20, 21, 22, 23, 24, 25, 26, 27, 28, 29, 30, 31, 32, 33, 34, 35, 36, 37, 38, 39, 40, 41] (by decide +kernel) (by decide +kernel)
set_option maxRecDepth 20000 in
theorem gX8_indent_X8_rank : GoodIn wsX8_indent (wsV RX8 82 RX8 yX8_rank wsX8_rank) := goodIn_app (goodIn_of _ (by decide +kernel)) ggX8_indent_X8_rank
set_option maxRecDepth 20000 in
theorem ggX8_indent_X8_startOf : GoodIn wsX8_indent wsX8_startOf := goodIn_r _ [10, 11, 12, 13, 5, 14, 15, 16, 17, 18, 1, 19, 20, 21, 22, 23, 24, 25, 26, 27, 28, 29, 30, 31, 32, 33, 34, 35, 36, 37, 38, 39, 40, 41] (by decide +kernel) (by decide +kernel)
set_option maxRecDepth 20000 in
theorem gX8_indent_X8_startOf : GoodIn wsX8_indent (wsV RX8 79 RX8 yX8_startOf wsX8_startOf) := goodIn_app (goodIn_of _ (by decide +kernel)) ggX8_indent_X8_startOf
theorem dX8_indent_0 : decode cX8_indent 0 = .ok (.aload_n 0, 1) := by decide +kernel
theorem dX8_indent_1 : decode cX8_indent 1 = .ok (.getfield 7, 3) := by decide +kernel
theorem dX8_indent_4 : decode cX8_indent 4 = .ok (.bipush 8, 2) := by decide +kernel
theorem dX8_indent_6 : decode cX8_indent 6 = .ok (.iaload, 1) := by decide +kernel
theorem dX8_indent_7 : decode cX8_indent 7 = .ok (.ifCond .ne 5, 3) := by decide +kernel
theorem dX8_indent_10 : decode cX8_indent 10 = .ok (.iconst 0, 1) := by decide +kernel
theorem dX8_indent_11 : decode cX8_indent 11 = .ok (.ireturn, 1) := by decide +kernel
theorem dX8_indent_12 : decode cX8_indent 12 = .ok (.aload_n 0, 1) := by decide +kernel
theorem dX8_indent_13 : decode cX8_indent 13 = .ok (.getfield 7, 3) := by decide +kernel
theorem dX8_indent_16 : decode cX8_indent 16 = .ok (.iconst 3, 1) := by decide +kernel
theorem dX8_indent_17 : decode cX8_indent 17 = .ok (.iaload, 1) := by decide +kernel
theorem dX8_indent_18 : decode cX8_indent 18 = .ok (.aload_n 0, 1) := by decide +kernel
theorem dX8_indent_19 : decode cX8_indent 19 = .ok (.getfield 7, 3) := by decide +kernel
theorem dX8_indent_22 : decode cX8_indent 22 = .ok (.bipush 8, 2) := by decide +kernel
theorem dX8_indent_24 : decode cX8_indent 24 = .ok (.iaload, 1) := by decide +kernel
theorem dX8_indent_25 : decode cX8_indent 25 = .ok (.iconst 1, 1) := by decide +kernel
theorem dX8_indent_26 : decode cX8_indent 26 = .ok (.if_icmp .ne 11, 3) := by decide +kernel
theorem dX8_indent_29 : decode cX8_indent 29 = .ok (.aload_n 0, 1) := by decide +kernel
theorem dX8_indent_30 : decode cX8_indent 30 = .ok (.iload_n 1, 1) := by decide +kernel
theorem dX8_indent_31 : decode cX8_indent 31 = .ok (.invokevirtual 82, 3) := by decide +kernel
theorem dX8_indent_34 : decode cX8_indent 34 = .ok (.goto 12, 3) := by decide +kernel
theorem dX8_indent_37 : decode cX8_indent 37 = .ok (.iload_n 1, 1) := by decide +kernel
theorem dX8_indent_38 : decode cX8_indent 38 = .ok (.aload_n 0, 1) := by decide +kernel
theorem dX8_indent_39 : decode cX8_indent 39 = .ok (.iload_n 1, 1) := by decide +kernel
theorem dX8_indent_40 : decode cX8_indent 40 = .ok (.invokevirtual 79, 3) := by decide +kernel
theorem dX8_indent_43 : decode cX8_indent 43 = .ok (.isub, 1) := by decide +kernel
theorem dX8_indent_44 : decode cX8_indent 44 = .ok (.iconst 2, 1) := by decide +kernel
theorem dX8_indent_45 : decode cX8_indent 45 = .ok (.irem, 1) := by decide +kernel
theorem dX8_indent_46 : decode cX8_indent 46 = .ok (.imul, 1) := by decide +kernel
theorem dX8_indent_47 : decode cX8_indent 47 = .ok (.ireturn, 1) := by decide +kernel
set_option maxRecDepth 20000 in
theorem ggX8_breaks_X8_words : GoodIn wsX8_breaks wsX8_words := goodIn_r _ [5, 6, 7, 8, 4, 9, 10, 11, 12, 13, 14, 15, 16, 17, 18, 19, 20, 21, 22, 23, 24, 25, 26, 27, 28, 29, 30, 31, 32, 33] (by decide +kernel) (by decide +kernel)
set_option maxRecDepth 20000 in
theorem gX8_breaks_X8_words : GoodIn wsX8_breaks (wsV RX8 85 RX8 yX8_words wsX8_words) := goodIn_app (goodIn_of _ (by decide +kernel)) ggX8_breaks_X8_words
theorem dX8_breaks_0 : decode cX8_breaks 0 = .ok (.iload_n 3, 1) := by decide +kernel
theorem dX8_breaks_1 : decode cX8_breaks 1 = .ok (.aload_n 0, 1) := by decide +kernel
theorem dX8_breaks_2 : decode cX8_breaks 2 = .ok (.iload_n 1, 1) := by decide +kernel
theorem dX8_breaks_3 : decode cX8_breaks 3 = .ok (.invokevirtual 85, 3) := by decide +kernel
theorem dX8_breaks_6 : decode cX8_breaks 6 = .ok (.iconst 1, 1) := by decide +kernel
theorem dX8_breaks_7 : decode cX8_breaks 7 = .ok (.isub, 1) := by decide +kernel
theorem dX8_breaks_8 : decode cX8_breaks 8 = .ok (.if_icmp .ge 24, 3) := by decide +kernel
theorem dX8_breaks_11 : decode cX8_breaks 11 = .ok (.iload_n 2, 1) := by decide +kernel
theorem dX8_breaks_12 : decode cX8_breaks 12 = .ok (.aload_n 0, 1) := by decide +kernel
theorem dX8_breaks_13 : decode cX8_breaks 13 = .ok (.iload_n 1, 1) := by decide +kernel
theorem dX8_breaks_14 : decode cX8_breaks 14 = .ok (.invokevirtual 85, 3) := by decide +kernel
theorem dX8_breaks_17 : decode cX8_breaks 17 = .ok (.iconst 2, 1) := by decide +kernel
theorem dX8_breaks_18 : decode cX8_breaks 18 = .ok (.isub, 1) := by decide +kernel
theorem dX8_breaks_19 : decode cX8_breaks 19 = .ok (.iload_n 3, 1) := by decide +kernel
theorem dX8_breaks_20 : decode cX8_breaks 20 = .ok (.isub, 1) := by decide +kernel
theorem dX8_breaks_21 : decode cX8_breaks 21 = .ok (.ishr, 1) := by decide +kernel
theorem dX8_breaks_22 : decode cX8_breaks 22 = .ok (.iconst 1, 1) := by decide +kernel
theorem dX8_breaks_23 : decode cX8_breaks 23 = .ok (.iand, 1) := by decide +kernel
theorem dX8_breaks_24 : decode cX8_breaks 24 = .ok (.iconst 1, 1) := by decide +kernel
theorem dX8_breaks_25 : decode cX8_breaks 25 = .ok (.if_icmp .ne 7, 3) := by decide +kernel
theorem dX8_breaks_28 : decode cX8_breaks 28 = .ok (.iconst 1, 1) := by decide +kernel
theorem dX8_breaks_29 : decode cX8_breaks 29 = .ok (.goto 4, 3) := by decide +kernel
theorem dX8_breaks_32 : decode cX8_breaks 32 = .ok (.iconst 0, 1) := by decide +kernel
theorem dX8_breaks_33 : decode cX8_breaks 33 = .ok (.ireturn, 1) := by decide +kernel
theorem dX8_costOfRow_0 : decode cX8_costOfRow 0 = .ok (.bipush 10, 2) := by decide +kernel
theorem dX8_costOfRow_2 : decode cX8_costOfRow 2 = .ok (.iconst 3, 1) := by decide +kernel
theorem dX8_costOfRow_3 : decode cX8_costOfRow 3 = .ok (.iload_n 2, 1) := by decide +kernel
theorem dX8_costOfRow_4 : decode cX8_costOfRow 4 = .ok (.isub, 1) := by decide +kernel
theorem dX8_costOfRow_5 : decode cX8_costOfRow 5 = .ok (.iconst 3, 1) := by decide +kernel
theorem dX8_costOfRow_6 : decode cX8_costOfRow 6 = .ok (.iload_n 2, 1) := by decide +kernel
theorem dX8_costOfRow_7 : decode cX8_costOfRow 7 = .ok (.isub, 1) := by decide +kernel
theorem dX8_costOfRow_8 : decode cX8_costOfRow 8 = .ok (.imul, 1) := by decide +kernel
theorem dX8_costOfRow_9 : decode cX8_costOfRow 9 = .ok (.iadd, 1) := by decide +kernel
theorem dX8_costOfRow_10 : decode cX8_costOfRow 10 = .ok (.istore_n 3, 1) := by decide +kernel
theorem dX8_costOfRow_11 : decode cX8_costOfRow 11 = .ok (.aload_n 0, 1) := by decide +kernel
theorem dX8_costOfRow_12 : decode cX8_costOfRow 12 = .ok (.getfield 7, 3) := by decide +kernel
theorem dX8_costOfRow_15 : decode cX8_costOfRow 15 = .ok (.bipush 7, 2) := by decide +kernel
theorem dX8_costOfRow_17 : decode cX8_costOfRow 17 = .ok (.iaload, 1) := by decide +kernel
theorem dX8_costOfRow_18 : decode cX8_costOfRow 18 = .ok (.ifCond .ne 7, 3) := by decide +kernel
theorem dX8_costOfRow_21 : decode cX8_costOfRow 21 = .ok (.iconst 1, 1) := by decide +kernel
theorem dX8_costOfRow_22 : decode cX8_costOfRow 22 = .ok (.goto 21, 3) := by decide +kernel
theorem dX8_costOfRow_25 : decode cX8_costOfRow 25 = .ok (.aload_n 0, 1) := by decide +kernel
theorem dX8_costOfRow_26 : decode cX8_costOfRow 26 = .ok (.getfield 7, 3) := by decide +kernel
theorem dX8_costOfRow_29 : decode cX8_costOfRow 29 = .ok (.bipush 7, 2) := by decide +kernel
theorem dX8_costOfRow_31 : decode cX8_costOfRow 31 = .ok (.iaload, 1) := by decide +kernel
theorem dX8_costOfRow_32 : decode cX8_costOfRow 32 = .ok (.iconst 1, 1) := by decide +kernel
theorem dX8_costOfRow_33 : decode cX8_costOfRow 33 = .ok (.if_icmp .ne 7, 3) := by decide +kernel
theorem dX8_costOfRow_36 : decode cX8_costOfRow 36 = .ok (.iload_n 3, 1) := by decide +kernel
theorem dX8_costOfRow_37 : decode cX8_costOfRow 37 = .ok (.goto 6, 3) := by decide +kernel
theorem dX8_costOfRow_40 : decode cX8_costOfRow 40 = .ok (.iload_n 1, 1) := by decide +kernel
theorem dX8_costOfRow_41 : decode cX8_costOfRow 41 = .ok (.iload_n 1, 1) := by decide +kernel
theorem dX8_costOfRow_42 : decode cX8_costOfRow 42 = .ok (.imul, 1) := by decide +kernel
theorem dX8_costOfRow_43 : decode cX8_costOfRow 43 = .ok (.ireturn, 1) := by decide +kernel
set_option maxRecDepth 20000 in
theorem ggX8_costBy_X8_indent : GoodIn wsX8_costBy wsX8_indent := goodIn_r _ [6, 1, 7, 8, 9, 5, 10, 11, 12, 13, 14, 15, 16, 17, 18, 19, 20, 21, 22, 35, 36, 37, 38, 39, 40, 41, 42, 43, 44, 45, 46, 47, 48, 49, 50, 51, 52, 53, 54, 55, 56, 57] (by decide +kernel) (by decide +kernel)
set_option maxRecDepth 20000 in
theorem gX8_costBy_X8_indent : GoodIn wsX8_costBy (wsV RX8 88 RX8 yX8_indent wsX8_indent) := goodIn_app (goodIn_of _ (by decide +kernel)) ggX8_costBy_X8_indent
set_option maxRecDepth 20000 in
theorem ggX8_costBy_X8_words : GoodIn wsX8_costBy wsX8_words := goodIn_r _ [26, 19, 20, 21, 5, 22, 1, 35, 36, 37, 38, 39, 40, 41, 42, 43, 44, 45, 46, 47, 48, 49, 50, 51, 52, 53, 54, 55, 56, 57] (by decide +kernel) (by decide +kernel)
set_option maxRecDepth 20000 in
theorem gX8_costBy_X8_words : GoodIn wsX8_costBy (wsV RX8 85 RX8 yX8_words wsX8_words) := goodIn_app (goodIn_of _ (by decide +kernel)) ggX8_costBy_X8_words
set_option maxRecDepth 20000 in
theorem ggX8_costBy_X8_at : GoodIn wsX8_costBy wsX8_at := goodIn_r _ [22, 1, 35, 36, 37, 38, 39, 40, 41, 42, 43, 44, 45, 46, 47, 48, 49, 50, 51, 52, 53, 54, 55, 56, 57] (by decide +kernel) (by decide +kernel)
set_option maxRecDepth 20000 in
theorem gX8_costBy_X8_at : GoodIn wsX8_costBy (wsV RX8 67 RX8 yX8_at wsX8_at) := goodIn_app (goodIn_of _ (by decide +kernel)) ggX8_costBy_X8_at
set_option maxRecDepth 20000 in
theorem ggX8_costBy_X8_breaks : GoodIn wsX8_costBy wsX8_breaks := goodIn_r _ [30, 23, 24, 25, 5, 26, 19, 20, 21, 22, 1, 35, 36, 37, 38, 39, 40, 41, 42, 43, 44, 45, 46, 47, 48, 49, 50, 51, 52, 53, 54, 55, 56, 57] (by decide +kernel) (by decide +kernel)
set_option maxRecDepth 20000 in
theorem gX8_costBy_X8_breaks : GoodIn wsX8_costBy (wsV RX8 91 RX8 yX8_breaks wsX8_breaks) := goodIn_app (goodIn_of _ (by decide +kernel)) ggX8_costBy_X8_breaks
set_option maxRecDepth 20000 in
theorem ggX8_costBy_X8_costOfRow : GoodIn wsX8_costBy wsX8_costOfRow := goodIn_r _ [34, 1, 35, 36, 37, 38, 39, 40, 41, 42, 43, 44, 45, 46, 47, 48, 49, 50, 51, 52, 53, 54, 55, 56, 57] (by decide +kernel) (by decide +kernel)
set_option maxRecDepth 20000 in
theorem gX8_costBy_X8_costOfRow : GoodIn wsX8_costBy (wsV RX8 95 RX8 yX8_costOfRow wsX8_costOfRow) := goodIn_app (goodIn_of _ (by decide +kernel)) ggX8_costBy_X8_costOfRow
theorem dX8_costBy_0 : decode cX8_costBy 0 = .ok (.aload_n 0, 1) := by decide +kernel
theorem dX8_costBy_1 : decode cX8_costBy 1 = .ok (.iload_n 1, 1) := by decide +kernel
theorem dX8_costBy_2 : decode cX8_costBy 2 = .ok (.invokevirtual 88, 3) := by decide +kernel
theorem dX8_costBy_5 : decode cX8_costBy 5 = .ok (.istore_n 3, 1) := by decide +kernel
theorem dX8_costBy_6 : decode cX8_costBy 6 = .ok (.iconst 0, 1) := by decide +kernel
theorem dX8_costBy_7 : decode cX8_costBy 7 = .ok (.istore 4, 2) := by decide +kernel
theorem dX8_costBy_9 : decode cX8_costBy 9 = .ok (.iconst 0, 1) := by decide +kernel
theorem dX8_costBy_10 : decode cX8_costBy 10 = .ok (.istore 5, 2) := by decide +kernel
theorem dX8_costBy_12 : decode cX8_costBy 12 = .ok (.iconst 0, 1) := by decide +kernel
theorem dX8_costBy_13 : decode cX8_costBy 13 = .ok (.istore 6, 2) := by decide +kernel
theorem dX8_costBy_15 : decode cX8_costBy 15 = .ok (.iload 6, 2) := by decide +kernel
theorem dX8_costBy_17 : decode cX8_costBy 17 = .ok (.aload_n 0, 1) := by decide +kernel
theorem dX8_costBy_18 : decode cX8_costBy 18 = .ok (.iload_n 1, 1) := by decide +kernel
theorem dX8_costBy_19 : decode cX8_costBy 19 = .ok (.invokevirtual 85, 3) := by decide +kernel
theorem dX8_costBy_22 : decode cX8_costBy 22 = .ok (.if_icmp .ge 103, 3) := by decide +kernel
theorem dX8_costBy_25 : decode cX8_costBy 25 = .ok (.iload 4, 2) := by decide +kernel
theorem dX8_costBy_27 : decode cX8_costBy 27 = .ok (.aload_n 0, 1) := by decide +kernel
theorem dX8_costBy_28 : decode cX8_costBy 28 = .ok (.iload_n 1, 1) := by decide +kernel
theorem dX8_costBy_29 : decode cX8_costBy 29 = .ok (.iconst 3, 1) := by decide +kernel
theorem dX8_costBy_30 : decode cX8_costBy 30 = .ok (.iload 6, 2) := by decide +kernel
theorem dX8_costBy_32 : decode cX8_costBy 32 = .ok (.iadd, 1) := by decide +kernel
theorem dX8_costBy_33 : decode cX8_costBy 33 = .ok (.invokevirtual 67, 3) := by decide +kernel
theorem dX8_costBy_36 : decode cX8_costBy 36 = .ok (.iload 4, 2) := by decide +kernel
theorem dX8_costBy_38 : decode cX8_costBy 38 = .ok (.ifCond .le 7, 3) := by decide +kernel
theorem dX8_costBy_41 : decode cX8_costBy 41 = .ok (.iconst 1, 1) := by decide +kernel
theorem dX8_costBy_42 : decode cX8_costBy 42 = .ok (.goto 4, 3) := by decide +kernel
theorem dX8_costBy_45 : decode cX8_costBy 45 = .ok (.iconst 0, 1) := by decide +kernel
theorem dX8_costBy_46 : decode cX8_costBy 46 = .ok (.iadd, 1) := by decide +kernel
theorem dX8_costBy_47 : decode cX8_costBy 47 = .ok (.iadd, 1) := by decide +kernel
theorem dX8_costBy_48 : decode cX8_costBy 48 = .ok (.istore 4, 2) := by decide +kernel
theorem dX8_costBy_50 : decode cX8_costBy 50 = .ok (.aload_n 0, 1) := by decide +kernel
theorem dX8_costBy_51 : decode cX8_costBy 51 = .ok (.getfield 7, 3) := by decide +kernel
theorem dX8_costBy_54 : decode cX8_costBy 54 = .ok (.iconst 2, 1) := by decide +kernel
theorem dX8_costBy_55 : decode cX8_costBy 55 = .ok (.iaload, 1) := by decide +kernel
theorem dX8_costBy_56 : decode cX8_costBy 56 = .ok (.iload_n 3, 1) := by decide +kernel
theorem dX8_costBy_57 : decode cX8_costBy 57 = .ok (.isub, 1) := by decide +kernel
theorem dX8_costBy_58 : decode cX8_costBy 58 = .ok (.iload 4, 2) := by decide +kernel
theorem dX8_costBy_60 : decode cX8_costBy 60 = .ok (.isub, 1) := by decide +kernel
theorem dX8_costBy_61 : decode cX8_costBy 61 = .ok (.istore 7, 2) := by decide +kernel
theorem dX8_costBy_63 : decode cX8_costBy 63 = .ok (.iload 7, 2) := by decide +kernel
theorem dX8_costBy_65 : decode cX8_costBy 65 = .ok (.ifCond .ge 6, 3) := by decide +kernel
theorem dX8_costBy_68 : decode cX8_costBy 68 = .ok (.bipush (-4), 2) := by decide +kernel
theorem dX8_costBy_70 : decode cX8_costBy 70 = .ok (.ireturn, 1) := by decide +kernel
theorem dX8_costBy_71 : decode cX8_costBy 71 = .ok (.aload_n 0, 1) := by decide +kernel
theorem dX8_costBy_72 : decode cX8_costBy 72 = .ok (.iload_n 1, 1) := by decide +kernel
theorem dX8_costBy_73 : decode cX8_costBy 73 = .ok (.iload_n 2, 1) := by decide +kernel
theorem dX8_costBy_74 : decode cX8_costBy 74 = .ok (.iload 6, 2) := by decide +kernel
theorem dX8_costBy_76 : decode cX8_costBy 76 = .ok (.invokevirtual 91, 3) := by decide +kernel
theorem dX8_costBy_79 : decode cX8_costBy 79 = .ok (.ifCond .eq 40, 3) := by decide +kernel
theorem dX8_costBy_82 : decode cX8_costBy 82 = .ok (.iload 5, 2) := by decide +kernel
theorem dX8_costBy_84 : decode cX8_costBy 84 = .ok (.aload_n 0, 1) := by decide +kernel
theorem dX8_costBy_85 : decode cX8_costBy 85 = .ok (.iload 7, 2) := by decide +kernel
theorem dX8_costBy_87 : decode cX8_costBy 87 = .ok (.aload_n 0, 1) := by decide +kernel
theorem dX8_costBy_88 : decode cX8_costBy 88 = .ok (.iload_n 1, 1) := by decide +kernel
theorem dX8_costBy_89 : decode cX8_costBy 89 = .ok (.bipush 9, 2) := by decide +kernel
theorem dX8_costBy_91 : decode cX8_costBy 91 = .ok (.iload 6, 2) := by decide +kernel
theorem dX8_costBy_93 : decode cX8_costBy 93 = .ok (.iadd, 1) := by decide +kernel
theorem dX8_costBy_94 : decode cX8_costBy 94 = .ok (.invokevirtual 67, 3) := by decide +kernel
theorem dX8_costBy_97 : decode cX8_costBy 97 = .ok (.invokevirtual 95, 3) := by decide +kernel
theorem dX8_costBy_100 : decode cX8_costBy 100 = .ok (.iadd, 1) := by decide +kernel
theorem dX8_costBy_101 : decode cX8_costBy 101 = .ok (.istore 5, 2) := by decide +kernel
theorem dX8_costBy_103 : decode cX8_costBy 103 = .ok (.aload_n 0, 1) := by decide +kernel
theorem dX8_costBy_104 : decode cX8_costBy 104 = .ok (.iload_n 1, 1) := by decide +kernel
theorem dX8_costBy_105 : decode cX8_costBy 105 = .ok (.invokevirtual 88, 3) := by decide +kernel
theorem dX8_costBy_108 : decode cX8_costBy 108 = .ok (.aload_n 0, 1) := by decide +kernel
theorem dX8_costBy_109 : decode cX8_costBy 109 = .ok (.getfield 7, 3) := by decide +kernel
theorem dX8_costBy_112 : decode cX8_costBy 112 = .ok (.iconst 4, 1) := by decide +kernel
theorem dX8_costBy_113 : decode cX8_costBy 113 = .ok (.iaload, 1) := by decide +kernel
theorem dX8_costBy_114 : decode cX8_costBy 114 = .ok (.iadd, 1) := by decide +kernel
theorem dX8_costBy_115 : decode cX8_costBy 115 = .ok (.istore_n 3, 1) := by decide +kernel
theorem dX8_costBy_116 : decode cX8_costBy 116 = .ok (.iconst 0, 1) := by decide +kernel
theorem dX8_costBy_117 : decode cX8_costBy 117 = .ok (.istore 4, 2) := by decide +kernel
theorem dX8_costBy_119 : decode cX8_costBy 119 = .ok (.iinc 6 1, 3) := by decide +kernel
theorem dX8_costBy_122 : decode cX8_costBy 122 = .ok (.goto (-107), 3) := by decide +kernel
theorem dX8_costBy_125 : decode cX8_costBy 125 = .ok (.iload 5, 2) := by decide +kernel
theorem dX8_costBy_127 : decode cX8_costBy 127 = .ok (.ireturn, 1) := by decide +kernel
set_option maxRecDepth 20000 in
theorem ggX8_codes_X8_words : GoodIn wsX8_codes wsX8_words := goodIn_r _ [5, 6, 7, 8, 4, 9, 10, 11, 12, 13, 14, 15, 16, 17, 18, 19, 20, 21, 22, 23, 24, 25, 26, 27, 28, 29, 30, 31, 32, 33] (by decide +kernel) (by decide +kernel)
set_option maxRecDepth 20000 in
theorem gX8_codes_X8_words : GoodIn wsX8_codes (wsV RX8 85 RX8 yX8_words wsX8_words) := goodIn_app (goodIn_of _ (by decide +kernel)) ggX8_codes_X8_words
theorem dX8_codes_0 : decode cX8_codes 0 = .ok (.aload_n 0, 1) := by decide +kernel
theorem dX8_codes_1 : decode cX8_codes 1 = .ok (.iload_n 1, 1) := by decide +kernel
theorem dX8_codes_2 : decode cX8_codes 2 = .ok (.invokevirtual 85, 3) := by decide +kernel
theorem dX8_codes_5 : decode cX8_codes 5 = .ok (.iconst 2, 1) := by decide +kernel
theorem dX8_codes_6 : decode cX8_codes 6 = .ok (.if_icmp .ge 7, 3) := by decide +kernel
theorem dX8_codes_9 : decode cX8_codes 9 = .ok (.iconst 1, 1) := by decide +kernel
theorem dX8_codes_10 : decode cX8_codes 10 = .ok (.goto 12, 3) := by decide +kernel
theorem dX8_codes_13 : decode cX8_codes 13 = .ok (.iconst 1, 1) := by decide +kernel
theorem dX8_codes_14 : decode cX8_codes 14 = .ok (.aload_n 0, 1) := by decide +kernel
theorem dX8_codes_15 : decode cX8_codes 15 = .ok (.iload_n 1, 1) := by decide +kernel
theorem dX8_codes_16 : decode cX8_codes 16 = .ok (.invokevirtual 85, 3) := by decide +kernel
theorem dX8_codes_19 : decode cX8_codes 19 = .ok (.iconst 1, 1) := by decide +kernel
theorem dX8_codes_20 : decode cX8_codes 20 = .ok (.isub, 1) := by decide +kernel
theorem dX8_codes_21 : decode cX8_codes 21 = .ok (.ishl, 1) := by decide +kernel
theorem dX8_codes_22 : decode cX8_codes 22 = .ok (.ireturn, 1) := by decide +kernel
set_option maxRecDepth 20000 in
theorem ggX8_many_X8_codes : GoodIn wsX8_many wsX8_codes := goodIn_r _ [5, 6, 7, 8, 4, 9, 10, 11, 12, 13, 14, 43, 44, 45, 46, 47, 48, 49, 50, 51, 52, 53, 54, 55, 56, 57, 58, 59, 60, 61, 62, 63, 64, 65] (by decide +kernel) (by decide +kernel)
set_option maxRecDepth 20000 in
theorem gX8_many_X8_codes : GoodIn wsX8_many (wsV RX8 98 RX8 yX8_codes wsX8_codes) := goodIn_app (goodIn_of _ (by decide +kernel)) ggX8_many_X8_codes
set_option maxRecDepth 20000 in
theorem ggX8_many_X8_costBy : GoodIn wsX8_many wsX8_costBy := goodIn_r _ [18, 14, 19, 20, 21, 4, 22, 23, 24, 25, 26, 27, 28, 29, 30, 31, 32, 33, 34, 10, 11, 12, 13, 6, 7, 8, 9, 35, 36, 37, 38, 39, 40, 41, 42, 43, 44, 45, 46, 47, 48, 49, 50, 51, 52, 53, 54, 55, 56, 57, 58, 59, 60, 61, 62, 63, 64, 65] (by decide +kernel) (by decide +kernel)
set_option maxRecDepth 20000 in
theorem gX8_many_X8_costBy : GoodIn wsX8_many (wsV RX8 101 RX8 yX8_costBy wsX8_costBy) := goodIn_app (goodIn_of _ (by decide +kernel)) ggX8_many_X8_costBy
theorem dX8_many_0 : decode cX8_many 0 = .ok (.iconst 0, 1) := by decide +kernel
theorem dX8_many_1 : decode cX8_many 1 = .ok (.istore_n 2, 1) := by decide +kernel
theorem dX8_many_2 : decode cX8_many 2 = .ok (.iconst 0, 1) := by decide +kernel
theorem dX8_many_3 : decode cX8_many 3 = .ok (.istore_n 3, 1) := by decide +kernel
theorem dX8_many_4 : decode cX8_many 4 = .ok (.iload_n 3, 1) := by decide +kernel
theorem dX8_many_5 : decode cX8_many 5 = .ok (.aload_n 0, 1) := by decide +kernel
theorem dX8_many_6 : decode cX8_many 6 = .ok (.iload_n 1, 1) := by decide +kernel
theorem dX8_many_7 : decode cX8_many 7 = .ok (.invokevirtual 98, 3) := by decide +kernel
theorem dX8_many_10 : decode cX8_many 10 = .ok (.if_icmp .ge 26, 3) := by decide +kernel
theorem dX8_many_13 : decode cX8_many 13 = .ok (.iload_n 2, 1) := by decide +kernel
theorem dX8_many_14 : decode cX8_many 14 = .ok (.aload_n 0, 1) := by decide +kernel
theorem dX8_many_15 : decode cX8_many 15 = .ok (.iload_n 1, 1) := by decide +kernel
theorem dX8_many_16 : decode cX8_many 16 = .ok (.iload_n 3, 1) := by decide +kernel
theorem dX8_many_17 : decode cX8_many 17 = .ok (.invokevirtual 101, 3) := by decide +kernel
theorem dX8_many_20 : decode cX8_many 20 = .ok (.ifCond .lt 7, 3) := by decide +kernel
theorem dX8_many_23 : decode cX8_many 23 = .ok (.iconst 1, 1) := by decide +kernel
theorem dX8_many_24 : decode cX8_many 24 = .ok (.goto 4, 3) := by decide +kernel
theorem dX8_many_27 : decode cX8_many 27 = .ok (.iconst 0, 1) := by decide +kernel
theorem dX8_many_28 : decode cX8_many 28 = .ok (.iadd, 1) := by decide +kernel
theorem dX8_many_29 : decode cX8_many 29 = .ok (.istore_n 2, 1) := by decide +kernel
theorem dX8_many_30 : decode cX8_many 30 = .ok (.iinc 3 1, 3) := by decide +kernel
theorem dX8_many_33 : decode cX8_many 33 = .ok (.goto (-29), 3) := by decide +kernel
theorem dX8_many_36 : decode cX8_many 36 = .ok (.iload_n 2, 1) := by decide +kernel
theorem dX8_many_37 : decode cX8_many 37 = .ok (.ireturn, 1) := by decide +kernel
set_option maxRecDepth 20000 in
theorem ggX8_best_X8_codes : GoodIn wsX8_best wsX8_codes := goodIn_r _ [6, 7, 8, 9, 5, 10, 11, 12, 13, 14, 15, 44, 45, 46, 47, 48, 49, 50, 51, 52, 53, 54, 55, 56, 57, 58, 59, 60, 61, 62, 63, 64, 65, 66] (by decide +kernel) (by decide +kernel)
set_option maxRecDepth 20000 in
theorem gX8_best_X8_codes : GoodIn wsX8_best (wsV RX8 98 RX8 yX8_codes wsX8_codes) := goodIn_app (goodIn_of _ (by decide +kernel)) ggX8_best_X8_codes
set_option maxRecDepth 20000 in
theorem ggX8_best_X8_costBy : GoodIn wsX8_best wsX8_costBy := goodIn_r _ [19, 15, 20, 21, 22, 5, 23, 24, 25, 26, 27, 28, 29, 30, 31, 32, 33, 34, 35, 11, 12, 13, 14, 7, 8, 9, 10, 36, 37, 38, 39, 40, 41, 42, 43, 44, 45, 46, 47, 48, 49, 50, 51, 52, 53, 54, 55, 56, 57, 58, 59, 60, 61, 62, 63, 64, 65, 66] (by decide +kernel) (by decide +kernel)
set_option maxRecDepth 20000 in
theorem gX8_best_X8_costBy : GoodIn wsX8_best (wsV RX8 101 RX8 yX8_costBy wsX8_costBy) := goodIn_app (goodIn_of _ (by decide +kernel)) ggX8_best_X8_costBy
theorem dX8_best_0 : decode cX8_best 0 = .ok (.bipush (-4), 2) := by decide +kernel
theorem dX8_best_2 : decode cX8_best 2 = .ok (.istore_n 2, 1) := by decide +kernel
theorem dX8_best_3 : decode cX8_best 3 = .ok (.ldc 104, 2) := by decide +kernel
theorem dX8_best_5 : decode cX8_best 5 = .ok (.istore_n 3, 1) := by decide +kernel
theorem dX8_best_6 : decode cX8_best 6 = .ok (.iconst 0, 1) := by decide +kernel
theorem dX8_best_7 : decode cX8_best 7 = .ok (.istore 4, 2) := by decide +kernel
theorem dX8_best_9 : decode cX8_best 9 = .ok (.iload 4, 2) := by decide +kernel
theorem dX8_best_11 : decode cX8_best 11 = .ok (.aload_n 0, 1) := by decide +kernel
theorem dX8_best_12 : decode cX8_best 12 = .ok (.iload_n 1, 1) := by decide +kernel
theorem dX8_best_13 : decode cX8_best 13 = .ok (.invokevirtual 98, 3) := by decide +kernel
theorem dX8_best_16 : decode cX8_best 16 = .ok (.if_icmp .ge 35, 3) := by decide +kernel
theorem dX8_best_19 : decode cX8_best 19 = .ok (.aload_n 0, 1) := by decide +kernel
theorem dX8_best_20 : decode cX8_best 20 = .ok (.iload_n 1, 1) := by decide +kernel
theorem dX8_best_21 : decode cX8_best 21 = .ok (.iload 4, 2) := by decide +kernel
theorem dX8_best_23 : decode cX8_best 23 = .ok (.invokevirtual 101, 3) := by decide +kernel
theorem dX8_best_26 : decode cX8_best 26 = .ok (.istore 5, 2) := by decide +kernel
theorem dX8_best_28 : decode cX8_best 28 = .ok (.iload 5, 2) := by decide +kernel
theorem dX8_best_30 : decode cX8_best 30 = .ok (.ifCond .lt 15, 3) := by decide +kernel
theorem dX8_best_33 : decode cX8_best 33 = .ok (.iload 5, 2) := by decide +kernel
theorem dX8_best_35 : decode cX8_best 35 = .ok (.iload_n 3, 1) := by decide +kernel
theorem dX8_best_36 : decode cX8_best 36 = .ok (.if_icmp .ge 9, 3) := by decide +kernel
theorem dX8_best_39 : decode cX8_best 39 = .ok (.iload 4, 2) := by decide +kernel
theorem dX8_best_41 : decode cX8_best 41 = .ok (.istore_n 2, 1) := by decide +kernel
theorem dX8_best_42 : decode cX8_best 42 = .ok (.iload 5, 2) := by decide +kernel
theorem dX8_best_44 : decode cX8_best 44 = .ok (.istore_n 3, 1) := by decide +kernel
theorem dX8_best_45 : decode cX8_best 45 = .ok (.iinc 4 1, 3) := by decide +kernel
theorem dX8_best_48 : decode cX8_best 48 = .ok (.goto (-39), 3) := by decide +kernel
theorem dX8_best_51 : decode cX8_best 51 = .ok (.iload_n 2, 1) := by decide +kernel
theorem dX8_best_52 : decode cX8_best 52 = .ok (.ireturn, 1) := by decide +kernel
theorem dX8_ones_0 : decode cX8_ones 0 = .ok (.iconst 0, 1) := by decide +kernel
theorem dX8_ones_1 : decode cX8_ones 1 = .ok (.istore_n 1, 1) := by decide +kernel
theorem dX8_ones_2 : decode cX8_ones 2 = .ok (.iload_n 0, 1) := by decide +kernel
theorem dX8_ones_3 : decode cX8_ones 3 = .ok (.istore_n 2, 1) := by decide +kernel
theorem dX8_ones_4 : decode cX8_ones 4 = .ok (.iload_n 2, 1) := by decide +kernel
theorem dX8_ones_5 : decode cX8_ones 5 = .ok (.ifCond .eq 15, 3) := by decide +kernel
theorem dX8_ones_8 : decode cX8_ones 8 = .ok (.iinc 1 1, 3) := by decide +kernel
theorem dX8_ones_11 : decode cX8_ones 11 = .ok (.iload_n 2, 1) := by decide +kernel
theorem dX8_ones_12 : decode cX8_ones 12 = .ok (.iload_n 2, 1) := by decide +kernel
theorem dX8_ones_13 : decode cX8_ones 13 = .ok (.iconst 1, 1) := by decide +kernel
theorem dX8_ones_14 : decode cX8_ones 14 = .ok (.isub, 1) := by decide +kernel
theorem dX8_ones_15 : decode cX8_ones 15 = .ok (.iand, 1) := by decide +kernel
theorem dX8_ones_16 : decode cX8_ones 16 = .ok (.istore_n 2, 1) := by decide +kernel
theorem dX8_ones_17 : decode cX8_ones 17 = .ok (.goto (-13), 3) := by decide +kernel
theorem dX8_ones_20 : decode cX8_ones 20 = .ok (.iload_n 1, 1) := by decide +kernel
theorem dX8_ones_21 : decode cX8_ones 21 = .ok (.ireturn, 1) := by decide +kernel
set_option maxRecDepth 20000 in
theorem ggX8_rowsOf_X8_best : GoodIn wsX8_rowsOf wsX8_best := goodIn_r _ [5, 6, 7, 8, 9, 4, 10, 11, 12, 13, 14, 15, 16, 17, 18, 19, 20, 21, 22, 23, 24, 25, 26, 27, 28, 29, 30, 31, 32, 33, 34, 35, 36, 37, 38, 39, 40, 41, 42, 43, 44, 45, 46, 47, 51, 52, 53, 54, 55, 56, 57, 58, 59, 60, 61, 62, 63, 64, 65, 66, 67, 68, 69, 70, 71, 72, 73] (by decide +kernel) (by decide +kernel)
set_option maxRecDepth 20000 in
theorem gX8_rowsOf_X8_best : GoodIn wsX8_rowsOf (wsV RX8 105 RX8 yX8_best wsX8_best) := goodIn_app (goodIn_of _ (by decide +kernel)) ggX8_rowsOf_X8_best
set_option maxRecDepth 20000 in
theorem ggX8_rowsOf_X8_ones : GoodIn wsX8_rowsOf wsX8_ones := goodIn_r _ [50] (by decide +kernel) (by decide +kernel)
set_option maxRecDepth 20000 in
theorem gX8_rowsOf_X8_ones : GoodIn wsX8_rowsOf (va_wsS RX8 108 yX8_ones wsX8_ones) := goodIn_app (goodIn_of _ (by decide +kernel)) ggX8_rowsOf_X8_ones
theorem dX8_rowsOf_0 : decode cX8_rowsOf 0 = .ok (.aload_n 0, 1) := by decide +kernel
theorem dX8_rowsOf_1 : decode cX8_rowsOf 1 = .ok (.iload_n 1, 1) := by decide +kernel
theorem dX8_rowsOf_2 : decode cX8_rowsOf 2 = .ok (.invokevirtual 105, 3) := by decide +kernel
theorem dX8_rowsOf_5 : decode cX8_rowsOf 5 = .ok (.ifCond .ge 8, 3) := by decide +kernel
theorem dX8_rowsOf_8 : decode cX8_rowsOf 8 = .ok (.bipush (-4), 2) := by decide +kernel
theorem dX8_rowsOf_10 : decode cX8_rowsOf 10 = .ok (.goto 13, 3) := by decide +kernel
theorem dX8_rowsOf_13 : decode cX8_rowsOf 13 = .ok (.iconst 1, 1) := by decide +kernel
theorem dX8_rowsOf_14 : decode cX8_rowsOf 14 = .ok (.aload_n 0, 1) := by decide +kernel
theorem dX8_rowsOf_15 : decode cX8_rowsOf 15 = .ok (.iload_n 1, 1) := by decide +kernel
theorem dX8_rowsOf_16 : decode cX8_rowsOf 16 = .ok (.invokevirtual 105, 3) := by decide +kernel
theorem dX8_rowsOf_19 : decode cX8_rowsOf 19 = .ok (.invokestatic 108, 3) := by decide +kernel
theorem dX8_rowsOf_22 : decode cX8_rowsOf 22 = .ok (.iadd, 1) := by decide +kernel
theorem dX8_rowsOf_23 : decode cX8_rowsOf 23 = .ok (.ireturn, 1) := by decide +kernel
set_option maxRecDepth 20000 in
theorem ggX8_costOf_X8_best : GoodIn wsX8_costOf wsX8_best := goodIn_r _ [5, 6, 7, 8, 9, 4, 10, 11, 12, 13, 14, 15, 16, 17, 18, 19, 20, 21, 22, 23, 24, 25, 26, 27, 28, 29, 30, 31, 32, 33, 34, 35, 36, 37, 38, 39, 40, 41, 42, 43, 44, 45, 46, 47, 48, 49, 50, 51, 52, 53, 54, 55, 56, 57, 58, 59, 60, 61, 62, 63, 64, 65, 66, 67, 68, 69, 70] (by decide +kernel) (by decide +kernel)
set_option maxRecDepth 20000 in
theorem gX8_costOf_X8_best : GoodIn wsX8_costOf (wsV RX8 105 RX8 yX8_best wsX8_best) := goodIn_app (goodIn_of _ (by decide +kernel)) ggX8_costOf_X8_best
set_option maxRecDepth 20000 in
theorem ggX8_costOf_X8_costBy : GoodIn wsX8_costOf wsX8_costBy := goodIn_r _ [23, 19, 24, 25, 26, 4, 27, 28, 29, 30, 31, 32, 33, 34, 35, 36, 37, 38, 39, 15, 16, 17, 18, 11, 12, 13, 14, 40, 41, 42, 43, 44, 45, 46, 47, 48, 49, 50, 51, 52, 53, 54, 55, 56, 57, 58, 59, 60, 61, 62, 63, 64, 65, 66, 67, 68, 69, 70] (by decide +kernel) (by decide +kernel)
set_option maxRecDepth 20000 in
theorem gX8_costOf_X8_costBy : GoodIn wsX8_costOf (wsV RX8 101 RX8 yX8_costBy wsX8_costBy) := goodIn_app (goodIn_of _ (by decide +kernel)) ggX8_costOf_X8_costBy
theorem dX8_costOf_0 : decode cX8_costOf 0 = .ok (.aload_n 0, 1) := by decide +kernel
theorem dX8_costOf_1 : decode cX8_costOf 1 = .ok (.iload_n 1, 1) := by decide +kernel
theorem dX8_costOf_2 : decode cX8_costOf 2 = .ok (.invokevirtual 105, 3) := by decide +kernel
theorem dX8_costOf_5 : decode cX8_costOf 5 = .ok (.ifCond .ge 8, 3) := by decide +kernel
theorem dX8_costOf_8 : decode cX8_costOf 8 = .ok (.bipush (-4), 2) := by decide +kernel
theorem dX8_costOf_10 : decode cX8_costOf 10 = .ok (.goto 13, 3) := by decide +kernel
theorem dX8_costOf_13 : decode cX8_costOf 13 = .ok (.aload_n 0, 1) := by decide +kernel
theorem dX8_costOf_14 : decode cX8_costOf 14 = .ok (.iload_n 1, 1) := by decide +kernel
theorem dX8_costOf_15 : decode cX8_costOf 15 = .ok (.aload_n 0, 1) := by decide +kernel
theorem dX8_costOf_16 : decode cX8_costOf 16 = .ok (.iload_n 1, 1) := by decide +kernel
theorem dX8_costOf_17 : decode cX8_costOf 17 = .ok (.invokevirtual 105, 3) := by decide +kernel
theorem dX8_costOf_20 : decode cX8_costOf 20 = .ok (.invokevirtual 101, 3) := by decide +kernel
theorem dX8_costOf_23 : decode cX8_costOf 23 = .ok (.ireturn, 1) := by decide +kernel
set_option maxRecDepth 20000 in
theorem ggX8_sets_X8_rowsOf : GoodIn wsX8_sets wsX8_rowsOf := goodIn_r _ [8, 9, 10, 11, 7, 12, 13, 14, 15, 16, 17, 18, 19, 20, 21, 22, 23, 24, 25, 2, 26, 27, 28, 29, 30, 31, 32, 33, 34, 35, 36, 37, 38, 39, 40, 41, 42, 43, 44, 45, 46, 47, 48, 49, 50, 51, 52, 53, 54, 55, 56, 57, 58, 59, 60, 61, 62, 63, 64, 65, 66, 67, 68, 69, 70, 71, 72, 73, 74, 75, 76, 77, 78, 79] (by decide +kernel) (by decide +kernel)
set_option maxRecDepth 20000 in
theorem gX8_sets_X8_rowsOf : GoodIn wsX8_sets (wsV RX8 115 RX8 yX8_rowsOf wsX8_rowsOf) := goodIn_app (goodIn_of _ (by decide +kernel)) ggX8_sets_X8_rowsOf
theorem dX8_sets_0 : decode cX8_sets 0 = .ok (.aload_n 0, 1) := by decide +kernel
theorem dX8_sets_1 : decode cX8_sets 1 = .ok (.iconst 1, 1) := by decide +kernel
theorem dX8_sets_2 : decode cX8_sets 2 = .ok (.putfield 111, 3) := by decide +kernel
theorem dX8_sets_5 : decode cX8_sets 5 = .ok (.iconst 0, 1) := by decide +kernel
theorem dX8_sets_6 : decode cX8_sets 6 = .ok (.istore_n 1, 1) := by decide +kernel
theorem dX8_sets_7 : decode cX8_sets 7 = .ok (.iload_n 1, 1) := by decide +kernel
theorem dX8_sets_8 : decode cX8_sets 8 = .ok (.aload_n 0, 1) := by decide +kernel
theorem dX8_sets_9 : decode cX8_sets 9 = .ok (.getfield 7, 3) := by decide +kernel
theorem dX8_sets_12 : decode cX8_sets 12 = .ok (.iconst 0, 1) := by decide +kernel
theorem dX8_sets_13 : decode cX8_sets 13 = .ok (.iaload, 1) := by decide +kernel
theorem dX8_sets_14 : decode cX8_sets 14 = .ok (.if_icmp .ge 45, 3) := by decide +kernel
theorem dX8_sets_17 : decode cX8_sets 17 = .ok (.aload_n 0, 1) := by decide +kernel
theorem dX8_sets_18 : decode cX8_sets 18 = .ok (.getfield 42, 3) := by decide +kernel
theorem dX8_sets_21 : decode cX8_sets 21 = .ok (.iload_n 1, 1) := by decide +kernel
theorem dX8_sets_22 : decode cX8_sets 22 = .ok (.aload_n 0, 1) := by decide +kernel
theorem dX8_sets_23 : decode cX8_sets 23 = .ok (.iload_n 1, 1) := by decide +kernel
theorem dX8_sets_24 : decode cX8_sets 24 = .ok (.invokevirtual 115, 3) := by decide +kernel
theorem dX8_sets_27 : decode cX8_sets 27 = .ok (.iastore, 1) := by decide +kernel
theorem dX8_sets_28 : decode cX8_sets 28 = .ok (.aload_n 0, 1) := by decide +kernel
theorem dX8_sets_29 : decode cX8_sets 29 = .ok (.aload_n 0, 1) := by decide +kernel
theorem dX8_sets_30 : decode cX8_sets 30 = .ok (.getfield 111, 3) := by decide +kernel
theorem dX8_sets_33 : decode cX8_sets 33 = .ok (.ifCond .eq 16, 3) := by decide +kernel
theorem dX8_sets_36 : decode cX8_sets 36 = .ok (.aload_n 0, 1) := by decide +kernel
theorem dX8_sets_37 : decode cX8_sets 37 = .ok (.getfield 42, 3) := by decide +kernel
theorem dX8_sets_40 : decode cX8_sets 40 = .ok (.iload_n 1, 1) := by decide +kernel
theorem dX8_sets_41 : decode cX8_sets 41 = .ok (.iaload, 1) := by decide +kernel
theorem dX8_sets_42 : decode cX8_sets 42 = .ok (.ifCond .le 7, 3) := by decide +kernel
theorem dX8_sets_45 : decode cX8_sets 45 = .ok (.iconst 1, 1) := by decide +kernel
theorem dX8_sets_46 : decode cX8_sets 46 = .ok (.goto 4, 3) := by decide +kernel
theorem dX8_sets_49 : decode cX8_sets 49 = .ok (.iconst 0, 1) := by decide +kernel
theorem dX8_sets_50 : decode cX8_sets 50 = .ok (.putfield 111, 3) := by decide +kernel
theorem dX8_sets_53 : decode cX8_sets 53 = .ok (.iinc 1 1, 3) := by decide +kernel
theorem dX8_sets_56 : decode cX8_sets 56 = .ok (.goto (-49), 3) := by decide +kernel
theorem dX8_sets_59 : decode cX8_sets 59 = .ok (.return_, 1) := by decide +kernel
set_option maxRecDepth 20000 in
theorem ggX8_allCosts_X8_costOf : GoodIn wsX8_allCosts wsX8_costOf := goodIn_r _ [6, 7, 8, 9, 5, 10, 11, 12, 13, 14, 15, 16, 17, 18, 19, 20, 21, 22, 23, 1, 24, 25, 26, 27, 28, 29, 30, 31, 32, 33, 34, 35, 36, 37, 38, 39, 40, 41, 42, 43, 44, 45, 46, 47, 48, 49, 50, 51, 52, 53, 54, 55, 56, 57, 58, 59, 60, 61, 62, 63, 64, 65, 66, 67, 68, 69, 70, 71, 72, 73, 74] (by decide +kernel) (by decide +kernel)
set_option maxRecDepth 20000 in
theorem gX8_allCosts_X8_costOf : GoodIn wsX8_allCosts (wsV RX8 118 RX8 yX8_costOf wsX8_costOf) := goodIn_app (goodIn_of _ (by decide +kernel)) ggX8_allCosts_X8_costOf
theorem dX8_allCosts_0 : decode cX8_allCosts 0 = .ok (.iconst 0, 1) := by decide +kernel
theorem dX8_allCosts_1 : decode cX8_allCosts 1 = .ok (.istore_n 1, 1) := by decide +kernel
theorem dX8_allCosts_2 : decode cX8_allCosts 2 = .ok (.iconst 0, 1) := by decide +kernel
theorem dX8_allCosts_3 : decode cX8_allCosts 3 = .ok (.istore_n 2, 1) := by decide +kernel
theorem dX8_allCosts_4 : decode cX8_allCosts 4 = .ok (.iload_n 2, 1) := by decide +kernel
theorem dX8_allCosts_5 : decode cX8_allCosts 5 = .ok (.aload_n 0, 1) := by decide +kernel
theorem dX8_allCosts_6 : decode cX8_allCosts 6 = .ok (.getfield 7, 3) := by decide +kernel
theorem dX8_allCosts_9 : decode cX8_allCosts 9 = .ok (.iconst 0, 1) := by decide +kernel
theorem dX8_allCosts_10 : decode cX8_allCosts 10 = .ok (.iaload, 1) := by decide +kernel
theorem dX8_allCosts_11 : decode cX8_allCosts 11 = .ok (.if_icmp .ge 26, 3) := by decide +kernel
theorem dX8_allCosts_14 : decode cX8_allCosts 14 = .ok (.aload_n 0, 1) := by decide +kernel
theorem dX8_allCosts_15 : decode cX8_allCosts 15 = .ok (.iload_n 2, 1) := by decide +kernel
theorem dX8_allCosts_16 : decode cX8_allCosts 16 = .ok (.invokevirtual 118, 3) := by decide +kernel
theorem dX8_allCosts_19 : decode cX8_allCosts 19 = .ok (.istore_n 3, 1) := by decide +kernel
theorem dX8_allCosts_20 : decode cX8_allCosts 20 = .ok (.iload_n 3, 1) := by decide +kernel
theorem dX8_allCosts_21 : decode cX8_allCosts 21 = .ok (.ifCond .ge 6, 3) := by decide +kernel
theorem dX8_allCosts_24 : decode cX8_allCosts 24 = .ok (.bipush (-4), 2) := by decide +kernel
theorem dX8_allCosts_26 : decode cX8_allCosts 26 = .ok (.ireturn, 1) := by decide +kernel
theorem dX8_allCosts_27 : decode cX8_allCosts 27 = .ok (.iload_n 1, 1) := by decide +kernel
theorem dX8_allCosts_28 : decode cX8_allCosts 28 = .ok (.iload_n 3, 1) := by decide +kernel
theorem dX8_allCosts_29 : decode cX8_allCosts 29 = .ok (.iadd, 1) := by decide +kernel
theorem dX8_allCosts_30 : decode cX8_allCosts 30 = .ok (.istore_n 1, 1) := by decide +kernel
theorem dX8_allCosts_31 : decode cX8_allCosts 31 = .ok (.iinc 2 1, 3) := by decide +kernel
theorem dX8_allCosts_34 : decode cX8_allCosts 34 = .ok (.goto (-30), 3) := by decide +kernel
theorem dX8_allCosts_37 : decode cX8_allCosts 37 = .ok (.iload_n 1, 1) := by decide +kernel
theorem dX8_allCosts_38 : decode cX8_allCosts 38 = .ok (.ireturn, 1) := by decide +kernel
set_option maxRecDepth 20000 in
theorem ggX8_rowsFrom_X8_begins : GoodIn wsX8_rowsFrom wsX8_begins := goodIn_r _ [6, 7, 8, 9, 5, 10, 11, 12, 13, 14, 15, 16, 17, 18, 19, 20, 21, 22, 23, 24, 25, 26, 27, 28, 29, 30, 31, 32, 33, 34] (by decide +kernel) (by decide +kernel)
set_option maxRecDepth 20000 in
theorem gX8_rowsFrom_X8_begins : GoodIn wsX8_rowsFrom (wsV RX8 71 RX8 yX8_begins wsX8_begins) := goodIn_app (goodIn_of _ (by decide +kernel)) ggX8_rowsFrom_X8_begins
theorem dX8_rowsFrom_0 : decode cX8_rowsFrom 0 = .ok (.iconst 0, 1) := by decide +kernel
theorem dX8_rowsFrom_1 : decode cX8_rowsFrom 1 = .ok (.istore_n 3, 1) := by decide +kernel
theorem dX8_rowsFrom_2 : decode cX8_rowsFrom 2 = .ok (.iload_n 1, 1) := by decide +kernel
theorem dX8_rowsFrom_3 : decode cX8_rowsFrom 3 = .ok (.istore 4, 2) := by decide +kernel
theorem dX8_rowsFrom_5 : decode cX8_rowsFrom 5 = .ok (.iload 4, 2) := by decide +kernel
theorem dX8_rowsFrom_7 : decode cX8_rowsFrom 7 = .ok (.iload_n 2, 1) := by decide +kernel
theorem dX8_rowsFrom_8 : decode cX8_rowsFrom 8 = .ok (.if_icmp .ge 40, 3) := by decide +kernel
theorem dX8_rowsFrom_11 : decode cX8_rowsFrom 11 = .ok (.iload_n 3, 1) := by decide +kernel
theorem dX8_rowsFrom_12 : decode cX8_rowsFrom 12 = .ok (.aload_n 0, 1) := by decide +kernel
theorem dX8_rowsFrom_13 : decode cX8_rowsFrom 13 = .ok (.getfield 42, 3) := by decide +kernel
theorem dX8_rowsFrom_16 : decode cX8_rowsFrom 16 = .ok (.iload 4, 2) := by decide +kernel
theorem dX8_rowsFrom_18 : decode cX8_rowsFrom 18 = .ok (.iaload, 1) := by decide +kernel
theorem dX8_rowsFrom_19 : decode cX8_rowsFrom 19 = .ok (.iload 4, 2) := by decide +kernel
theorem dX8_rowsFrom_21 : decode cX8_rowsFrom 21 = .ok (.iload_n 1, 1) := by decide +kernel
theorem dX8_rowsFrom_22 : decode cX8_rowsFrom 22 = .ok (.if_icmp .le 16, 3) := by decide +kernel
theorem dX8_rowsFrom_25 : decode cX8_rowsFrom 25 = .ok (.aload_n 0, 1) := by decide +kernel
theorem dX8_rowsFrom_26 : decode cX8_rowsFrom 26 = .ok (.iload 4, 2) := by decide +kernel
theorem dX8_rowsFrom_28 : decode cX8_rowsFrom 28 = .ok (.invokevirtual 71, 3) := by decide +kernel
theorem dX8_rowsFrom_31 : decode cX8_rowsFrom 31 = .ok (.ifCond .eq 7, 3) := by decide +kernel
theorem dX8_rowsFrom_34 : decode cX8_rowsFrom 34 = .ok (.iconst 1, 1) := by decide +kernel
theorem dX8_rowsFrom_35 : decode cX8_rowsFrom 35 = .ok (.goto 4, 3) := by decide +kernel
theorem dX8_rowsFrom_38 : decode cX8_rowsFrom 38 = .ok (.iconst 0, 1) := by decide +kernel
theorem dX8_rowsFrom_39 : decode cX8_rowsFrom 39 = .ok (.iadd, 1) := by decide +kernel
theorem dX8_rowsFrom_40 : decode cX8_rowsFrom 40 = .ok (.iadd, 1) := by decide +kernel
theorem dX8_rowsFrom_41 : decode cX8_rowsFrom 41 = .ok (.istore_n 3, 1) := by decide +kernel
theorem dX8_rowsFrom_42 : decode cX8_rowsFrom 42 = .ok (.iinc 4 1, 3) := by decide +kernel
theorem dX8_rowsFrom_45 : decode cX8_rowsFrom 45 = .ok (.goto (-40), 3) := by decide +kernel
theorem dX8_rowsFrom_48 : decode cX8_rowsFrom 48 = .ok (.iload_n 3, 1) := by decide +kernel
theorem dX8_rowsFrom_49 : decode cX8_rowsFrom 49 = .ok (.ireturn, 1) := by decide +kernel
set_option maxRecDepth 20000 in
theorem ggX8_ends_X8_rowsFrom : GoodIn wsX8_ends wsX8_rowsFrom := goodIn_r _ [6, 7, 8, 9, 10, 5, 11, 12, 13, 14, 15, 1, 24, 25, 26, 27, 28, 29, 30, 31, 32, 33, 34, 35, 36, 37, 38, 39, 40, 41, 42, 43, 44, 45, 46] (by decide +kernel) (by decide +kernel)
set_option maxRecDepth 20000 in
theorem gX8_ends_X8_rowsFrom : GoodIn wsX8_ends (wsV RX8 121 RX8 yX8_rowsFrom wsX8_rowsFrom) := goodIn_app (goodIn_of _ (by decide +kernel)) ggX8_ends_X8_rowsFrom
set_option maxRecDepth 20000 in
theorem ggX8_ends_X8_begins : GoodIn wsX8_ends wsX8_begins := goodIn_r _ [11, 12, 13, 14, 5, 15, 1, 24, 25, 26, 27, 28, 29, 30, 31, 32, 33, 34, 35, 36, 37, 38, 39, 40, 41, 42, 43, 44, 45, 46] (by decide +kernel) (by decide +kernel)
set_option maxRecDepth 20000 in
theorem gX8_ends_X8_begins : GoodIn wsX8_ends (wsV RX8 71 RX8 yX8_begins wsX8_begins) := goodIn_app (goodIn_of _ (by decide +kernel)) ggX8_ends_X8_begins
set_option maxRecDepth 20000 in
theorem ggX8_ends_X8_startOf : GoodIn wsX8_ends wsX8_startOf := goodIn_r _ [19, 8, 9, 10, 5, 11, 12, 13, 14, 15, 1, 24, 25, 26, 27, 28, 29, 30, 31, 32, 33, 34, 35, 36, 37, 38, 39, 40, 41, 42, 43, 44, 45, 46] (by decide +kernel) (by decide +kernel)
set_option maxRecDepth 20000 in
theorem gX8_ends_X8_startOf : GoodIn wsX8_ends (wsV RX8 79 RX8 yX8_startOf wsX8_startOf) := goodIn_app (goodIn_of _ (by decide +kernel)) ggX8_ends_X8_startOf
set_option maxRecDepth 20000 in
theorem ggX8_ends_X8_endOf : GoodIn wsX8_ends wsX8_endOf := goodIn_r _ [23, 1, 8, 9, 10, 5, 11, 12, 13, 14, 15, 24, 25, 26, 27, 28, 29, 30, 31, 32, 33, 34, 35, 36, 37, 38, 39, 40, 41, 42, 43, 44, 45, 46] (by decide +kernel) (by decide +kernel)
set_option maxRecDepth 20000 in
theorem gX8_ends_X8_endOf : GoodIn wsX8_ends (wsV RX8 124 RX8 yX8_endOf wsX8_endOf) := goodIn_app (goodIn_of _ (by decide +kernel)) ggX8_ends_X8_endOf
theorem dX8_ends_0 : decode cX8_ends 0 = .ok (.aload_n 0, 1) := by decide +kernel
theorem dX8_ends_1 : decode cX8_ends 1 = .ok (.iload_n 1, 1) := by decide +kernel
theorem dX8_ends_2 : decode cX8_ends 2 = .ok (.iload_n 2, 1) := by decide +kernel
theorem dX8_ends_3 : decode cX8_ends 3 = .ok (.invokevirtual 121, 3) := by decide +kernel
theorem dX8_ends_6 : decode cX8_ends 6 = .ok (.aload_n 0, 1) := by decide +kernel
theorem dX8_ends_7 : decode cX8_ends 7 = .ok (.getfield 7, 3) := by decide +kernel
theorem dX8_ends_10 : decode cX8_ends 10 = .ok (.iconst 5, 1) := by decide +kernel
theorem dX8_ends_11 : decode cX8_ends 11 = .ok (.iaload, 1) := by decide +kernel
theorem dX8_ends_12 : decode cX8_ends 12 = .ok (.if_icmp .le 6, 3) := by decide +kernel
theorem dX8_ends_15 : decode cX8_ends 15 = .ok (.bipush (-4), 2) := by decide +kernel
theorem dX8_ends_17 : decode cX8_ends 17 = .ok (.ireturn, 1) := by decide +kernel
theorem dX8_ends_18 : decode cX8_ends 18 = .ok (.iload_n 2, 1) := by decide +kernel
theorem dX8_ends_19 : decode cX8_ends 19 = .ok (.aload_n 0, 1) := by decide +kernel
theorem dX8_ends_20 : decode cX8_ends 20 = .ok (.getfield 7, 3) := by decide +kernel
theorem dX8_ends_23 : decode cX8_ends 23 = .ok (.iconst 0, 1) := by decide +kernel
theorem dX8_ends_24 : decode cX8_ends 24 = .ok (.iaload, 1) := by decide +kernel
theorem dX8_ends_25 : decode cX8_ends 25 = .ok (.if_icmp .eq 11, 3) := by decide +kernel
theorem dX8_ends_28 : decode cX8_ends 28 = .ok (.aload_n 0, 1) := by decide +kernel
theorem dX8_ends_29 : decode cX8_ends 29 = .ok (.iload_n 2, 1) := by decide +kernel
theorem dX8_ends_30 : decode cX8_ends 30 = .ok (.invokevirtual 71, 3) := by decide +kernel
theorem dX8_ends_33 : decode cX8_ends 33 = .ok (.ifCond .eq 5, 3) := by decide +kernel
theorem dX8_ends_36 : decode cX8_ends 36 = .ok (.iconst 0, 1) := by decide +kernel
theorem dX8_ends_37 : decode cX8_ends 37 = .ok (.ireturn, 1) := by decide +kernel
theorem dX8_ends_38 : decode cX8_ends 38 = .ok (.aload_n 0, 1) := by decide +kernel
theorem dX8_ends_39 : decode cX8_ends 39 = .ok (.iload_n 2, 1) := by decide +kernel
theorem dX8_ends_40 : decode cX8_ends 40 = .ok (.invokevirtual 79, 3) := by decide +kernel
theorem dX8_ends_43 : decode cX8_ends 43 = .ok (.iload_n 1, 1) := by decide +kernel
theorem dX8_ends_44 : decode cX8_ends 44 = .ok (.if_icmp .le 11, 3) := by decide +kernel
theorem dX8_ends_47 : decode cX8_ends 47 = .ok (.aload_n 0, 1) := by decide +kernel
theorem dX8_ends_48 : decode cX8_ends 48 = .ok (.iload_n 2, 1) := by decide +kernel
theorem dX8_ends_49 : decode cX8_ends 49 = .ok (.invokevirtual 79, 3) := by decide +kernel
theorem dX8_ends_52 : decode cX8_ends 52 = .ok (.goto 4, 3) := by decide +kernel
theorem dX8_ends_55 : decode cX8_ends 55 = .ok (.iload_n 1, 1) := by decide +kernel
theorem dX8_ends_56 : decode cX8_ends 56 = .ok (.istore_n 3, 1) := by decide +kernel
theorem dX8_ends_57 : decode cX8_ends 57 = .ok (.iload_n 2, 1) := by decide +kernel
theorem dX8_ends_58 : decode cX8_ends 58 = .ok (.iload_n 3, 1) := by decide +kernel
theorem dX8_ends_59 : decode cX8_ends 59 = .ok (.isub, 1) := by decide +kernel
theorem dX8_ends_60 : decode cX8_ends 60 = .ok (.aload_n 0, 1) := by decide +kernel
theorem dX8_ends_61 : decode cX8_ends 61 = .ok (.getfield 7, 3) := by decide +kernel
theorem dX8_ends_64 : decode cX8_ends 64 = .ok (.bipush 6, 2) := by decide +kernel
theorem dX8_ends_66 : decode cX8_ends 66 = .ok (.iaload, 1) := by decide +kernel
theorem dX8_ends_67 : decode cX8_ends 67 = .ok (.if_icmp .lt 24, 3) := by decide +kernel
theorem dX8_ends_70 : decode cX8_ends 70 = .ok (.aload_n 0, 1) := by decide +kernel
theorem dX8_ends_71 : decode cX8_ends 71 = .ok (.iload_n 2, 1) := by decide +kernel
theorem dX8_ends_72 : decode cX8_ends 72 = .ok (.invokevirtual 124, 3) := by decide +kernel
theorem dX8_ends_75 : decode cX8_ends 75 = .ok (.iload_n 2, 1) := by decide +kernel
theorem dX8_ends_76 : decode cX8_ends 76 = .ok (.isub, 1) := by decide +kernel
theorem dX8_ends_77 : decode cX8_ends 77 = .ok (.aload_n 0, 1) := by decide +kernel
theorem dX8_ends_78 : decode cX8_ends 78 = .ok (.getfield 7, 3) := by decide +kernel
theorem dX8_ends_81 : decode cX8_ends 81 = .ok (.bipush 6, 2) := by decide +kernel
theorem dX8_ends_83 : decode cX8_ends 83 = .ok (.iaload, 1) := by decide +kernel
theorem dX8_ends_84 : decode cX8_ends 84 = .ok (.if_icmp .lt 7, 3) := by decide +kernel
theorem dX8_ends_87 : decode cX8_ends 87 = .ok (.iconst 1, 1) := by decide +kernel
theorem dX8_ends_88 : decode cX8_ends 88 = .ok (.goto 5, 3) := by decide +kernel
theorem dX8_ends_91 : decode cX8_ends 91 = .ok (.bipush (-4), 2) := by decide +kernel
theorem dX8_ends_93 : decode cX8_ends 93 = .ok (.ireturn, 1) := by decide +kernel
set_option maxRecDepth 20000 in
theorem ggX8_lays_X8_sets : GoodIn wsX8_lays wsX8_sets := goodIn_r _ [12, 5, 1, 13, 14, 15, 16, 11, 17, 18, 19, 20, 21, 4, 22, 23, 24, 25, 26, 27, 28, 29, 30, 31, 32, 33, 34, 35, 36, 37, 38, 39, 40, 41, 42, 43, 44, 45, 46, 47, 48, 49, 50, 51, 52, 53, 54, 55, 56, 57, 58, 59, 60, 61, 62, 63, 64, 77, 78, 79, 80, 81, 82, 83, 84, 85, 86, 87, 88, 89, 90, 91, 92, 93, 94, 95, 96, 97, 98, 99] (by decide +kernel) (by decide +kernel)
set_option maxRecDepth 20000 in
theorem gX8_lays_X8_sets : GoodIn wsX8_lays (wsV RX8 127 RX8 yX8_sets wsX8_sets) := goodIn_app (goodIn_of _ (by decide +kernel)) ggX8_lays_X8_sets
set_option maxRecDepth 20000 in
theorem ggX8_lays_X8_ends : GoodIn wsX8_lays wsX8_ends := goodIn_r _ [68, 1, 69, 70, 71, 11, 72, 13, 50, 51, 52, 53, 30, 31, 32, 33, 46, 47, 48, 49, 73, 74, 75, 76, 77, 78, 79, 80, 81, 82, 83, 84, 85, 86, 87, 88, 89, 90, 91, 92, 93, 94, 95, 96, 97, 98, 99] (by decide +kernel) (by decide +kernel)
set_option maxRecDepth 20000 in
theorem gX8_lays_X8_ends : GoodIn wsX8_lays (wsV RX8 130 RX8 yX8_ends wsX8_ends) := goodIn_app (goodIn_of _ (by decide +kernel)) ggX8_lays_X8_ends
theorem dX8_lays_0 : decode cX8_lays 0 = .ok (.aload_n 0, 1) := by decide +kernel
theorem dX8_lays_1 : decode cX8_lays 1 = .ok (.invokevirtual 127, 3) := by decide +kernel
theorem dX8_lays_4 : decode cX8_lays 4 = .ok (.aload_n 0, 1) := by decide +kernel
theorem dX8_lays_5 : decode cX8_lays 5 = .ok (.getfield 7, 3) := by decide +kernel
theorem dX8_lays_8 : decode cX8_lays 8 = .ok (.iconst 0, 1) := by decide +kernel
theorem dX8_lays_9 : decode cX8_lays 9 = .ok (.iaload, 1) := by decide +kernel
theorem dX8_lays_10 : decode cX8_lays 10 = .ok (.istore_n 1, 1) := by decide +kernel
theorem dX8_lays_11 : decode cX8_lays 11 = .ok (.aload_n 0, 1) := by decide +kernel
theorem dX8_lays_12 : decode cX8_lays 12 = .ok (.getfield 45, 3) := by decide +kernel
theorem dX8_lays_15 : decode cX8_lays 15 = .ok (.iload_n 1, 1) := by decide +kernel
theorem dX8_lays_16 : decode cX8_lays 16 = .ok (.iconst 0, 1) := by decide +kernel
theorem dX8_lays_17 : decode cX8_lays 17 = .ok (.iastore, 1) := by decide +kernel
theorem dX8_lays_18 : decode cX8_lays 18 = .ok (.aload_n 0, 1) := by decide +kernel
theorem dX8_lays_19 : decode cX8_lays 19 = .ok (.getfield 48, 3) := by decide +kernel
theorem dX8_lays_22 : decode cX8_lays 22 = .ok (.iload_n 1, 1) := by decide +kernel
theorem dX8_lays_23 : decode cX8_lays 23 = .ok (.iconst 0, 1) := by decide +kernel
theorem dX8_lays_24 : decode cX8_lays 24 = .ok (.iastore, 1) := by decide +kernel
theorem dX8_lays_25 : decode cX8_lays 25 = .ok (.iload_n 1, 1) := by decide +kernel
theorem dX8_lays_26 : decode cX8_lays 26 = .ok (.iconst 1, 1) := by decide +kernel
theorem dX8_lays_27 : decode cX8_lays 27 = .ok (.isub, 1) := by decide +kernel
theorem dX8_lays_28 : decode cX8_lays 28 = .ok (.istore_n 2, 1) := by decide +kernel
theorem dX8_lays_29 : decode cX8_lays 29 = .ok (.iload_n 2, 1) := by decide +kernel
theorem dX8_lays_30 : decode cX8_lays 30 = .ok (.ifCond .lt 157, 3) := by decide +kernel
theorem dX8_lays_33 : decode cX8_lays 33 = .ok (.aload_n 0, 1) := by decide +kernel
theorem dX8_lays_34 : decode cX8_lays 34 = .ok (.getfield 45, 3) := by decide +kernel
theorem dX8_lays_37 : decode cX8_lays 37 = .ok (.iload_n 2, 1) := by decide +kernel
theorem dX8_lays_38 : decode cX8_lays 38 = .ok (.ldc 104, 2) := by decide +kernel
theorem dX8_lays_40 : decode cX8_lays 40 = .ok (.iastore, 1) := by decide +kernel
theorem dX8_lays_41 : decode cX8_lays 41 = .ok (.aload_n 0, 1) := by decide +kernel
theorem dX8_lays_42 : decode cX8_lays 42 = .ok (.getfield 48, 3) := by decide +kernel
theorem dX8_lays_45 : decode cX8_lays 45 = .ok (.iload_n 2, 1) := by decide +kernel
theorem dX8_lays_46 : decode cX8_lays 46 = .ok (.iconst 0, 1) := by decide +kernel
theorem dX8_lays_47 : decode cX8_lays 47 = .ok (.iastore, 1) := by decide +kernel
theorem dX8_lays_48 : decode cX8_lays 48 = .ok (.iload_n 2, 1) := by decide +kernel
theorem dX8_lays_49 : decode cX8_lays 49 = .ok (.iconst 1, 1) := by decide +kernel
theorem dX8_lays_50 : decode cX8_lays 50 = .ok (.iadd, 1) := by decide +kernel
theorem dX8_lays_51 : decode cX8_lays 51 = .ok (.istore_n 3, 1) := by decide +kernel
theorem dX8_lays_52 : decode cX8_lays 52 = .ok (.iload_n 3, 1) := by decide +kernel
theorem dX8_lays_53 : decode cX8_lays 53 = .ok (.iload_n 1, 1) := by decide +kernel
theorem dX8_lays_54 : decode cX8_lays 54 = .ok (.if_icmp .gt 127, 3) := by decide +kernel
theorem dX8_lays_57 : decode cX8_lays 57 = .ok (.aload_n 0, 1) := by decide +kernel
theorem dX8_lays_58 : decode cX8_lays 58 = .ok (.getfield 111, 3) := by decide +kernel
theorem dX8_lays_61 : decode cX8_lays 61 = .ok (.ifCond .eq 120, 3) := by decide +kernel
theorem dX8_lays_64 : decode cX8_lays 64 = .ok (.aload_n 0, 1) := by decide +kernel
theorem dX8_lays_65 : decode cX8_lays 65 = .ok (.iload_n 2, 1) := by decide +kernel
theorem dX8_lays_66 : decode cX8_lays 66 = .ok (.iload_n 3, 1) := by decide +kernel
theorem dX8_lays_67 : decode cX8_lays 67 = .ok (.invokevirtual 130, 3) := by decide +kernel
theorem dX8_lays_70 : decode cX8_lays 70 = .ok (.istore 4, 2) := by decide +kernel
theorem dX8_lays_72 : decode cX8_lays 72 = .ok (.iload 4, 2) := by decide +kernel
theorem dX8_lays_74 : decode cX8_lays 74 = .ok (.aload_n 0, 1) := by decide +kernel
theorem dX8_lays_75 : decode cX8_lays 75 = .ok (.getfield 45, 3) := by decide +kernel
theorem dX8_lays_78 : decode cX8_lays 78 = .ok (.iload_n 3, 1) := by decide +kernel
theorem dX8_lays_79 : decode cX8_lays 79 = .ok (.iaload, 1) := by decide +kernel
theorem dX8_lays_80 : decode cX8_lays 80 = .ok (.iadd, 1) := by decide +kernel
theorem dX8_lays_81 : decode cX8_lays 81 = .ok (.istore 5, 2) := by decide +kernel
theorem dX8_lays_83 : decode cX8_lays 83 = .ok (.iload 5, 2) := by decide +kernel
theorem dX8_lays_85 : decode cX8_lays 85 = .ok (.aload_n 0, 1) := by decide +kernel
theorem dX8_lays_86 : decode cX8_lays 86 = .ok (.getfield 45, 3) := by decide +kernel
theorem dX8_lays_89 : decode cX8_lays 89 = .ok (.iload_n 2, 1) := by decide +kernel
theorem dX8_lays_90 : decode cX8_lays 90 = .ok (.iaload, 1) := by decide +kernel
theorem dX8_lays_91 : decode cX8_lays 91 = .ok (.if_icmp .lt 31, 3) := by decide +kernel
theorem dX8_lays_94 : decode cX8_lays 94 = .ok (.iload 5, 2) := by decide +kernel
theorem dX8_lays_96 : decode cX8_lays 96 = .ok (.aload_n 0, 1) := by decide +kernel
theorem dX8_lays_97 : decode cX8_lays 97 = .ok (.getfield 45, 3) := by decide +kernel
theorem dX8_lays_100 : decode cX8_lays 100 = .ok (.iload_n 2, 1) := by decide +kernel
theorem dX8_lays_101 : decode cX8_lays 101 = .ok (.iaload, 1) := by decide +kernel
theorem dX8_lays_102 : decode cX8_lays 102 = .ok (.if_icmp .ne 24, 3) := by decide +kernel
theorem dX8_lays_105 : decode cX8_lays 105 = .ok (.aload_n 0, 1) := by decide +kernel
theorem dX8_lays_106 : decode cX8_lays 106 = .ok (.getfield 48, 3) := by decide +kernel
theorem dX8_lays_109 : decode cX8_lays 109 = .ok (.iload_n 3, 1) := by decide +kernel
theorem dX8_lays_110 : decode cX8_lays 110 = .ok (.iaload, 1) := by decide +kernel
theorem dX8_lays_111 : decode cX8_lays 111 = .ok (.iconst 1, 1) := by decide +kernel
theorem dX8_lays_112 : decode cX8_lays 112 = .ok (.iadd, 1) := by decide +kernel
theorem dX8_lays_113 : decode cX8_lays 113 = .ok (.aload_n 0, 1) := by decide +kernel
theorem dX8_lays_114 : decode cX8_lays 114 = .ok (.getfield 48, 3) := by decide +kernel
theorem dX8_lays_117 : decode cX8_lays 117 = .ok (.iload_n 2, 1) := by decide +kernel
theorem dX8_lays_118 : decode cX8_lays 118 = .ok (.iaload, 1) := by decide +kernel
theorem dX8_lays_119 : decode cX8_lays 119 = .ok (.if_icmp .gt 7, 3) := by decide +kernel
theorem dX8_lays_122 : decode cX8_lays 122 = .ok (.iconst 1, 1) := by decide +kernel
theorem dX8_lays_123 : decode cX8_lays 123 = .ok (.goto 4, 3) := by decide +kernel
theorem dX8_lays_126 : decode cX8_lays 126 = .ok (.iconst 0, 1) := by decide +kernel
theorem dX8_lays_127 : decode cX8_lays 127 = .ok (.istore 6, 2) := by decide +kernel
theorem dX8_lays_129 : decode cX8_lays 129 = .ok (.iload 4, 2) := by decide +kernel
theorem dX8_lays_131 : decode cX8_lays 131 = .ok (.ifCond .lt 44, 3) := by decide +kernel
theorem dX8_lays_134 : decode cX8_lays 134 = .ok (.iload 5, 2) := by decide +kernel
theorem dX8_lays_136 : decode cX8_lays 136 = .ok (.ldc 104, 2) := by decide +kernel
theorem dX8_lays_138 : decode cX8_lays 138 = .ok (.if_icmp .ge 37, 3) := by decide +kernel
theorem dX8_lays_141 : decode cX8_lays 141 = .ok (.iload 6, 2) := by decide +kernel
theorem dX8_lays_143 : decode cX8_lays 143 = .ok (.ifCond .eq 32, 3) := by decide +kernel
theorem dX8_lays_146 : decode cX8_lays 146 = .ok (.aload_n 0, 1) := by decide +kernel
theorem dX8_lays_147 : decode cX8_lays 147 = .ok (.getfield 45, 3) := by decide +kernel
theorem dX8_lays_150 : decode cX8_lays 150 = .ok (.iload_n 2, 1) := by decide +kernel
theorem dX8_lays_151 : decode cX8_lays 151 = .ok (.iload 5, 2) := by decide +kernel
theorem dX8_lays_153 : decode cX8_lays 153 = .ok (.iastore, 1) := by decide +kernel
theorem dX8_lays_154 : decode cX8_lays 154 = .ok (.aload_n 0, 1) := by decide +kernel
theorem dX8_lays_155 : decode cX8_lays 155 = .ok (.getfield 48, 3) := by decide +kernel
theorem dX8_lays_158 : decode cX8_lays 158 = .ok (.iload_n 2, 1) := by decide +kernel
theorem dX8_lays_159 : decode cX8_lays 159 = .ok (.aload_n 0, 1) := by decide +kernel
theorem dX8_lays_160 : decode cX8_lays 160 = .ok (.getfield 48, 3) := by decide +kernel
theorem dX8_lays_163 : decode cX8_lays 163 = .ok (.iload_n 3, 1) := by decide +kernel
theorem dX8_lays_164 : decode cX8_lays 164 = .ok (.iaload, 1) := by decide +kernel
theorem dX8_lays_165 : decode cX8_lays 165 = .ok (.iconst 1, 1) := by decide +kernel
theorem dX8_lays_166 : decode cX8_lays 166 = .ok (.iadd, 1) := by decide +kernel
theorem dX8_lays_167 : decode cX8_lays 167 = .ok (.iastore, 1) := by decide +kernel
theorem dX8_lays_168 : decode cX8_lays 168 = .ok (.aload_n 0, 1) := by decide +kernel
theorem dX8_lays_169 : decode cX8_lays 169 = .ok (.getfield 51, 3) := by decide +kernel
theorem dX8_lays_172 : decode cX8_lays 172 = .ok (.iload_n 2, 1) := by decide +kernel
theorem dX8_lays_173 : decode cX8_lays 173 = .ok (.iload_n 3, 1) := by decide +kernel
theorem dX8_lays_174 : decode cX8_lays 174 = .ok (.iastore, 1) := by decide +kernel
theorem dX8_lays_175 : decode cX8_lays 175 = .ok (.iinc 3 1, 3) := by decide +kernel
theorem dX8_lays_178 : decode cX8_lays 178 = .ok (.goto (-126), 3) := by decide +kernel
theorem dX8_lays_181 : decode cX8_lays 181 = .ok (.iinc 2 (-1), 3) := by decide +kernel
theorem dX8_lays_184 : decode cX8_lays 184 = .ok (.goto (-155), 3) := by decide +kernel
theorem dX8_lays_187 : decode cX8_lays 187 = .ok (.aload_n 0, 1) := by decide +kernel
theorem dX8_lays_188 : decode cX8_lays 188 = .ok (.aload_n 0, 1) := by decide +kernel
theorem dX8_lays_189 : decode cX8_lays 189 = .ok (.getfield 111, 3) := by decide +kernel
theorem dX8_lays_192 : decode cX8_lays 192 = .ok (.ifCond .eq 18, 3) := by decide +kernel
theorem dX8_lays_195 : decode cX8_lays 195 = .ok (.aload_n 0, 1) := by decide +kernel
theorem dX8_lays_196 : decode cX8_lays 196 = .ok (.getfield 45, 3) := by decide +kernel
theorem dX8_lays_199 : decode cX8_lays 199 = .ok (.iconst 0, 1) := by decide +kernel
theorem dX8_lays_200 : decode cX8_lays 200 = .ok (.iaload, 1) := by decide +kernel
theorem dX8_lays_201 : decode cX8_lays 201 = .ok (.ldc 104, 2) := by decide +kernel
theorem dX8_lays_203 : decode cX8_lays 203 = .ok (.if_icmp .ge 7, 3) := by decide +kernel
theorem dX8_lays_206 : decode cX8_lays 206 = .ok (.iconst 1, 1) := by decide +kernel
theorem dX8_lays_207 : decode cX8_lays 207 = .ok (.goto 4, 3) := by decide +kernel
theorem dX8_lays_210 : decode cX8_lays 210 = .ok (.iconst 0, 1) := by decide +kernel
theorem dX8_lays_211 : decode cX8_lays 211 = .ok (.putfield 133, 3) := by decide +kernel
theorem dX8_lays_214 : decode cX8_lays 214 = .ok (.return_, 1) := by decide +kernel
theorem dX8_firstOf_0 : decode cX8_firstOf 0 = .ok (.iconst 0, 1) := by decide +kernel
theorem dX8_firstOf_1 : decode cX8_firstOf 1 = .ok (.istore_n 2, 1) := by decide +kernel
theorem dX8_firstOf_2 : decode cX8_firstOf 2 = .ok (.iconst 0, 1) := by decide +kernel
theorem dX8_firstOf_3 : decode cX8_firstOf 3 = .ok (.istore_n 3, 1) := by decide +kernel
theorem dX8_firstOf_4 : decode cX8_firstOf 4 = .ok (.iload_n 3, 1) := by decide +kernel
theorem dX8_firstOf_5 : decode cX8_firstOf 5 = .ok (.iload_n 1, 1) := by decide +kernel
theorem dX8_firstOf_6 : decode cX8_firstOf 6 = .ok (.if_icmp .ge 16, 3) := by decide +kernel
theorem dX8_firstOf_9 : decode cX8_firstOf 9 = .ok (.aload_n 0, 1) := by decide +kernel
theorem dX8_firstOf_10 : decode cX8_firstOf 10 = .ok (.getfield 51, 3) := by decide +kernel
theorem dX8_firstOf_13 : decode cX8_firstOf 13 = .ok (.iload_n 2, 1) := by decide +kernel
theorem dX8_firstOf_14 : decode cX8_firstOf 14 = .ok (.iaload, 1) := by decide +kernel
theorem dX8_firstOf_15 : decode cX8_firstOf 15 = .ok (.istore_n 2, 1) := by decide +kernel
theorem dX8_firstOf_16 : decode cX8_firstOf 16 = .ok (.iinc 3 1, 3) := by decide +kernel
theorem dX8_firstOf_19 : decode cX8_firstOf 19 = .ok (.goto (-15), 3) := by decide +kernel
theorem dX8_firstOf_22 : decode cX8_firstOf 22 = .ok (.iload_n 2, 1) := by decide +kernel
theorem dX8_firstOf_23 : decode cX8_firstOf 23 = .ok (.ireturn, 1) := by decide +kernel
set_option maxRecDepth 20000 in
theorem ggX8_pageOf_X8_lays : GoodIn wsX8_pageOf wsX8_lays := goodIn_r _ [7, 8, 9, 10, 11, 12, 2, 1, 13, 14, 15, 6, 16, 17, 18, 19, 20, 21, 22, 23, 24, 25, 26, 27, 28, 29, 30, 31, 32, 33, 34, 35, 36, 37, 38, 39, 40, 41, 42, 43, 44, 45, 46, 47, 48, 49, 50, 51, 52, 53, 54, 55, 56, 57, 58, 59, 60, 61, 62, 63, 64, 65, 66, 67, 68, 69, 70, 71, 72, 73, 74, 75, 76, 77, 78, 79, 80, 81, 82, 83, 84, 85, 86, 87, 88, 89, 90, 91, 92, 93, 94, 95, 96, 97, 98, 99, 100, 101, 102, 103] (by decide +kernel) (by decide +kernel)
set_option maxRecDepth 20000 in
theorem gX8_pageOf_X8_lays : GoodIn wsX8_pageOf (wsV RX8 136 RX8 yX8_lays wsX8_lays) := goodIn_app (goodIn_of _ (by decide +kernel)) ggX8_pageOf_X8_lays
theorem dX8_pageOf_0 : decode cX8_pageOf 0 = .ok (.aload_n 0, 1) := by decide +kernel
theorem dX8_pageOf_1 : decode cX8_pageOf 1 = .ok (.invokevirtual 136, 3) := by decide +kernel
theorem dX8_pageOf_4 : decode cX8_pageOf 4 = .ok (.aload_n 0, 1) := by decide +kernel
theorem dX8_pageOf_5 : decode cX8_pageOf 5 = .ok (.getfield 133, 3) := by decide +kernel
theorem dX8_pageOf_8 : decode cX8_pageOf 8 = .ok (.ifCond .ne 6, 3) := by decide +kernel
theorem dX8_pageOf_11 : decode cX8_pageOf 11 = .ok (.bipush (-4), 2) := by decide +kernel
theorem dX8_pageOf_13 : decode cX8_pageOf 13 = .ok (.ireturn, 1) := by decide +kernel
theorem dX8_pageOf_14 : decode cX8_pageOf 14 = .ok (.iconst 0, 1) := by decide +kernel
theorem dX8_pageOf_15 : decode cX8_pageOf 15 = .ok (.istore_n 2, 1) := by decide +kernel
theorem dX8_pageOf_16 : decode cX8_pageOf 16 = .ok (.aload_n 0, 1) := by decide +kernel
theorem dX8_pageOf_17 : decode cX8_pageOf 17 = .ok (.getfield 51, 3) := by decide +kernel
theorem dX8_pageOf_20 : decode cX8_pageOf 20 = .ok (.iconst 0, 1) := by decide +kernel
theorem dX8_pageOf_21 : decode cX8_pageOf 21 = .ok (.iaload, 1) := by decide +kernel
theorem dX8_pageOf_22 : decode cX8_pageOf 22 = .ok (.istore_n 3, 1) := by decide +kernel
theorem dX8_pageOf_23 : decode cX8_pageOf 23 = .ok (.iload_n 3, 1) := by decide +kernel
theorem dX8_pageOf_24 : decode cX8_pageOf 24 = .ok (.iload_n 1, 1) := by decide +kernel
theorem dX8_pageOf_25 : decode cX8_pageOf 25 = .ok (.if_icmp .gt 16, 3) := by decide +kernel
theorem dX8_pageOf_28 : decode cX8_pageOf 28 = .ok (.iinc 2 1, 3) := by decide +kernel
theorem dX8_pageOf_31 : decode cX8_pageOf 31 = .ok (.aload_n 0, 1) := by decide +kernel
theorem dX8_pageOf_32 : decode cX8_pageOf 32 = .ok (.getfield 51, 3) := by decide +kernel
theorem dX8_pageOf_35 : decode cX8_pageOf 35 = .ok (.iload_n 3, 1) := by decide +kernel
theorem dX8_pageOf_36 : decode cX8_pageOf 36 = .ok (.iaload, 1) := by decide +kernel
theorem dX8_pageOf_37 : decode cX8_pageOf 37 = .ok (.istore_n 3, 1) := by decide +kernel
theorem dX8_pageOf_38 : decode cX8_pageOf 38 = .ok (.goto (-15), 3) := by decide +kernel
theorem dX8_pageOf_41 : decode cX8_pageOf 41 = .ok (.iload_n 2, 1) := by decide +kernel
theorem dX8_pageOf_42 : decode cX8_pageOf 42 = .ok (.ireturn, 1) := by decide +kernel
set_option maxRecDepth 20000 in
theorem ggX8_page_X8_lays : GoodIn wsX8_page wsX8_lays := goodIn_r _ [9, 10, 11, 2, 12, 13, 4, 1, 14, 15, 16, 8, 17, 18, 19, 20, 21, 22, 23, 24, 25, 26, 27, 28, 29, 30, 31, 32, 33, 34, 35, 36, 37, 38, 39, 40, 41, 42, 43, 44, 45, 46, 47, 48, 49, 50, 51, 52, 53, 54, 55, 56, 57, 58, 59, 60, 61, 62, 63, 64, 65, 66, 67, 68, 69, 70, 71, 72, 73, 74, 75, 76, 77, 78, 79, 80, 81, 89, 90, 91, 92, 93, 94, 95, 96, 97, 98, 99, 100, 101, 102, 103, 104, 105, 106, 107, 108, 109, 110, 111] (by decide +kernel) (by decide +kernel)
set_option maxRecDepth 20000 in
theorem gX8_page_X8_lays : GoodIn wsX8_page (wsV RX8 136 RX8 yX8_lays wsX8_lays) := goodIn_app (goodIn_of _ (by decide +kernel)) ggX8_page_X8_lays
set_option maxRecDepth 20000 in
theorem ggX8_page_X8_in : GoodIn wsX8_page wsX8_in := goodIn_r _ [84] (by decide +kernel) (by decide +kernel)
set_option maxRecDepth 20000 in
theorem gX8_page_X8_in : GoodIn wsX8_page (va_wsS RX8 63 yX8_in wsX8_in) := goodIn_app (goodIn_of _ (by decide +kernel)) ggX8_page_X8_in
set_option maxRecDepth 20000 in
theorem ggX8_page_X8_firstOf : GoodIn wsX8_page wsX8_firstOf := goodIn_r _ [88, 4, 89, 90, 91, 92, 93, 94, 95, 96, 97, 98, 99, 100, 101, 102, 103, 104, 105, 106, 107, 108, 109, 110, 111] (by decide +kernel) (by decide +kernel)
set_option maxRecDepth 20000 in
theorem gX8_page_X8_firstOf : GoodIn wsX8_page (wsV RX8 141 RX8 yX8_firstOf wsX8_firstOf) := goodIn_app (goodIn_of _ (by decide +kernel)) ggX8_page_X8_firstOf
set_option maxRecDepth 20000 in
theorem ggX8_page_X8_rowsFrom : GoodIn wsX8_page wsX8_rowsFrom := goodIn_r _ [77, 18, 55, 56, 57, 8, 58, 35, 36, 37, 38, 10, 89, 90, 91, 92, 93, 94, 95, 96, 97, 98, 99, 100, 101, 102, 103, 104, 105, 106, 107, 108, 109, 110, 111] (by decide +kernel) (by decide +kernel)
set_option maxRecDepth 20000 in
theorem gX8_page_X8_rowsFrom : GoodIn wsX8_page (wsV RX8 121 RX8 yX8_rowsFrom wsX8_rowsFrom) := goodIn_app (goodIn_of _ (by decide +kernel)) ggX8_page_X8_rowsFrom
theorem dX8_page_0 : decode cX8_page 0 = .ok (.aload_n 0, 1) := by decide +kernel
theorem dX8_page_1 : decode cX8_page 1 = .ok (.invokevirtual 136, 3) := by decide +kernel
theorem dX8_page_4 : decode cX8_page 4 = .ok (.aload_n 0, 1) := by decide +kernel
theorem dX8_page_5 : decode cX8_page 5 = .ok (.getfield 133, 3) := by decide +kernel
theorem dX8_page_8 : decode cX8_page 8 = .ok (.ifCond .eq 33, 3) := by decide +kernel
theorem dX8_page_11 : decode cX8_page 11 = .ok (.iload_n 1, 1) := by decide +kernel
theorem dX8_page_12 : decode cX8_page 12 = .ok (.i2l, 1) := by decide +kernel
theorem dX8_page_13 : decode cX8_page 13 = .ok (.lconst 0, 1) := by decide +kernel
theorem dX8_page_14 : decode cX8_page 14 = .ok (.aload_n 0, 1) := by decide +kernel
theorem dX8_page_15 : decode cX8_page 15 = .ok (.getfield 48, 3) := by decide +kernel
theorem dX8_page_18 : decode cX8_page 18 = .ok (.iconst 0, 1) := by decide +kernel
theorem dX8_page_19 : decode cX8_page 19 = .ok (.iaload, 1) := by decide +kernel
theorem dX8_page_20 : decode cX8_page 20 = .ok (.iconst 1, 1) := by decide +kernel
theorem dX8_page_21 : decode cX8_page 21 = .ok (.isub, 1) := by decide +kernel
theorem dX8_page_22 : decode cX8_page 22 = .ok (.i2l, 1) := by decide +kernel
theorem dX8_page_23 : decode cX8_page 23 = .ok (.invokestatic 63, 3) := by decide +kernel
theorem dX8_page_26 : decode cX8_page 26 = .ok (.ifCond .eq 15, 3) := by decide +kernel
theorem dX8_page_29 : decode cX8_page 29 = .ok (.iload_n 2, 1) := by decide +kernel
theorem dX8_page_30 : decode cX8_page 30 = .ok (.i2l, 1) := by decide +kernel
theorem dX8_page_31 : decode cX8_page 31 = .ok (.lconst 0, 1) := by decide +kernel
theorem dX8_page_32 : decode cX8_page 32 = .ok (.ldc2_w 139, 3) := by decide +kernel
theorem dX8_page_35 : decode cX8_page 35 = .ok (.invokestatic 63, 3) := by decide +kernel
theorem dX8_page_38 : decode cX8_page 38 = .ok (.ifCond .ne 5, 3) := by decide +kernel
theorem dX8_page_41 : decode cX8_page 41 = .ok (.iconst (-1), 1) := by decide +kernel
theorem dX8_page_42 : decode cX8_page 42 = .ok (.ireturn, 1) := by decide +kernel
theorem dX8_page_43 : decode cX8_page 43 = .ok (.aload_n 0, 1) := by decide +kernel
theorem dX8_page_44 : decode cX8_page 44 = .ok (.iload_n 1, 1) := by decide +kernel
theorem dX8_page_45 : decode cX8_page 45 = .ok (.invokevirtual 141, 3) := by decide +kernel
theorem dX8_page_48 : decode cX8_page 48 = .ok (.istore_n 3, 1) := by decide +kernel
theorem dX8_page_49 : decode cX8_page 49 = .ok (.iload_n 2, 1) := by decide +kernel
theorem dX8_page_50 : decode cX8_page 50 = .ok (.ifCond .ne 7, 3) := by decide +kernel
theorem dX8_page_53 : decode cX8_page 53 = .ok (.iload_n 3, 1) := by decide +kernel
theorem dX8_page_54 : decode cX8_page 54 = .ok (.goto 30, 3) := by decide +kernel
theorem dX8_page_57 : decode cX8_page 57 = .ok (.iload_n 2, 1) := by decide +kernel
theorem dX8_page_58 : decode cX8_page 58 = .ok (.iconst 1, 1) := by decide +kernel
theorem dX8_page_59 : decode cX8_page 59 = .ok (.if_icmp .ne 14, 3) := by decide +kernel
theorem dX8_page_62 : decode cX8_page 62 = .ok (.aload_n 0, 1) := by decide +kernel
theorem dX8_page_63 : decode cX8_page 63 = .ok (.getfield 51, 3) := by decide +kernel
theorem dX8_page_66 : decode cX8_page 66 = .ok (.iload_n 3, 1) := by decide +kernel
theorem dX8_page_67 : decode cX8_page 67 = .ok (.iaload, 1) := by decide +kernel
theorem dX8_page_68 : decode cX8_page 68 = .ok (.iload_n 3, 1) := by decide +kernel
theorem dX8_page_69 : decode cX8_page 69 = .ok (.isub, 1) := by decide +kernel
theorem dX8_page_70 : decode cX8_page 70 = .ok (.goto 14, 3) := by decide +kernel
theorem dX8_page_73 : decode cX8_page 73 = .ok (.aload_n 0, 1) := by decide +kernel
theorem dX8_page_74 : decode cX8_page 74 = .ok (.iload_n 3, 1) := by decide +kernel
theorem dX8_page_75 : decode cX8_page 75 = .ok (.aload_n 0, 1) := by decide +kernel
theorem dX8_page_76 : decode cX8_page 76 = .ok (.getfield 51, 3) := by decide +kernel
theorem dX8_page_79 : decode cX8_page 79 = .ok (.iload_n 3, 1) := by decide +kernel
theorem dX8_page_80 : decode cX8_page 80 = .ok (.iaload, 1) := by decide +kernel
theorem dX8_page_81 : decode cX8_page 81 = .ok (.invokevirtual 121, 3) := by decide +kernel
theorem dX8_page_84 : decode cX8_page 84 = .ok (.ireturn, 1) := by decide +kernel
set_option maxRecDepth 20000 in
theorem ggX8_of_X8_isLine : GoodIn wsX8_of wsX8_isLine := goodIn_r _ [5, 6, 7, 8, 4, 9, 100, 101, 102, 103, 104, 105, 106, 107, 108, 109, 110, 111, 112, 113, 114, 115, 116, 117, 118, 119, 120, 121, 122] (by decide +kernel) (by decide +kernel)
set_option maxRecDepth 20000 in
theorem gX8_of_X8_isLine : GoodIn wsX8_of (wsV RX8 144 RX8 yX8_isLine wsX8_isLine) := goodIn_app (goodIn_of _ (by decide +kernel)) ggX8_of_X8_isLine
set_option maxRecDepth 20000 in
theorem ggX8_of_X8_at : GoodIn wsX8_of wsX8_at := goodIn_r _ [13, 6, 100, 101, 102, 103, 104, 105, 106, 107, 108, 109, 110, 111, 112, 113, 114, 115, 116, 117, 118, 119, 120, 121, 122] (by decide +kernel) (by decide +kernel)
set_option maxRecDepth 20000 in
theorem gX8_of_X8_at : GoodIn wsX8_of (wsV RX8 67 RX8 yX8_at wsX8_at) := goodIn_app (goodIn_of _ (by decide +kernel)) ggX8_of_X8_at
set_option maxRecDepth 20000 in
theorem ggX8_of_X8_begins : GoodIn wsX8_of wsX8_begins := goodIn_r _ [17, 10, 11, 12, 4, 13, 6, 100, 101, 102, 103, 104, 105, 106, 107, 108, 109, 110, 111, 112, 113, 114, 115, 116, 117, 118, 119, 120, 121, 122] (by decide +kernel) (by decide +kernel)
set_option maxRecDepth 20000 in
theorem gX8_of_X8_begins : GoodIn wsX8_of (wsV RX8 71 RX8 yX8_begins wsX8_begins) := goodIn_app (goodIn_of _ (by decide +kernel)) ggX8_of_X8_begins
set_option maxRecDepth 20000 in
theorem ggX8_of_X8_words : GoodIn wsX8_of wsX8_words := goodIn_r _ [21, 10, 11, 12, 4, 13, 6, 100, 101, 102, 103, 104, 105, 106, 107, 108, 109, 110, 111, 112, 113, 114, 115, 116, 117, 118, 119, 120, 121, 122] (by decide +kernel) (by decide +kernel)
set_option maxRecDepth 20000 in
theorem gX8_of_X8_words : GoodIn wsX8_of (wsV RX8 85 RX8 yX8_words wsX8_words) := goodIn_app (goodIn_of _ (by decide +kernel)) ggX8_of_X8_words
set_option maxRecDepth 20000 in
theorem ggX8_of_X8_stanzaOf : GoodIn wsX8_of wsX8_stanzaOf := goodIn_r _ [25, 14, 15, 16, 4, 17, 10, 11, 12, 13, 6, 100, 101, 102, 103, 104, 105, 106, 107, 108, 109, 110, 111, 112, 113, 114, 115, 116, 117, 118, 119, 120, 121, 122] (by decide +kernel) (by decide +kernel)
set_option maxRecDepth 20000 in
theorem gX8_of_X8_stanzaOf : GoodIn wsX8_of (wsV RX8 75 RX8 yX8_stanzaOf wsX8_stanzaOf) := goodIn_app (goodIn_of _ (by decide +kernel)) ggX8_of_X8_stanzaOf
set_option maxRecDepth 20000 in
theorem ggX8_of_X8_indent : GoodIn wsX8_of wsX8_indent := goodIn_r _ [29, 6, 30, 31, 32, 4, 33, 34, 35, 36, 37, 14, 15, 16, 17, 10, 11, 12, 13, 100, 101, 102, 103, 104, 105, 106, 107, 108, 109, 110, 111, 112, 113, 114, 115, 116, 117, 118, 119, 120, 121, 122] (by decide +kernel) (by decide +kernel)
set_option maxRecDepth 20000 in
theorem gX8_of_X8_indent : GoodIn wsX8_of (wsV RX8 88 RX8 yX8_indent wsX8_indent) := goodIn_app (goodIn_of _ (by decide +kernel)) ggX8_of_X8_indent
set_option maxRecDepth 20000 in
theorem ggX8_of_X8_rowsOf : GoodIn wsX8_of wsX8_rowsOf := goodIn_r _ [41, 42, 43, 44, 4, 45, 46, 47, 48, 49, 50, 18, 19, 20, 21, 10, 11, 12, 13, 6, 51, 52, 53, 54, 26, 27, 28, 29, 30, 31, 32, 33, 34, 35, 36, 37, 14, 15, 16, 17, 55, 56, 57, 58, 59, 60, 61, 62, 63, 64, 65, 100, 101, 102, 103, 104, 105, 106, 107, 108, 109, 110, 111, 112, 113, 114, 115, 116, 117, 118, 119, 120, 121, 122] (by decide +kernel) (by decide +kernel)
set_option maxRecDepth 20000 in
theorem gX8_of_X8_rowsOf : GoodIn wsX8_of (wsV RX8 115 RX8 yX8_rowsOf wsX8_rowsOf) := goodIn_app (goodIn_of _ (by decide +kernel)) ggX8_of_X8_rowsOf
set_option maxRecDepth 20000 in
theorem ggX8_of_X8_costOf : GoodIn wsX8_of wsX8_costOf := goodIn_r _ [69, 42, 43, 44, 4, 45, 46, 47, 48, 49, 50, 18, 19, 20, 21, 10, 11, 12, 13, 6, 51, 52, 53, 54, 26, 27, 28, 29, 30, 31, 32, 33, 34, 35, 36, 37, 14, 15, 16, 17, 55, 56, 57, 58, 59, 60, 61, 62, 100, 101, 102, 103, 104, 105, 106, 107, 108, 109, 110, 111, 112, 113, 114, 115, 116, 117, 118, 119, 120, 121, 122] (by decide +kernel) (by decide +kernel)
set_option maxRecDepth 20000 in
theorem gX8_of_X8_costOf : GoodIn wsX8_of (wsV RX8 118 RX8 yX8_costOf wsX8_costOf) := goodIn_app (goodIn_of _ (by decide +kernel)) ggX8_of_X8_costOf
set_option maxRecDepth 20000 in
theorem ggX8_of_X8_pageOf : GoodIn wsX8_of wsX8_pageOf := goodIn_r _ [73, 74, 75, 76, 77, 78, 4, 79, 6, 80, 81, 46, 82, 83, 84, 85, 86, 87, 38, 39, 40, 41, 42, 43, 44, 45, 47, 48, 49, 50, 18, 19, 20, 21, 10, 11, 12, 13, 51, 52, 53, 54, 26, 27, 28, 29, 30, 31, 32, 33, 34, 35, 36, 37, 14, 15, 16, 17, 55, 56, 57, 58, 59, 60, 61, 62, 63, 64, 65, 88, 89, 90, 91, 92, 93, 94, 95, 96, 97, 98, 99, 100, 101, 102, 103, 104, 105, 106, 107, 108, 109, 110, 111, 112, 113, 114, 115, 116, 117, 118, 119, 120, 121, 122] (by decide +kernel) (by decide +kernel)
set_option maxRecDepth 20000 in
theorem gX8_of_X8_pageOf : GoodIn wsX8_of (wsV RX8 147 RX8 yX8_pageOf wsX8_pageOf) := goodIn_app (goodIn_of _ (by decide +kernel)) ggX8_of_X8_pageOf
theorem dX8_of_0 : decode cX8_of 0 = .ok (.aload_n 0, 1) := by decide +kernel
theorem dX8_of_1 : decode cX8_of 1 = .ok (.iload_n 1, 1) := by decide +kernel
theorem dX8_of_2 : decode cX8_of 2 = .ok (.invokevirtual 144, 3) := by decide +kernel
theorem dX8_of_5 : decode cX8_of 5 = .ok (.ifCond .ne 5, 3) := by decide +kernel
theorem dX8_of_8 : decode cX8_of 8 = .ok (.iconst (-1), 1) := by decide +kernel
theorem dX8_of_9 : decode cX8_of 9 = .ok (.ireturn, 1) := by decide +kernel
theorem dX8_of_10 : decode cX8_of 10 = .ok (.iload_n 2, 1) := by decide +kernel
theorem dX8_of_11 : decode cX8_of 11 = .ok (.tableswitch 102 0 7 #[45, 52, 66, 72, 78, 84, 90, 96], 45) := by decide +kernel
theorem dX8_of_56 : decode cX8_of 56 = .ok (.aload_n 0, 1) := by decide +kernel
theorem dX8_of_57 : decode cX8_of 57 = .ok (.iload_n 1, 1) := by decide +kernel
theorem dX8_of_58 : decode cX8_of 58 = .ok (.iconst 0, 1) := by decide +kernel
theorem dX8_of_59 : decode cX8_of 59 = .ok (.invokevirtual 67, 3) := by decide +kernel
theorem dX8_of_62 : decode cX8_of 62 = .ok (.ireturn, 1) := by decide +kernel
theorem dX8_of_63 : decode cX8_of 63 = .ok (.aload_n 0, 1) := by decide +kernel
theorem dX8_of_64 : decode cX8_of 64 = .ok (.iload_n 1, 1) := by decide +kernel
theorem dX8_of_65 : decode cX8_of 65 = .ok (.invokevirtual 71, 3) := by decide +kernel
theorem dX8_of_68 : decode cX8_of 68 = .ok (.ifCond .eq 7, 3) := by decide +kernel
theorem dX8_of_71 : decode cX8_of 71 = .ok (.iconst 1, 1) := by decide +kernel
theorem dX8_of_72 : decode cX8_of 72 = .ok (.goto 4, 3) := by decide +kernel
theorem dX8_of_75 : decode cX8_of 75 = .ok (.iconst 0, 1) := by decide +kernel
theorem dX8_of_76 : decode cX8_of 76 = .ok (.ireturn, 1) := by decide +kernel
theorem dX8_of_77 : decode cX8_of 77 = .ok (.aload_n 0, 1) := by decide +kernel
theorem dX8_of_78 : decode cX8_of 78 = .ok (.iload_n 1, 1) := by decide +kernel
theorem dX8_of_79 : decode cX8_of 79 = .ok (.invokevirtual 85, 3) := by decide +kernel
theorem dX8_of_82 : decode cX8_of 82 = .ok (.ireturn, 1) := by decide +kernel
theorem dX8_of_83 : decode cX8_of 83 = .ok (.aload_n 0, 1) := by decide +kernel
theorem dX8_of_84 : decode cX8_of 84 = .ok (.iload_n 1, 1) := by decide +kernel
theorem dX8_of_85 : decode cX8_of 85 = .ok (.invokevirtual 75, 3) := by decide +kernel
theorem dX8_of_88 : decode cX8_of 88 = .ok (.ireturn, 1) := by decide +kernel
theorem dX8_of_89 : decode cX8_of 89 = .ok (.aload_n 0, 1) := by decide +kernel
theorem dX8_of_90 : decode cX8_of 90 = .ok (.iload_n 1, 1) := by decide +kernel
theorem dX8_of_91 : decode cX8_of 91 = .ok (.invokevirtual 88, 3) := by decide +kernel
theorem dX8_of_94 : decode cX8_of 94 = .ok (.ireturn, 1) := by decide +kernel
theorem dX8_of_95 : decode cX8_of 95 = .ok (.aload_n 0, 1) := by decide +kernel
theorem dX8_of_96 : decode cX8_of 96 = .ok (.iload_n 1, 1) := by decide +kernel
theorem dX8_of_97 : decode cX8_of 97 = .ok (.invokevirtual 115, 3) := by decide +kernel
theorem dX8_of_100 : decode cX8_of 100 = .ok (.ireturn, 1) := by decide +kernel
theorem dX8_of_101 : decode cX8_of 101 = .ok (.aload_n 0, 1) := by decide +kernel
theorem dX8_of_102 : decode cX8_of 102 = .ok (.iload_n 1, 1) := by decide +kernel
theorem dX8_of_103 : decode cX8_of 103 = .ok (.invokevirtual 118, 3) := by decide +kernel
theorem dX8_of_106 : decode cX8_of 106 = .ok (.ireturn, 1) := by decide +kernel
theorem dX8_of_107 : decode cX8_of 107 = .ok (.aload_n 0, 1) := by decide +kernel
theorem dX8_of_108 : decode cX8_of 108 = .ok (.iload_n 1, 1) := by decide +kernel
theorem dX8_of_109 : decode cX8_of 109 = .ok (.invokevirtual 147, 3) := by decide +kernel
theorem dX8_of_112 : decode cX8_of 112 = .ok (.ireturn, 1) := by decide +kernel
theorem dX8_of_113 : decode cX8_of 113 = .ok (.iconst (-1), 1) := by decide +kernel
theorem dX8_of_114 : decode cX8_of 114 = .ok (.ireturn, 1) := by decide +kernel
set_option maxRecDepth 20000 in
theorem ggX8_said_X8_isLine : GoodIn wsX8_said wsX8_isLine := goodIn_r _ [7, 2, 8, 9, 6, 10, 56, 57, 58, 59, 60, 61, 62, 63, 64, 65, 66, 67, 68, 69, 70, 71, 72, 73, 74, 75, 76, 77, 78] (by decide +kernel) (by decide +kernel)
set_option maxRecDepth 20000 in
theorem gX8_said_X8_isLine : GoodIn wsX8_said (wsV RX8 144 RX8 yX8_isLine wsX8_isLine) := goodIn_app (goodIn_of _ (by decide +kernel)) ggX8_said_X8_isLine
set_option maxRecDepth 20000 in
theorem ggX8_said_X8_words : GoodIn wsX8_said wsX8_words := goodIn_r _ [14, 15, 16, 17, 6, 18, 2, 56, 57, 58, 59, 60, 61, 62, 63, 64, 65, 66, 67, 68, 69, 70, 71, 72, 73, 74, 75, 76, 77, 78] (by decide +kernel) (by decide +kernel)
set_option maxRecDepth 20000 in
theorem gX8_said_X8_words : GoodIn wsX8_said (wsV RX8 85 RX8 yX8_words wsX8_words) := goodIn_app (goodIn_of _ (by decide +kernel)) ggX8_said_X8_words
set_option maxRecDepth 20000 in
theorem ggX8_said_X8_in : GoodIn wsX8_said wsX8_in := goodIn_r _ [10] (by decide +kernel) (by decide +kernel)
set_option maxRecDepth 20000 in
theorem gX8_said_X8_in : GoodIn wsX8_said (va_wsS RX8 63 yX8_in wsX8_in) := goodIn_app (goodIn_of _ (by decide +kernel)) ggX8_said_X8_in
set_option maxRecDepth 20000 in
theorem ggX8_said_X8_at : GoodIn wsX8_said wsX8_at := goodIn_r _ [18, 2, 56, 57, 58, 59, 60, 61, 62, 63, 64, 65, 66, 67, 68, 69, 70, 71, 72, 73, 74, 75, 76, 77, 78] (by decide +kernel) (by decide +kernel)
set_option maxRecDepth 20000 in
theorem gX8_said_X8_at : GoodIn wsX8_said (wsV RX8 67 RX8 yX8_at wsX8_at) := goodIn_app (goodIn_of _ (by decide +kernel)) ggX8_said_X8_at
set_option maxRecDepth 20000 in
theorem ggX8_said_X8_best : GoodIn wsX8_said wsX8_best := goodIn_r _ [22, 23, 24, 25, 26, 6, 27, 11, 12, 13, 14, 15, 16, 17, 18, 2, 28, 29, 30, 31, 32, 33, 34, 35, 36, 37, 38, 39, 40, 41, 42, 43, 44, 45, 46, 47, 48, 49, 50, 51, 52, 53, 54, 55, 56, 57, 58, 59, 60, 61, 62, 63, 64, 65, 66, 67, 68, 69, 70, 71, 72, 73, 74, 75, 76, 77, 78] (by decide +kernel) (by decide +kernel)
set_option maxRecDepth 20000 in
theorem gX8_said_X8_best : GoodIn wsX8_said (wsV RX8 105 RX8 yX8_best wsX8_best) := goodIn_app (goodIn_of _ (by decide +kernel)) ggX8_said_X8_best
set_option maxRecDepth 20000 in
theorem ggX8_said_X8_indent : GoodIn wsX8_said wsX8_indent := goodIn_r _ [35, 2, 36, 37, 38, 6, 39, 40, 41, 42, 43, 44, 45, 46, 47, 15, 16, 17, 18, 56, 57, 58, 59, 60, 61, 62, 63, 64, 65, 66, 67, 68, 69, 70, 71, 72, 73, 74, 75, 76, 77, 78] (by decide +kernel) (by decide +kernel)
set_option maxRecDepth 20000 in
theorem gX8_said_X8_indent : GoodIn wsX8_said (wsV RX8 88 RX8 yX8_indent wsX8_indent) := goodIn_app (goodIn_of _ (by decide +kernel)) ggX8_said_X8_indent
set_option maxRecDepth 20000 in
theorem ggX8_said_X8_breaks : GoodIn wsX8_said wsX8_breaks := goodIn_r _ [51, 11, 12, 13, 6, 14, 15, 16, 17, 18, 2, 56, 57, 58, 59, 60, 61, 62, 63, 64, 65, 66, 67, 68, 69, 70, 71, 72, 73, 74, 75, 76, 77, 78] (by decide +kernel) (by decide +kernel)
set_option maxRecDepth 20000 in
theorem gX8_said_X8_breaks : GoodIn wsX8_said (wsV RX8 91 RX8 yX8_breaks wsX8_breaks) := goodIn_app (goodIn_of _ (by decide +kernel)) ggX8_said_X8_breaks
theorem dX8_said_0 : decode cX8_said 0 = .ok (.aload_n 0, 1) := by decide +kernel
theorem dX8_said_1 : decode cX8_said 1 = .ok (.iload_n 1, 1) := by decide +kernel
theorem dX8_said_2 : decode cX8_said 2 = .ok (.invokevirtual 144, 3) := by decide +kernel
theorem dX8_said_5 : decode cX8_said 5 = .ok (.ifCond .eq 32, 3) := by decide +kernel
theorem dX8_said_8 : decode cX8_said 8 = .ok (.iload_n 2, 1) := by decide +kernel
theorem dX8_said_9 : decode cX8_said 9 = .ok (.i2l, 1) := by decide +kernel
theorem dX8_said_10 : decode cX8_said 10 = .ok (.lconst 0, 1) := by decide +kernel
theorem dX8_said_11 : decode cX8_said 11 = .ok (.aload_n 0, 1) := by decide +kernel
theorem dX8_said_12 : decode cX8_said 12 = .ok (.iload_n 1, 1) := by decide +kernel
theorem dX8_said_13 : decode cX8_said 13 = .ok (.invokevirtual 85, 3) := by decide +kernel
theorem dX8_said_16 : decode cX8_said 16 = .ok (.iconst 1, 1) := by decide +kernel
theorem dX8_said_17 : decode cX8_said 17 = .ok (.isub, 1) := by decide +kernel
theorem dX8_said_18 : decode cX8_said 18 = .ok (.i2l, 1) := by decide +kernel
theorem dX8_said_19 : decode cX8_said 19 = .ok (.invokestatic 63, 3) := by decide +kernel
theorem dX8_said_22 : decode cX8_said 22 = .ok (.ifCond .eq 15, 3) := by decide +kernel
theorem dX8_said_25 : decode cX8_said 25 = .ok (.iload_n 3, 1) := by decide +kernel
theorem dX8_said_26 : decode cX8_said 26 = .ok (.i2l, 1) := by decide +kernel
theorem dX8_said_27 : decode cX8_said 27 = .ok (.lconst 0, 1) := by decide +kernel
theorem dX8_said_28 : decode cX8_said 28 = .ok (.ldc2_w 150, 3) := by decide +kernel
theorem dX8_said_31 : decode cX8_said 31 = .ok (.invokestatic 63, 3) := by decide +kernel
theorem dX8_said_34 : decode cX8_said 34 = .ok (.ifCond .ne 5, 3) := by decide +kernel
theorem dX8_said_37 : decode cX8_said 37 = .ok (.iconst (-1), 1) := by decide +kernel
theorem dX8_said_38 : decode cX8_said 38 = .ok (.ireturn, 1) := by decide +kernel
theorem dX8_said_39 : decode cX8_said 39 = .ok (.iload_n 3, 1) := by decide +kernel
theorem dX8_said_40 : decode cX8_said 40 = .ok (.iconst 2, 1) := by decide +kernel
theorem dX8_said_41 : decode cX8_said 41 = .ok (.if_icmp .ge 21, 3) := by decide +kernel
theorem dX8_said_44 : decode cX8_said 44 = .ok (.aload_n 0, 1) := by decide +kernel
theorem dX8_said_45 : decode cX8_said 45 = .ok (.iload_n 1, 1) := by decide +kernel
theorem dX8_said_46 : decode cX8_said 46 = .ok (.iload_n 3, 1) := by decide +kernel
theorem dX8_said_47 : decode cX8_said 47 = .ok (.ifCond .ne 7, 3) := by decide +kernel
theorem dX8_said_50 : decode cX8_said 50 = .ok (.iconst 3, 1) := by decide +kernel
theorem dX8_said_51 : decode cX8_said 51 = .ok (.goto 5, 3) := by decide +kernel
theorem dX8_said_54 : decode cX8_said 54 = .ok (.bipush 9, 2) := by decide +kernel
theorem dX8_said_56 : decode cX8_said 56 = .ok (.iload_n 2, 1) := by decide +kernel
theorem dX8_said_57 : decode cX8_said 57 = .ok (.iadd, 1) := by decide +kernel
theorem dX8_said_58 : decode cX8_said 58 = .ok (.invokevirtual 67, 3) := by decide +kernel
theorem dX8_said_61 : decode cX8_said 61 = .ok (.ireturn, 1) := by decide +kernel
theorem dX8_said_62 : decode cX8_said 62 = .ok (.aload_n 0, 1) := by decide +kernel
theorem dX8_said_63 : decode cX8_said 63 = .ok (.iload_n 1, 1) := by decide +kernel
theorem dX8_said_64 : decode cX8_said 64 = .ok (.invokevirtual 105, 3) := by decide +kernel
theorem dX8_said_67 : decode cX8_said 67 = .ok (.istore 4, 2) := by decide +kernel
theorem dX8_said_69 : decode cX8_said 69 = .ok (.iload 4, 2) := by decide +kernel
theorem dX8_said_71 : decode cX8_said 71 = .ok (.ifCond .ge 6, 3) := by decide +kernel
theorem dX8_said_74 : decode cX8_said 74 = .ok (.bipush (-4), 2) := by decide +kernel
theorem dX8_said_76 : decode cX8_said 76 = .ok (.ireturn, 1) := by decide +kernel
theorem dX8_said_77 : decode cX8_said 77 = .ok (.iconst 0, 1) := by decide +kernel
theorem dX8_said_78 : decode cX8_said 78 = .ok (.istore 5, 2) := by decide +kernel
theorem dX8_said_80 : decode cX8_said 80 = .ok (.aload_n 0, 1) := by decide +kernel
theorem dX8_said_81 : decode cX8_said 81 = .ok (.iload_n 1, 1) := by decide +kernel
theorem dX8_said_82 : decode cX8_said 82 = .ok (.invokevirtual 88, 3) := by decide +kernel
theorem dX8_said_85 : decode cX8_said 85 = .ok (.istore 6, 2) := by decide +kernel
theorem dX8_said_87 : decode cX8_said 87 = .ok (.iconst 0, 1) := by decide +kernel
theorem dX8_said_88 : decode cX8_said 88 = .ok (.istore 7, 2) := by decide +kernel
theorem dX8_said_90 : decode cX8_said 90 = .ok (.iload 7, 2) := by decide +kernel
theorem dX8_said_92 : decode cX8_said 92 = .ok (.iload_n 2, 1) := by decide +kernel
theorem dX8_said_93 : decode cX8_said 93 = .ok (.if_icmp .ge 71, 3) := by decide +kernel
theorem dX8_said_96 : decode cX8_said 96 = .ok (.aload_n 0, 1) := by decide +kernel
theorem dX8_said_97 : decode cX8_said 97 = .ok (.iload_n 1, 1) := by decide +kernel
theorem dX8_said_98 : decode cX8_said 98 = .ok (.iload 4, 2) := by decide +kernel
theorem dX8_said_100 : decode cX8_said 100 = .ok (.iload 7, 2) := by decide +kernel
theorem dX8_said_102 : decode cX8_said 102 = .ok (.invokevirtual 91, 3) := by decide +kernel
theorem dX8_said_105 : decode cX8_said 105 = .ok (.istore 8, 2) := by decide +kernel
theorem dX8_said_107 : decode cX8_said 107 = .ok (.iload 5, 2) := by decide +kernel
theorem dX8_said_109 : decode cX8_said 109 = .ok (.iload 8, 2) := by decide +kernel
theorem dX8_said_111 : decode cX8_said 111 = .ok (.ifCond .eq 7, 3) := by decide +kernel
theorem dX8_said_114 : decode cX8_said 114 = .ok (.iconst 1, 1) := by decide +kernel
theorem dX8_said_115 : decode cX8_said 115 = .ok (.goto 4, 3) := by decide +kernel
theorem dX8_said_118 : decode cX8_said 118 = .ok (.iconst 0, 1) := by decide +kernel
theorem dX8_said_119 : decode cX8_said 119 = .ok (.iadd, 1) := by decide +kernel
theorem dX8_said_120 : decode cX8_said 120 = .ok (.istore 5, 2) := by decide +kernel
theorem dX8_said_122 : decode cX8_said 122 = .ok (.iload 8, 2) := by decide +kernel
theorem dX8_said_124 : decode cX8_said 124 = .ok (.ifCond .eq 18, 3) := by decide +kernel
theorem dX8_said_127 : decode cX8_said 127 = .ok (.aload_n 0, 1) := by decide +kernel
theorem dX8_said_128 : decode cX8_said 128 = .ok (.iload_n 1, 1) := by decide +kernel
theorem dX8_said_129 : decode cX8_said 129 = .ok (.invokevirtual 88, 3) := by decide +kernel
theorem dX8_said_132 : decode cX8_said 132 = .ok (.aload_n 0, 1) := by decide +kernel
theorem dX8_said_133 : decode cX8_said 133 = .ok (.getfield 7, 3) := by decide +kernel
theorem dX8_said_136 : decode cX8_said 136 = .ok (.iconst 4, 1) := by decide +kernel
theorem dX8_said_137 : decode cX8_said 137 = .ok (.iaload, 1) := by decide +kernel
theorem dX8_said_138 : decode cX8_said 138 = .ok (.iadd, 1) := by decide +kernel
theorem dX8_said_139 : decode cX8_said 139 = .ok (.goto 17, 3) := by decide +kernel
theorem dX8_said_142 : decode cX8_said 142 = .ok (.iload 6, 2) := by decide +kernel
theorem dX8_said_144 : decode cX8_said 144 = .ok (.aload_n 0, 1) := by decide +kernel
theorem dX8_said_145 : decode cX8_said 145 = .ok (.iload_n 1, 1) := by decide +kernel
theorem dX8_said_146 : decode cX8_said 146 = .ok (.iconst 3, 1) := by decide +kernel
theorem dX8_said_147 : decode cX8_said 147 = .ok (.iload 7, 2) := by decide +kernel
theorem dX8_said_149 : decode cX8_said 149 = .ok (.iadd, 1) := by decide +kernel
theorem dX8_said_150 : decode cX8_said 150 = .ok (.invokevirtual 67, 3) := by decide +kernel
theorem dX8_said_153 : decode cX8_said 153 = .ok (.iadd, 1) := by decide +kernel
theorem dX8_said_154 : decode cX8_said 154 = .ok (.iconst 1, 1) := by decide +kernel
theorem dX8_said_155 : decode cX8_said 155 = .ok (.iadd, 1) := by decide +kernel
theorem dX8_said_156 : decode cX8_said 156 = .ok (.istore 6, 2) := by decide +kernel
theorem dX8_said_158 : decode cX8_said 158 = .ok (.iinc 7 1, 3) := by decide +kernel
theorem dX8_said_161 : decode cX8_said 161 = .ok (.goto (-71), 3) := by decide +kernel
theorem dX8_said_164 : decode cX8_said 164 = .ok (.iload_n 3, 1) := by decide +kernel
theorem dX8_said_165 : decode cX8_said 165 = .ok (.iconst 2, 1) := by decide +kernel
theorem dX8_said_166 : decode cX8_said 166 = .ok (.if_icmp .ne 8, 3) := by decide +kernel
theorem dX8_said_169 : decode cX8_said 169 = .ok (.iload 5, 2) := by decide +kernel
theorem dX8_said_171 : decode cX8_said 171 = .ok (.goto 5, 3) := by decide +kernel
theorem dX8_said_174 : decode cX8_said 174 = .ok (.iload 6, 2) := by decide +kernel
theorem dX8_said_176 : decode cX8_said 176 = .ok (.ireturn, 1) := by decide +kernel
set_option maxRecDepth 20000 in
theorem ggX8_count_X8_in : GoodIn wsX8_count wsX8_in := goodIn_r _ [10] (by decide +kernel) (by decide +kernel)
set_option maxRecDepth 20000 in
theorem gX8_count_X8_in : GoodIn wsX8_count (va_wsS RX8 63 yX8_in wsX8_in) := goodIn_app (goodIn_of _ (by decide +kernel)) ggX8_count_X8_in
set_option maxRecDepth 20000 in
theorem ggX8_count_X8_lays : GoodIn wsX8_count wsX8_lays := goodIn_r _ [14, 2, 5, 4, 15, 16, 17, 3, 18, 19, 20, 9, 21, 22, 23, 24, 25, 26, 27, 28, 29, 30, 31, 32, 33, 34, 35, 36, 37, 38, 39, 40, 41, 42, 43, 44, 45, 46, 47, 48, 49, 50, 51, 52, 53, 54, 55, 56, 57, 58, 59, 60, 61, 62, 63, 64, 65, 66, 67, 68, 69, 70, 71, 72, 73, 74, 75, 76, 77, 78, 79, 80, 81, 82, 83, 84, 85, 102, 103, 104, 105, 106, 107, 108, 109, 110, 111, 112, 113, 114, 115, 116, 117, 118, 119, 120, 121, 122, 123, 124] (by decide +kernel) (by decide +kernel)
set_option maxRecDepth 20000 in
theorem gX8_count_X8_lays : GoodIn wsX8_count (wsV RX8 136 RX8 yX8_lays wsX8_lays) := goodIn_app (goodIn_of _ (by decide +kernel)) ggX8_count_X8_lays
set_option maxRecDepth 20000 in
theorem ggX8_count_X8_stanzas : GoodIn wsX8_count wsX8_stanzas := goodIn_r _ [89, 2, 90, 91, 92, 9, 93, 59, 60, 61, 62, 39, 40, 41, 42, 102, 103, 104, 105, 106, 107, 108, 109, 110, 111, 112, 113, 114, 115, 116, 117, 118, 119, 120, 121, 122, 123, 124] (by decide +kernel) (by decide +kernel)
set_option maxRecDepth 20000 in
theorem gX8_count_X8_stanzas : GoodIn wsX8_count (wsV RX8 154 RX8 yX8_stanzas wsX8_stanzas) := goodIn_app (goodIn_of _ (by decide +kernel)) ggX8_count_X8_stanzas
set_option maxRecDepth 20000 in
theorem ggX8_count_X8_allCosts : GoodIn wsX8_count wsX8_allCosts := goodIn_r _ [97, 2, 98, 99, 100, 9, 101, 27, 28, 29, 30, 15, 31, 32, 33, 34, 35, 36, 37, 38, 39, 40, 41, 42, 43, 44, 45, 46, 47, 48, 49, 50, 51, 52, 53, 54, 55, 56, 57, 58, 59, 60, 61, 62, 63, 64, 65, 66, 67, 68, 69, 70, 102, 103, 104, 105, 106, 107, 108, 109, 110, 111, 112, 113, 114, 115, 116, 117, 118, 119, 120, 121, 122, 123, 124] (by decide +kernel) (by decide +kernel)
set_option maxRecDepth 20000 in
theorem gX8_count_X8_allCosts : GoodIn wsX8_count (wsV RX8 158 RX8 yX8_allCosts wsX8_allCosts) := goodIn_app (goodIn_of _ (by decide +kernel)) ggX8_count_X8_allCosts
theorem dX8_count_0 : decode cX8_count 0 = .ok (.iload_n 1, 1) := by decide +kernel
theorem dX8_count_1 : decode cX8_count 1 = .ok (.i2l, 1) := by decide +kernel
theorem dX8_count_2 : decode cX8_count 2 = .ok (.lconst 0, 1) := by decide +kernel
theorem dX8_count_3 : decode cX8_count 3 = .ok (.ldc2_w 152, 3) := by decide +kernel
theorem dX8_count_6 : decode cX8_count 6 = .ok (.invokestatic 63, 3) := by decide +kernel
theorem dX8_count_9 : decode cX8_count 9 = .ok (.ifCond .eq 12, 3) := by decide +kernel
theorem dX8_count_12 : decode cX8_count 12 = .ok (.aload_n 0, 1) := by decide +kernel
theorem dX8_count_13 : decode cX8_count 13 = .ok (.getfield 7, 3) := by decide +kernel
theorem dX8_count_16 : decode cX8_count 16 = .ok (.iconst 2, 1) := by decide +kernel
theorem dX8_count_17 : decode cX8_count 17 = .ok (.iload_n 1, 1) := by decide +kernel
theorem dX8_count_18 : decode cX8_count 18 = .ok (.iadd, 1) := by decide +kernel
theorem dX8_count_19 : decode cX8_count 19 = .ok (.iaload, 1) := by decide +kernel
theorem dX8_count_20 : decode cX8_count 20 = .ok (.ireturn, 1) := by decide +kernel
theorem dX8_count_21 : decode cX8_count 21 = .ok (.aload_n 0, 1) := by decide +kernel
theorem dX8_count_22 : decode cX8_count 22 = .ok (.invokevirtual 136, 3) := by decide +kernel
theorem dX8_count_25 : decode cX8_count 25 = .ok (.iload_n 1, 1) := by decide +kernel
theorem dX8_count_26 : decode cX8_count 26 = .ok (.tableswitch 98 7 12 #[38, 45, 50, 55, 74, 93], 38) := by decide +kernel
theorem dX8_count_64 : decode cX8_count 64 = .ok (.aload_n 0, 1) := by decide +kernel
theorem dX8_count_65 : decode cX8_count 65 = .ok (.getfield 7, 3) := by decide +kernel
theorem dX8_count_68 : decode cX8_count 68 = .ok (.iconst 0, 1) := by decide +kernel
theorem dX8_count_69 : decode cX8_count 69 = .ok (.iaload, 1) := by decide +kernel
theorem dX8_count_70 : decode cX8_count 70 = .ok (.ireturn, 1) := by decide +kernel
theorem dX8_count_71 : decode cX8_count 71 = .ok (.aload_n 0, 1) := by decide +kernel
theorem dX8_count_72 : decode cX8_count 72 = .ok (.invokevirtual 154, 3) := by decide +kernel
theorem dX8_count_75 : decode cX8_count 75 = .ok (.ireturn, 1) := by decide +kernel
theorem dX8_count_76 : decode cX8_count 76 = .ok (.aload_n 0, 1) := by decide +kernel
theorem dX8_count_77 : decode cX8_count 77 = .ok (.invokevirtual 158, 3) := by decide +kernel
theorem dX8_count_80 : decode cX8_count 80 = .ok (.ireturn, 1) := by decide +kernel
theorem dX8_count_81 : decode cX8_count 81 = .ok (.aload_n 0, 1) := by decide +kernel
theorem dX8_count_82 : decode cX8_count 82 = .ok (.getfield 133, 3) := by decide +kernel
theorem dX8_count_85 : decode cX8_count 85 = .ok (.ifCond .eq 12, 3) := by decide +kernel
theorem dX8_count_88 : decode cX8_count 88 = .ok (.aload_n 0, 1) := by decide +kernel
theorem dX8_count_89 : decode cX8_count 89 = .ok (.getfield 48, 3) := by decide +kernel
theorem dX8_count_92 : decode cX8_count 92 = .ok (.iconst 0, 1) := by decide +kernel
theorem dX8_count_93 : decode cX8_count 93 = .ok (.iaload, 1) := by decide +kernel
theorem dX8_count_94 : decode cX8_count 94 = .ok (.goto 5, 3) := by decide +kernel
theorem dX8_count_97 : decode cX8_count 97 = .ok (.bipush (-4), 2) := by decide +kernel
theorem dX8_count_99 : decode cX8_count 99 = .ok (.ireturn, 1) := by decide +kernel
theorem dX8_count_100 : decode cX8_count 100 = .ok (.aload_n 0, 1) := by decide +kernel
theorem dX8_count_101 : decode cX8_count 101 = .ok (.getfield 133, 3) := by decide +kernel
theorem dX8_count_104 : decode cX8_count 104 = .ok (.ifCond .eq 12, 3) := by decide +kernel
theorem dX8_count_107 : decode cX8_count 107 = .ok (.aload_n 0, 1) := by decide +kernel
theorem dX8_count_108 : decode cX8_count 108 = .ok (.getfield 45, 3) := by decide +kernel
theorem dX8_count_111 : decode cX8_count 111 = .ok (.iconst 0, 1) := by decide +kernel
theorem dX8_count_112 : decode cX8_count 112 = .ok (.iaload, 1) := by decide +kernel
theorem dX8_count_113 : decode cX8_count 113 = .ok (.goto 5, 3) := by decide +kernel
theorem dX8_count_116 : decode cX8_count 116 = .ok (.bipush (-4), 2) := by decide +kernel
theorem dX8_count_118 : decode cX8_count 118 = .ok (.ireturn, 1) := by decide +kernel
theorem dX8_count_119 : decode cX8_count 119 = .ok (.aload_n 0, 1) := by decide +kernel
theorem dX8_count_120 : decode cX8_count 120 = .ok (.getfield 161, 3) := by decide +kernel
theorem dX8_count_123 : decode cX8_count 123 = .ok (.ireturn, 1) := by decide +kernel
theorem dX8_count_124 : decode cX8_count 124 = .ok (.iconst (-1), 1) := by decide +kernel
theorem dX8_count_125 : decode cX8_count 125 = .ok (.ireturn, 1) := by decide +kernel
set_option maxRecDepth 20000 in
theorem ggX8_settings_X8_isLine : GoodIn wsX8_settings wsX8_isLine := goodIn_r _ [5, 6, 7, 8, 4, 9, 54, 55, 56, 57, 58, 59, 60, 61, 62, 63, 64, 65, 66, 67, 68, 69, 70, 71, 72, 73, 74, 75, 76] (by decide +kernel) (by decide +kernel)
set_option maxRecDepth 20000 in
theorem gX8_settings_X8_isLine : GoodIn wsX8_settings (wsV RX8 144 RX8 yX8_isLine wsX8_isLine) := goodIn_app (goodIn_of _ (by decide +kernel)) ggX8_settings_X8_isLine
set_option maxRecDepth 20000 in
theorem ggX8_settings_X8_many : GoodIn wsX8_settings wsX8_many := goodIn_r _ [13, 14, 15, 16, 4, 17, 18, 19, 20, 21, 22, 23, 24, 25, 6, 26, 27, 28, 29, 30, 31, 32, 33, 34, 35, 36, 37, 38, 39, 40, 41, 42, 43, 44, 45, 46, 47, 48, 49, 50, 51, 52, 53, 54, 55, 56, 57, 58, 59, 60, 61, 62, 63, 64, 65, 66, 67, 68, 69, 70, 71, 72, 73, 74, 75, 76] (by decide +kernel) (by decide +kernel)
set_option maxRecDepth 20000 in
theorem gX8_settings_X8_many : GoodIn wsX8_settings (wsV RX8 164 RX8 yX8_many wsX8_many) := goodIn_app (goodIn_of _ (by decide +kernel)) ggX8_settings_X8_many
theorem dX8_settings_0 : decode cX8_settings 0 = .ok (.aload_n 0, 1) := by decide +kernel
theorem dX8_settings_1 : decode cX8_settings 1 = .ok (.iload_n 1, 1) := by decide +kernel
theorem dX8_settings_2 : decode cX8_settings 2 = .ok (.invokevirtual 144, 3) := by decide +kernel
theorem dX8_settings_5 : decode cX8_settings 5 = .ok (.ifCond .eq 11, 3) := by decide +kernel
theorem dX8_settings_8 : decode cX8_settings 8 = .ok (.aload_n 0, 1) := by decide +kernel
theorem dX8_settings_9 : decode cX8_settings 9 = .ok (.iload_n 1, 1) := by decide +kernel
theorem dX8_settings_10 : decode cX8_settings 10 = .ok (.invokevirtual 164, 3) := by decide +kernel
theorem dX8_settings_13 : decode cX8_settings 13 = .ok (.goto 4, 3) := by decide +kernel
theorem dX8_settings_16 : decode cX8_settings 16 = .ok (.iconst (-1), 1) := by decide +kernel
theorem dX8_settings_17 : decode cX8_settings 17 = .ok (.ireturn, 1) := by decide +kernel
set_option maxRecDepth 20000 in
theorem ggX8_shapeOf_X8_firstLine : GoodIn wsX8_shapeOf wsX8_firstLine := goodIn_r _ [6, 7, 8, 9, 5, 10, 11, 12, 13, 14, 15, 16, 17, 18, 19, 32, 33, 34, 35, 36, 37, 38, 39, 40, 41, 42, 43, 44, 45, 46, 47, 48, 49, 50, 51, 52, 53, 54] (by decide +kernel) (by decide +kernel)
set_option maxRecDepth 20000 in
theorem gX8_shapeOf_X8_firstLine : GoodIn wsX8_shapeOf (wsV RX8 167 RX8 yX8_firstLine wsX8_firstLine) := goodIn_app (goodIn_of _ (by decide +kernel)) ggX8_shapeOf_X8_firstLine
set_option maxRecDepth 20000 in
theorem ggX8_shapeOf_X8_endOf : GoodIn wsX8_shapeOf wsX8_endOf := goodIn_r _ [23, 19, 11, 12, 13, 5, 14, 15, 16, 17, 18, 32, 33, 34, 35, 36, 37, 38, 39, 40, 41, 42, 43, 44, 45, 46, 47, 48, 49, 50, 51, 52, 53, 54] (by decide +kernel) (by decide +kernel)
set_option maxRecDepth 20000 in
theorem gX8_shapeOf_X8_endOf : GoodIn wsX8_shapeOf (wsV RX8 124 RX8 yX8_endOf wsX8_endOf) := goodIn_app (goodIn_of _ (by decide +kernel)) ggX8_shapeOf_X8_endOf
set_option maxRecDepth 20000 in
theorem ggX8_shapeOf_X8_rank : GoodIn wsX8_shapeOf wsX8_rank := goodIn_r _ [27, 28, 29, 30, 5, 31, 11, 12, 13, 14, 15, 16, 17, 18, 19, 32, 33, 34, 35, 36, 37, 38, 39, 40, 41, 42, 43, 44, 45, 46, 47, 48, 49, 50, 51, 52, 53, 54] (by decide +kernel) (by decide +kernel)
set_option maxRecDepth 20000 in
theorem gX8_shapeOf_X8_rank : GoodIn wsX8_shapeOf (wsV RX8 82 RX8 yX8_rank wsX8_rank) := goodIn_app (goodIn_of _ (by decide +kernel)) ggX8_shapeOf_X8_rank
theorem dX8_shapeOf_0 : decode cX8_shapeOf 0 = .ok (.aload_n 0, 1) := by decide +kernel
theorem dX8_shapeOf_1 : decode cX8_shapeOf 1 = .ok (.iload_n 1, 1) := by decide +kernel
theorem dX8_shapeOf_2 : decode cX8_shapeOf 2 = .ok (.invokevirtual 167, 3) := by decide +kernel
theorem dX8_shapeOf_5 : decode cX8_shapeOf 5 = .ok (.istore_n 2, 1) := by decide +kernel
theorem dX8_shapeOf_6 : decode cX8_shapeOf 6 = .ok (.lconst 0, 1) := by decide +kernel
theorem dX8_shapeOf_7 : decode cX8_shapeOf 7 = .ok (.lstore_n 3, 1) := by decide +kernel
theorem dX8_shapeOf_8 : decode cX8_shapeOf 8 = .ok (.iload_n 2, 1) := by decide +kernel
theorem dX8_shapeOf_9 : decode cX8_shapeOf 9 = .ok (.istore 5, 2) := by decide +kernel
theorem dX8_shapeOf_11 : decode cX8_shapeOf 11 = .ok (.iload 5, 2) := by decide +kernel
theorem dX8_shapeOf_13 : decode cX8_shapeOf 13 = .ok (.aload_n 0, 1) := by decide +kernel
theorem dX8_shapeOf_14 : decode cX8_shapeOf 14 = .ok (.iload_n 2, 1) := by decide +kernel
theorem dX8_shapeOf_15 : decode cX8_shapeOf 15 = .ok (.invokevirtual 124, 3) := by decide +kernel
theorem dX8_shapeOf_18 : decode cX8_shapeOf 18 = .ok (.if_icmp .ge 23, 3) := by decide +kernel
theorem dX8_shapeOf_21 : decode cX8_shapeOf 21 = .ok (.ldc2_w 170, 3) := by decide +kernel
theorem dX8_shapeOf_24 : decode cX8_shapeOf 24 = .ok (.lload_n 3, 1) := by decide +kernel
theorem dX8_shapeOf_25 : decode cX8_shapeOf 25 = .ok (.lmul, 1) := by decide +kernel
theorem dX8_shapeOf_26 : decode cX8_shapeOf 26 = .ok (.aload_n 0, 1) := by decide +kernel
theorem dX8_shapeOf_27 : decode cX8_shapeOf 27 = .ok (.iload 5, 2) := by decide +kernel
theorem dX8_shapeOf_29 : decode cX8_shapeOf 29 = .ok (.invokevirtual 82, 3) := by decide +kernel
theorem dX8_shapeOf_32 : decode cX8_shapeOf 32 = .ok (.i2l, 1) := by decide +kernel
theorem dX8_shapeOf_33 : decode cX8_shapeOf 33 = .ok (.ladd, 1) := by decide +kernel
theorem dX8_shapeOf_34 : decode cX8_shapeOf 34 = .ok (.lstore_n 3, 1) := by decide +kernel
theorem dX8_shapeOf_35 : decode cX8_shapeOf 35 = .ok (.iinc 5 1, 3) := by decide +kernel
theorem dX8_shapeOf_38 : decode cX8_shapeOf 38 = .ok (.goto (-27), 3) := by decide +kernel
theorem dX8_shapeOf_41 : decode cX8_shapeOf 41 = .ok (.lload_n 3, 1) := by decide +kernel
theorem dX8_shapeOf_42 : decode cX8_shapeOf 42 = .ok (.lreturn, 1) := by decide +kernel
set_option maxRecDepth 20000 in
theorem ggX8_linesOf_X8_firstLine : GoodIn wsX8_linesOf wsX8_firstLine := goodIn_r _ [5, 6, 7, 8, 4, 9, 10, 11, 12, 13, 14, 15, 16, 17, 18, 23, 24, 25, 26, 27, 28, 29, 30, 31, 32, 33, 34, 35, 36, 37, 38, 39, 40, 41, 42, 43, 44, 45] (by decide +kernel) (by decide +kernel)
set_option maxRecDepth 20000 in
theorem gX8_linesOf_X8_firstLine : GoodIn wsX8_linesOf (wsV RX8 167 RX8 yX8_firstLine wsX8_firstLine) := goodIn_app (goodIn_of _ (by decide +kernel)) ggX8_linesOf_X8_firstLine
set_option maxRecDepth 20000 in
theorem ggX8_linesOf_X8_endOf : GoodIn wsX8_linesOf wsX8_endOf := goodIn_r _ [22, 18, 10, 11, 12, 4, 13, 14, 15, 16, 17, 23, 24, 25, 26, 27, 28, 29, 30, 31, 32, 33, 34, 35, 36, 37, 38, 39, 40, 41, 42, 43, 44, 45] (by decide +kernel) (by decide +kernel)
set_option maxRecDepth 20000 in
theorem gX8_linesOf_X8_endOf : GoodIn wsX8_linesOf (wsV RX8 124 RX8 yX8_endOf wsX8_endOf) := goodIn_app (goodIn_of _ (by decide +kernel)) ggX8_linesOf_X8_endOf
theorem dX8_linesOf_0 : decode cX8_linesOf 0 = .ok (.aload_n 0, 1) := by decide +kernel
theorem dX8_linesOf_1 : decode cX8_linesOf 1 = .ok (.iload_n 1, 1) := by decide +kernel
theorem dX8_linesOf_2 : decode cX8_linesOf 2 = .ok (.invokevirtual 167, 3) := by decide +kernel
theorem dX8_linesOf_5 : decode cX8_linesOf 5 = .ok (.istore_n 2, 1) := by decide +kernel
theorem dX8_linesOf_6 : decode cX8_linesOf 6 = .ok (.aload_n 0, 1) := by decide +kernel
theorem dX8_linesOf_7 : decode cX8_linesOf 7 = .ok (.iload_n 2, 1) := by decide +kernel
theorem dX8_linesOf_8 : decode cX8_linesOf 8 = .ok (.invokevirtual 124, 3) := by decide +kernel
theorem dX8_linesOf_11 : decode cX8_linesOf 11 = .ok (.iload_n 2, 1) := by decide +kernel
theorem dX8_linesOf_12 : decode cX8_linesOf 12 = .ok (.isub, 1) := by decide +kernel
theorem dX8_linesOf_13 : decode cX8_linesOf 13 = .ok (.ireturn, 1) := by decide +kernel
set_option maxRecDepth 20000 in
theorem ggX8_rhymesOf_X8_firstLine : GoodIn wsX8_rhymesOf wsX8_firstLine := goodIn_r _ [5, 6, 7, 8, 4, 9, 10, 11, 12, 13, 14, 15, 16, 17, 18, 26, 27, 28, 29, 30, 31, 32, 33, 34, 35, 36, 37, 38, 39, 40, 41, 42, 43, 44, 45, 46, 47, 48] (by decide +kernel) (by decide +kernel)
set_option maxRecDepth 20000 in
theorem gX8_rhymesOf_X8_firstLine : GoodIn wsX8_rhymesOf (wsV RX8 167 RX8 yX8_firstLine wsX8_firstLine) := goodIn_app (goodIn_of _ (by decide +kernel)) ggX8_rhymesOf_X8_firstLine
set_option maxRecDepth 20000 in
theorem ggX8_rhymesOf_X8_endOf : GoodIn wsX8_rhymesOf wsX8_endOf := goodIn_r _ [22, 18, 10, 11, 12, 4, 13, 14, 15, 16, 17, 26, 27, 28, 29, 30, 31, 32, 33, 34, 35, 36, 37, 38, 39, 40, 41, 42, 43, 44, 45, 46, 47, 48] (by decide +kernel) (by decide +kernel)
set_option maxRecDepth 20000 in
theorem gX8_rhymesOf_X8_endOf : GoodIn wsX8_rhymesOf (wsV RX8 124 RX8 yX8_endOf wsX8_endOf) := goodIn_app (goodIn_of _ (by decide +kernel)) ggX8_rhymesOf_X8_endOf
set_option maxRecDepth 20000 in
theorem ggX8_rhymesOf_X8_at : GoodIn wsX8_rhymesOf wsX8_at := goodIn_r _ [17, 18, 26, 27, 28, 29, 30, 31, 32, 33, 34, 35, 36, 37, 38, 39, 40, 41, 42, 43, 44, 45, 46, 47, 48] (by decide +kernel) (by decide +kernel)
set_option maxRecDepth 20000 in
theorem gX8_rhymesOf_X8_at : GoodIn wsX8_rhymesOf (wsV RX8 67 RX8 yX8_at wsX8_at) := goodIn_app (goodIn_of _ (by decide +kernel)) ggX8_rhymesOf_X8_at
set_option maxRecDepth 20000 in
theorem ggX8_rhymesOf_X8_ones : GoodIn wsX8_rhymesOf wsX8_ones := goodIn_r _ [25] (by decide +kernel) (by decide +kernel)
set_option maxRecDepth 20000 in
theorem gX8_rhymesOf_X8_ones : GoodIn wsX8_rhymesOf (va_wsS RX8 108 yX8_ones wsX8_ones) := goodIn_app (goodIn_of _ (by decide +kernel)) ggX8_rhymesOf_X8_ones
theorem dX8_rhymesOf_0 : decode cX8_rhymesOf 0 = .ok (.aload_n 0, 1) := by decide +kernel
theorem dX8_rhymesOf_1 : decode cX8_rhymesOf 1 = .ok (.iload_n 1, 1) := by decide +kernel
theorem dX8_rhymesOf_2 : decode cX8_rhymesOf 2 = .ok (.invokevirtual 167, 3) := by decide +kernel
theorem dX8_rhymesOf_5 : decode cX8_rhymesOf 5 = .ok (.istore_n 2, 1) := by decide +kernel
theorem dX8_rhymesOf_6 : decode cX8_rhymesOf 6 = .ok (.iconst 0, 1) := by decide +kernel
theorem dX8_rhymesOf_7 : decode cX8_rhymesOf 7 = .ok (.istore_n 3, 1) := by decide +kernel
theorem dX8_rhymesOf_8 : decode cX8_rhymesOf 8 = .ok (.iload_n 2, 1) := by decide +kernel
theorem dX8_rhymesOf_9 : decode cX8_rhymesOf 9 = .ok (.istore 4, 2) := by decide +kernel
theorem dX8_rhymesOf_11 : decode cX8_rhymesOf 11 = .ok (.iload 4, 2) := by decide +kernel
theorem dX8_rhymesOf_13 : decode cX8_rhymesOf 13 = .ok (.aload_n 0, 1) := by decide +kernel
theorem dX8_rhymesOf_14 : decode cX8_rhymesOf 14 = .ok (.iload_n 2, 1) := by decide +kernel
theorem dX8_rhymesOf_15 : decode cX8_rhymesOf 15 = .ok (.invokevirtual 124, 3) := by decide +kernel
theorem dX8_rhymesOf_18 : decode cX8_rhymesOf 18 = .ok (.if_icmp .ge 21, 3) := by decide +kernel
theorem dX8_rhymesOf_21 : decode cX8_rhymesOf 21 = .ok (.iload_n 3, 1) := by decide +kernel
theorem dX8_rhymesOf_22 : decode cX8_rhymesOf 22 = .ok (.iconst 1, 1) := by decide +kernel
theorem dX8_rhymesOf_23 : decode cX8_rhymesOf 23 = .ok (.aload_n 0, 1) := by decide +kernel
theorem dX8_rhymesOf_24 : decode cX8_rhymesOf 24 = .ok (.iload 4, 2) := by decide +kernel
theorem dX8_rhymesOf_26 : decode cX8_rhymesOf 26 = .ok (.iconst 0, 1) := by decide +kernel
theorem dX8_rhymesOf_27 : decode cX8_rhymesOf 27 = .ok (.invokevirtual 67, 3) := by decide +kernel
theorem dX8_rhymesOf_30 : decode cX8_rhymesOf 30 = .ok (.ishl, 1) := by decide +kernel
theorem dX8_rhymesOf_31 : decode cX8_rhymesOf 31 = .ok (.ior, 1) := by decide +kernel
theorem dX8_rhymesOf_32 : decode cX8_rhymesOf 32 = .ok (.istore_n 3, 1) := by decide +kernel
theorem dX8_rhymesOf_33 : decode cX8_rhymesOf 33 = .ok (.iinc 4 1, 3) := by decide +kernel
theorem dX8_rhymesOf_36 : decode cX8_rhymesOf 36 = .ok (.goto (-25), 3) := by decide +kernel
theorem dX8_rhymesOf_39 : decode cX8_rhymesOf 39 = .ok (.iload_n 3, 1) := by decide +kernel
theorem dX8_rhymesOf_40 : decode cX8_rhymesOf 40 = .ok (.invokestatic 108, 3) := by decide +kernel
theorem dX8_rhymesOf_43 : decode cX8_rhymesOf 43 = .ok (.ireturn, 1) := by decide +kernel
set_option maxRecDepth 20000 in
theorem ggX8_alike_X8_linesOf : GoodIn wsX8_alike wsX8_linesOf := goodIn_r _ [5, 6, 7, 8, 4, 9, 10, 11, 12, 13, 14, 15, 16, 17, 18, 19, 20, 21, 22, 23, 24, 25, 26, 40, 41, 42, 43, 44, 45, 46, 47, 48, 49, 50, 51, 52, 53, 54, 55, 56, 57, 58, 59, 60, 61, 62] (by decide +kernel) (by decide +kernel)
set_option maxRecDepth 20000 in
theorem gX8_alike_X8_linesOf : GoodIn wsX8_alike (wsV RX8 172 RX8 yX8_linesOf wsX8_linesOf) := goodIn_app (goodIn_of _ (by decide +kernel)) ggX8_alike_X8_linesOf
set_option maxRecDepth 20000 in
theorem ggX8_alike_X8_shapeOf : GoodIn wsX8_alike wsX8_shapeOf := goodIn_r _ [30, 31, 6, 7, 8, 4, 9, 10, 11, 12, 13, 14, 15, 16, 17, 18, 19, 20, 21, 22, 23, 24, 25, 26, 32, 33, 34, 35, 36, 37, 38, 39, 40, 41, 42, 43, 44, 45, 46, 47, 48, 49, 50, 51, 52, 53, 54, 55, 56, 57, 58, 59, 60, 61, 62] (by decide +kernel) (by decide +kernel)
set_option maxRecDepth 20000 in
theorem gX8_alike_X8_shapeOf : GoodIn wsX8_alike (wsV RX8 175 RX8 yX8_shapeOf wsX8_shapeOf) := goodIn_app (goodIn_of _ (by decide +kernel)) ggX8_alike_X8_shapeOf
theorem dX8_alike_0 : decode cX8_alike 0 = .ok (.iconst 0, 1) := by decide +kernel
theorem dX8_alike_1 : decode cX8_alike 1 = .ok (.istore_n 2, 1) := by decide +kernel
theorem dX8_alike_2 : decode cX8_alike 2 = .ok (.aload_n 0, 1) := by decide +kernel
theorem dX8_alike_3 : decode cX8_alike 3 = .ok (.iload_n 2, 1) := by decide +kernel
theorem dX8_alike_4 : decode cX8_alike 4 = .ok (.invokevirtual 172, 3) := by decide +kernel
theorem dX8_alike_7 : decode cX8_alike 7 = .ok (.aload_n 0, 1) := by decide +kernel
theorem dX8_alike_8 : decode cX8_alike 8 = .ok (.iload_n 1, 1) := by decide +kernel
theorem dX8_alike_9 : decode cX8_alike 9 = .ok (.invokevirtual 172, 3) := by decide +kernel
theorem dX8_alike_12 : decode cX8_alike 12 = .ok (.if_icmp .ne 17, 3) := by decide +kernel
theorem dX8_alike_15 : decode cX8_alike 15 = .ok (.aload_n 0, 1) := by decide +kernel
theorem dX8_alike_16 : decode cX8_alike 16 = .ok (.iload_n 2, 1) := by decide +kernel
theorem dX8_alike_17 : decode cX8_alike 17 = .ok (.invokevirtual 175, 3) := by decide +kernel
theorem dX8_alike_20 : decode cX8_alike 20 = .ok (.aload_n 0, 1) := by decide +kernel
theorem dX8_alike_21 : decode cX8_alike 21 = .ok (.iload_n 1, 1) := by decide +kernel
theorem dX8_alike_22 : decode cX8_alike 22 = .ok (.invokevirtual 175, 3) := by decide +kernel
theorem dX8_alike_25 : decode cX8_alike 25 = .ok (.lcmp, 1) := by decide +kernel
theorem dX8_alike_26 : decode cX8_alike 26 = .ok (.ifCond .eq 9, 3) := by decide +kernel
theorem dX8_alike_29 : decode cX8_alike 29 = .ok (.iinc 2 1, 3) := by decide +kernel
theorem dX8_alike_32 : decode cX8_alike 32 = .ok (.goto (-30), 3) := by decide +kernel
theorem dX8_alike_35 : decode cX8_alike 35 = .ok (.iload_n 2, 1) := by decide +kernel
theorem dX8_alike_36 : decode cX8_alike 36 = .ok (.ireturn, 1) := by decide +kernel
set_option maxRecDepth 20000 in
theorem ggX8_stanza_X8_stanzas : GoodIn wsX8_stanza wsX8_stanzas := goodIn_r _ [6, 7, 8, 9, 10, 5, 11, 12, 13, 14, 15, 16, 17, 18, 19, 59, 60, 61, 62, 63, 64, 65, 66, 67, 68, 69, 70, 71, 72, 73, 74, 75, 76, 77, 78, 79, 80, 81] (by decide +kernel) (by decide +kernel)
set_option maxRecDepth 20000 in
theorem gX8_stanza_X8_stanzas : GoodIn wsX8_stanza (wsV RX8 154 RX8 yX8_stanzas wsX8_stanzas) := goodIn_app (goodIn_of _ (by decide +kernel)) ggX8_stanza_X8_stanzas
set_option maxRecDepth 20000 in
theorem ggX8_stanza_X8_in : GoodIn wsX8_stanza wsX8_in := goodIn_r _ [22] (by decide +kernel) (by decide +kernel)
set_option maxRecDepth 20000 in
theorem gX8_stanza_X8_in : GoodIn wsX8_stanza (va_wsS RX8 63 yX8_in wsX8_in) := goodIn_app (goodIn_of _ (by decide +kernel)) ggX8_stanza_X8_in
set_option maxRecDepth 20000 in
theorem ggX8_stanza_X8_firstLine : GoodIn wsX8_stanza wsX8_firstLine := goodIn_r _ [26, 8, 9, 10, 5, 11, 12, 13, 14, 15, 16, 17, 18, 19, 7, 59, 60, 61, 62, 63, 64, 65, 66, 67, 68, 69, 70, 71, 72, 73, 74, 75, 76, 77, 78, 79, 80, 81] (by decide +kernel) (by decide +kernel)
set_option maxRecDepth 20000 in
theorem gX8_stanza_X8_firstLine : GoodIn wsX8_stanza (wsV RX8 167 RX8 yX8_firstLine wsX8_firstLine) := goodIn_app (goodIn_of _ (by decide +kernel)) ggX8_stanza_X8_firstLine
set_option maxRecDepth 20000 in
theorem ggX8_stanza_X8_linesOf : GoodIn wsX8_stanza wsX8_linesOf := goodIn_r _ [30, 23, 24, 25, 5, 26, 8, 9, 10, 11, 12, 13, 14, 15, 16, 17, 18, 19, 7, 31, 32, 33, 34, 59, 60, 61, 62, 63, 64, 65, 66, 67, 68, 69, 70, 71, 72, 73, 74, 75, 76, 77, 78, 79, 80, 81] (by decide +kernel) (by decide +kernel)
set_option maxRecDepth 20000 in
theorem gX8_stanza_X8_linesOf : GoodIn wsX8_stanza (wsV RX8 172 RX8 yX8_linesOf wsX8_linesOf) := goodIn_app (goodIn_of _ (by decide +kernel)) ggX8_stanza_X8_linesOf
set_option maxRecDepth 20000 in
theorem ggX8_stanza_X8_rhymesOf : GoodIn wsX8_stanza wsX8_rhymesOf := goodIn_r _ [38, 23, 24, 25, 5, 26, 8, 9, 10, 11, 12, 13, 14, 15, 16, 17, 18, 19, 7, 31, 32, 33, 34, 39, 40, 41, 59, 60, 61, 62, 63, 64, 65, 66, 67, 68, 69, 70, 71, 72, 73, 74, 75, 76, 77, 78, 79, 80, 81] (by decide +kernel) (by decide +kernel)
set_option maxRecDepth 20000 in
theorem gX8_stanza_X8_rhymesOf : GoodIn wsX8_stanza (wsV RX8 181 RX8 yX8_rhymesOf wsX8_rhymesOf) := goodIn_app (goodIn_of _ (by decide +kernel)) ggX8_stanza_X8_rhymesOf
set_option maxRecDepth 20000 in
theorem ggX8_stanza_X8_shapeOf : GoodIn wsX8_stanza wsX8_shapeOf := goodIn_r _ [45, 46, 23, 24, 25, 5, 26, 8, 9, 10, 11, 12, 13, 14, 15, 16, 17, 18, 19, 7, 31, 32, 33, 34, 47, 48, 49, 50, 51, 52, 53, 54, 59, 60, 61, 62, 63, 64, 65, 66, 67, 68, 69, 70, 71, 72, 73, 74, 75, 76, 77, 78, 79, 80, 81] (by decide +kernel) (by decide +kernel)
set_option maxRecDepth 20000 in
theorem gX8_stanza_X8_shapeOf : GoodIn wsX8_stanza (wsV RX8 175 RX8 yX8_shapeOf wsX8_shapeOf) := goodIn_app (goodIn_of _ (by decide +kernel)) ggX8_stanza_X8_shapeOf
set_option maxRecDepth 20000 in
theorem ggX8_stanza_X8_alike : GoodIn wsX8_stanza wsX8_alike := goodIn_r _ [58, 27, 28, 29, 5, 30, 23, 24, 25, 26, 8, 9, 10, 11, 12, 13, 14, 15, 16, 17, 18, 19, 7, 31, 32, 33, 34, 42, 43, 44, 45, 46, 47, 48, 49, 50, 51, 52, 53, 54, 59, 60, 61, 62, 63, 64, 65, 66, 67, 68, 69, 70, 71, 72, 73, 74, 75, 76, 77, 78, 79, 80, 81] (by decide +kernel) (by decide +kernel)
set_option maxRecDepth 20000 in
theorem gX8_stanza_X8_alike : GoodIn wsX8_stanza (wsV RX8 184 RX8 yX8_alike wsX8_alike) := goodIn_app (goodIn_of _ (by decide +kernel)) ggX8_stanza_X8_alike
theorem dX8_stanza_0 : decode cX8_stanza 0 = .ok (.iload_n 1, 1) := by decide +kernel
theorem dX8_stanza_1 : decode cX8_stanza 1 = .ok (.i2l, 1) := by decide +kernel
theorem dX8_stanza_2 : decode cX8_stanza 2 = .ok (.lconst 0, 1) := by decide +kernel
theorem dX8_stanza_3 : decode cX8_stanza 3 = .ok (.aload_n 0, 1) := by decide +kernel
theorem dX8_stanza_4 : decode cX8_stanza 4 = .ok (.invokevirtual 154, 3) := by decide +kernel
theorem dX8_stanza_7 : decode cX8_stanza 7 = .ok (.iconst 1, 1) := by decide +kernel
theorem dX8_stanza_8 : decode cX8_stanza 8 = .ok (.isub, 1) := by decide +kernel
theorem dX8_stanza_9 : decode cX8_stanza 9 = .ok (.i2l, 1) := by decide +kernel
theorem dX8_stanza_10 : decode cX8_stanza 10 = .ok (.invokestatic 63, 3) := by decide +kernel
theorem dX8_stanza_13 : decode cX8_stanza 13 = .ok (.ifCond .ne 7, 3) := by decide +kernel
theorem dX8_stanza_16 : decode cX8_stanza 16 = .ok (.ldc2_w 179, 3) := by decide +kernel
theorem dX8_stanza_19 : decode cX8_stanza 19 = .ok (.lreturn, 1) := by decide +kernel
theorem dX8_stanza_20 : decode cX8_stanza 20 = .ok (.iload_n 2, 1) := by decide +kernel
theorem dX8_stanza_21 : decode cX8_stanza 21 = .ok (.tableswitch 69 0 4 #[35, 42, 49, 56, 62], 35) := by decide +kernel
theorem dX8_stanza_56 : decode cX8_stanza 56 = .ok (.aload_n 0, 1) := by decide +kernel
theorem dX8_stanza_57 : decode cX8_stanza 57 = .ok (.iload_n 1, 1) := by decide +kernel
theorem dX8_stanza_58 : decode cX8_stanza 58 = .ok (.invokevirtual 167, 3) := by decide +kernel
theorem dX8_stanza_61 : decode cX8_stanza 61 = .ok (.i2l, 1) := by decide +kernel
theorem dX8_stanza_62 : decode cX8_stanza 62 = .ok (.lreturn, 1) := by decide +kernel
theorem dX8_stanza_63 : decode cX8_stanza 63 = .ok (.aload_n 0, 1) := by decide +kernel
theorem dX8_stanza_64 : decode cX8_stanza 64 = .ok (.iload_n 1, 1) := by decide +kernel
theorem dX8_stanza_65 : decode cX8_stanza 65 = .ok (.invokevirtual 172, 3) := by decide +kernel
theorem dX8_stanza_68 : decode cX8_stanza 68 = .ok (.i2l, 1) := by decide +kernel
theorem dX8_stanza_69 : decode cX8_stanza 69 = .ok (.lreturn, 1) := by decide +kernel
theorem dX8_stanza_70 : decode cX8_stanza 70 = .ok (.aload_n 0, 1) := by decide +kernel
theorem dX8_stanza_71 : decode cX8_stanza 71 = .ok (.iload_n 1, 1) := by decide +kernel
theorem dX8_stanza_72 : decode cX8_stanza 72 = .ok (.invokevirtual 181, 3) := by decide +kernel
theorem dX8_stanza_75 : decode cX8_stanza 75 = .ok (.i2l, 1) := by decide +kernel
theorem dX8_stanza_76 : decode cX8_stanza 76 = .ok (.lreturn, 1) := by decide +kernel
theorem dX8_stanza_77 : decode cX8_stanza 77 = .ok (.aload_n 0, 1) := by decide +kernel
theorem dX8_stanza_78 : decode cX8_stanza 78 = .ok (.iload_n 1, 1) := by decide +kernel
theorem dX8_stanza_79 : decode cX8_stanza 79 = .ok (.invokevirtual 175, 3) := by decide +kernel
theorem dX8_stanza_82 : decode cX8_stanza 82 = .ok (.lreturn, 1) := by decide +kernel
theorem dX8_stanza_83 : decode cX8_stanza 83 = .ok (.aload_n 0, 1) := by decide +kernel
theorem dX8_stanza_84 : decode cX8_stanza 84 = .ok (.iload_n 1, 1) := by decide +kernel
theorem dX8_stanza_85 : decode cX8_stanza 85 = .ok (.invokevirtual 184, 3) := by decide +kernel
theorem dX8_stanza_88 : decode cX8_stanza 88 = .ok (.i2l, 1) := by decide +kernel
theorem dX8_stanza_89 : decode cX8_stanza 89 = .ok (.lreturn, 1) := by decide +kernel
theorem dX8_stanza_90 : decode cX8_stanza 90 = .ok (.ldc2_w 179, 3) := by decide +kernel
theorem dX8_stanza_93 : decode cX8_stanza 93 = .ok (.lreturn, 1) := by decide +kernel
set_option maxRecDepth 20000 in
theorem ggX8_wholeBy_X8_firstLine : GoodIn wsX8_wholeBy wsX8_firstLine := goodIn_r _ [8, 9, 10, 11, 7, 12, 13, 14, 15, 16, 17, 18, 19, 20, 3, 25, 26, 27, 28, 29, 30, 31, 32, 33, 34, 35, 36, 37, 38, 39, 40, 41, 42, 43, 44, 45, 46, 47] (by decide +kernel) (by decide +kernel)
set_option maxRecDepth 20000 in
theorem gX8_wholeBy_X8_firstLine : GoodIn wsX8_wholeBy (wsV RX8 167 RX8 yX8_firstLine wsX8_firstLine) := goodIn_app (goodIn_of _ (by decide +kernel)) ggX8_wholeBy_X8_firstLine
set_option maxRecDepth 20000 in
theorem ggX8_wholeBy_X8_endOf : GoodIn wsX8_wholeBy wsX8_endOf := goodIn_r _ [24, 3, 13, 14, 15, 7, 16, 17, 18, 19, 20, 25, 26, 27, 28, 29, 30, 31, 32, 33, 34, 35, 36, 37, 38, 39, 40, 41, 42, 43, 44, 45, 46, 47] (by decide +kernel) (by decide +kernel)
set_option maxRecDepth 20000 in
theorem gX8_wholeBy_X8_endOf : GoodIn wsX8_wholeBy (wsV RX8 124 RX8 yX8_endOf wsX8_endOf) := goodIn_app (goodIn_of _ (by decide +kernel)) ggX8_wholeBy_X8_endOf
theorem dX8_wholeBy_0 : decode cX8_wholeBy 0 = .ok (.iconst 0, 1) := by decide +kernel
theorem dX8_wholeBy_1 : decode cX8_wholeBy 1 = .ok (.istore_n 3, 1) := by decide +kernel
theorem dX8_wholeBy_2 : decode cX8_wholeBy 2 = .ok (.iload_n 3, 1) := by decide +kernel
theorem dX8_wholeBy_3 : decode cX8_wholeBy 3 = .ok (.bipush 80, 2) := by decide +kernel
theorem dX8_wholeBy_5 : decode cX8_wholeBy 5 = .ok (.if_icmp .ge 24, 3) := by decide +kernel
theorem dX8_wholeBy_8 : decode cX8_wholeBy 8 = .ok (.aload_n 0, 1) := by decide +kernel
theorem dX8_wholeBy_9 : decode cX8_wholeBy 9 = .ok (.getfield 54, 3) := by decide +kernel
theorem dX8_wholeBy_12 : decode cX8_wholeBy 12 = .ok (.iload_n 3, 1) := by decide +kernel
theorem dX8_wholeBy_13 : decode cX8_wholeBy 13 = .ok (.iload_n 3, 1) := by decide +kernel
theorem dX8_wholeBy_14 : decode cX8_wholeBy 14 = .ok (.ifCond .ne 7, 3) := by decide +kernel
theorem dX8_wholeBy_17 : decode cX8_wholeBy 17 = .ok (.lconst 1, 1) := by decide +kernel
theorem dX8_wholeBy_18 : decode cX8_wholeBy 18 = .ok (.goto 4, 3) := by decide +kernel
theorem dX8_wholeBy_21 : decode cX8_wholeBy 21 = .ok (.lconst 0, 1) := by decide +kernel
theorem dX8_wholeBy_22 : decode cX8_wholeBy 22 = .ok (.lastore, 1) := by decide +kernel
theorem dX8_wholeBy_23 : decode cX8_wholeBy 23 = .ok (.iinc 3 1, 3) := by decide +kernel
theorem dX8_wholeBy_26 : decode cX8_wholeBy 26 = .ok (.goto (-24), 3) := by decide +kernel
theorem dX8_wholeBy_29 : decode cX8_wholeBy 29 = .ok (.aload_n 0, 1) := by decide +kernel
theorem dX8_wholeBy_30 : decode cX8_wholeBy 30 = .ok (.iload_n 1, 1) := by decide +kernel
theorem dX8_wholeBy_31 : decode cX8_wholeBy 31 = .ok (.invokevirtual 167, 3) := by decide +kernel
theorem dX8_wholeBy_34 : decode cX8_wholeBy 34 = .ok (.istore_n 3, 1) := by decide +kernel
theorem dX8_wholeBy_35 : decode cX8_wholeBy 35 = .ok (.iload_n 3, 1) := by decide +kernel
theorem dX8_wholeBy_36 : decode cX8_wholeBy 36 = .ok (.istore 4, 2) := by decide +kernel
theorem dX8_wholeBy_38 : decode cX8_wholeBy 38 = .ok (.iload 4, 2) := by decide +kernel
theorem dX8_wholeBy_40 : decode cX8_wholeBy 40 = .ok (.aload_n 0, 1) := by decide +kernel
theorem dX8_wholeBy_41 : decode cX8_wholeBy 41 = .ok (.iload_n 3, 1) := by decide +kernel
theorem dX8_wholeBy_42 : decode cX8_wholeBy 42 = .ok (.invokevirtual 124, 3) := by decide +kernel
theorem dX8_wholeBy_45 : decode cX8_wholeBy 45 = .ok (.if_icmp .ge 79, 3) := by decide +kernel
theorem dX8_wholeBy_48 : decode cX8_wholeBy 48 = .ok (.bipush 79, 2) := by decide +kernel
theorem dX8_wholeBy_50 : decode cX8_wholeBy 50 = .ok (.istore 5, 2) := by decide +kernel
theorem dX8_wholeBy_52 : decode cX8_wholeBy 52 = .ok (.iload 5, 2) := by decide +kernel
theorem dX8_wholeBy_54 : decode cX8_wholeBy 54 = .ok (.ifCond .lt 64, 3) := by decide +kernel
theorem dX8_wholeBy_57 : decode cX8_wholeBy 57 = .ok (.aload_n 0, 1) := by decide +kernel
theorem dX8_wholeBy_58 : decode cX8_wholeBy 58 = .ok (.getfield 54, 3) := by decide +kernel
theorem dX8_wholeBy_61 : decode cX8_wholeBy 61 = .ok (.iload 5, 2) := by decide +kernel
theorem dX8_wholeBy_63 : decode cX8_wholeBy 63 = .ok (.iload_n 2, 1) := by decide +kernel
theorem dX8_wholeBy_64 : decode cX8_wholeBy 64 = .ok (.i2l, 1) := by decide +kernel
theorem dX8_wholeBy_65 : decode cX8_wholeBy 65 = .ok (.aload_n 0, 1) := by decide +kernel
theorem dX8_wholeBy_66 : decode cX8_wholeBy 66 = .ok (.getfield 54, 3) := by decide +kernel
theorem dX8_wholeBy_69 : decode cX8_wholeBy 69 = .ok (.iload 5, 2) := by decide +kernel
theorem dX8_wholeBy_71 : decode cX8_wholeBy 71 = .ok (.laload, 1) := by decide +kernel
theorem dX8_wholeBy_72 : decode cX8_wholeBy 72 = .ok (.lmul, 1) := by decide +kernel
theorem dX8_wholeBy_73 : decode cX8_wholeBy 73 = .ok (.iload 5, 2) := by decide +kernel
theorem dX8_wholeBy_75 : decode cX8_wholeBy 75 = .ok (.aload_n 0, 1) := by decide +kernel
theorem dX8_wholeBy_76 : decode cX8_wholeBy 76 = .ok (.getfield 42, 3) := by decide +kernel
theorem dX8_wholeBy_79 : decode cX8_wholeBy 79 = .ok (.iload 4, 2) := by decide +kernel
theorem dX8_wholeBy_81 : decode cX8_wholeBy 81 = .ok (.iaload, 1) := by decide +kernel
theorem dX8_wholeBy_82 : decode cX8_wholeBy 82 = .ok (.if_icmp .ge 7, 3) := by decide +kernel
theorem dX8_wholeBy_85 : decode cX8_wholeBy 85 = .ok (.lconst 0, 1) := by decide +kernel
theorem dX8_wholeBy_86 : decode cX8_wholeBy 86 = .ok (.goto 24, 3) := by decide +kernel
theorem dX8_wholeBy_89 : decode cX8_wholeBy 89 = .ok (.bipush 10, 2) := by decide +kernel
theorem dX8_wholeBy_91 : decode cX8_wholeBy 91 = .ok (.iload_n 2, 1) := by decide +kernel
theorem dX8_wholeBy_92 : decode cX8_wholeBy 92 = .ok (.isub, 1) := by decide +kernel
theorem dX8_wholeBy_93 : decode cX8_wholeBy 93 = .ok (.i2l, 1) := by decide +kernel
theorem dX8_wholeBy_94 : decode cX8_wholeBy 94 = .ok (.aload_n 0, 1) := by decide +kernel
theorem dX8_wholeBy_95 : decode cX8_wholeBy 95 = .ok (.getfield 54, 3) := by decide +kernel
theorem dX8_wholeBy_98 : decode cX8_wholeBy 98 = .ok (.iload 5, 2) := by decide +kernel
theorem dX8_wholeBy_100 : decode cX8_wholeBy 100 = .ok (.aload_n 0, 1) := by decide +kernel
theorem dX8_wholeBy_101 : decode cX8_wholeBy 101 = .ok (.getfield 42, 3) := by decide +kernel
theorem dX8_wholeBy_104 : decode cX8_wholeBy 104 = .ok (.iload 4, 2) := by decide +kernel
theorem dX8_wholeBy_106 : decode cX8_wholeBy 106 = .ok (.iaload, 1) := by decide +kernel
theorem dX8_wholeBy_107 : decode cX8_wholeBy 107 = .ok (.isub, 1) := by decide +kernel
theorem dX8_wholeBy_108 : decode cX8_wholeBy 108 = .ok (.laload, 1) := by decide +kernel
theorem dX8_wholeBy_109 : decode cX8_wholeBy 109 = .ok (.lmul, 1) := by decide +kernel
theorem dX8_wholeBy_110 : decode cX8_wholeBy 110 = .ok (.ladd, 1) := by decide +kernel
theorem dX8_wholeBy_111 : decode cX8_wholeBy 111 = .ok (.lastore, 1) := by decide +kernel
theorem dX8_wholeBy_112 : decode cX8_wholeBy 112 = .ok (.iinc 5 (-1), 3) := by decide +kernel
theorem dX8_wholeBy_115 : decode cX8_wholeBy 115 = .ok (.goto (-63), 3) := by decide +kernel
theorem dX8_wholeBy_118 : decode cX8_wholeBy 118 = .ok (.iinc 4 1, 3) := by decide +kernel
theorem dX8_wholeBy_121 : decode cX8_wholeBy 121 = .ok (.goto (-83), 3) := by decide +kernel
theorem dX8_wholeBy_124 : decode cX8_wholeBy 124 = .ok (.lconst 0, 1) := by decide +kernel
theorem dX8_wholeBy_125 : decode cX8_wholeBy 125 = .ok (.lstore 4, 2) := by decide +kernel
theorem dX8_wholeBy_127 : decode cX8_wholeBy 127 = .ok (.iconst 0, 1) := by decide +kernel
theorem dX8_wholeBy_128 : decode cX8_wholeBy 128 = .ok (.istore 6, 2) := by decide +kernel
theorem dX8_wholeBy_130 : decode cX8_wholeBy 130 = .ok (.iload 6, 2) := by decide +kernel
theorem dX8_wholeBy_132 : decode cX8_wholeBy 132 = .ok (.aload_n 0, 1) := by decide +kernel
theorem dX8_wholeBy_133 : decode cX8_wholeBy 133 = .ok (.getfield 7, 3) := by decide +kernel
theorem dX8_wholeBy_136 : decode cX8_wholeBy 136 = .ok (.iconst 5, 1) := by decide +kernel
theorem dX8_wholeBy_137 : decode cX8_wholeBy 137 = .ok (.iaload, 1) := by decide +kernel
theorem dX8_wholeBy_138 : decode cX8_wholeBy 138 = .ok (.if_icmp .gt 21, 3) := by decide +kernel
theorem dX8_wholeBy_141 : decode cX8_wholeBy 141 = .ok (.lload 4, 2) := by decide +kernel
theorem dX8_wholeBy_143 : decode cX8_wholeBy 143 = .ok (.aload_n 0, 1) := by decide +kernel
theorem dX8_wholeBy_144 : decode cX8_wholeBy 144 = .ok (.getfield 54, 3) := by decide +kernel
theorem dX8_wholeBy_147 : decode cX8_wholeBy 147 = .ok (.iload 6, 2) := by decide +kernel
theorem dX8_wholeBy_149 : decode cX8_wholeBy 149 = .ok (.laload, 1) := by decide +kernel
theorem dX8_wholeBy_150 : decode cX8_wholeBy 150 = .ok (.ladd, 1) := by decide +kernel
theorem dX8_wholeBy_151 : decode cX8_wholeBy 151 = .ok (.lstore 4, 2) := by decide +kernel
theorem dX8_wholeBy_153 : decode cX8_wholeBy 153 = .ok (.iinc 6 1, 3) := by decide +kernel
theorem dX8_wholeBy_156 : decode cX8_wholeBy 156 = .ok (.goto (-26), 3) := by decide +kernel
theorem dX8_wholeBy_159 : decode cX8_wholeBy 159 = .ok (.lload 4, 2) := by decide +kernel
theorem dX8_wholeBy_161 : decode cX8_wholeBy 161 = .ok (.lreturn, 1) := by decide +kernel
set_option maxRecDepth 20000 in
theorem ggX8_whole_X8_in : GoodIn wsX8_whole wsX8_in := goodIn_r _ [8] (by decide +kernel) (by decide +kernel)
set_option maxRecDepth 20000 in
theorem gX8_whole_X8_in : GoodIn wsX8_whole (va_wsS RX8 63 yX8_in wsX8_in) := goodIn_app (goodIn_of _ (by decide +kernel)) ggX8_whole_X8_in
set_option maxRecDepth 20000 in
theorem ggX8_whole_X8_sets : GoodIn wsX8_whole wsX8_sets := goodIn_r _ [12, 3, 4, 13, 14, 15, 16, 7, 17, 18, 19, 20, 21, 22, 23, 24, 25, 26, 27, 28, 29, 30, 31, 32, 33, 34, 35, 36, 37, 38, 39, 40, 41, 42, 43, 44, 45, 46, 47, 48, 49, 50, 51, 52, 53, 54, 55, 56, 57, 58, 59, 60, 61, 62, 63, 64, 65, 87, 88, 89, 90, 91, 92, 93, 94, 95, 96, 97, 98, 99, 100, 101, 102, 103, 104, 105, 106, 107, 108, 109] (by decide +kernel) (by decide +kernel)
set_option maxRecDepth 20000 in
theorem gX8_whole_X8_sets : GoodIn wsX8_whole (wsV RX8 127 RX8 yX8_sets wsX8_sets) := goodIn_app (goodIn_of _ (by decide +kernel)) ggX8_whole_X8_sets
set_option maxRecDepth 20000 in
theorem ggX8_whole_X8_stanzas : GoodIn wsX8_whole wsX8_stanzas := goodIn_r _ [69, 4, 70, 71, 72, 7, 73, 51, 52, 53, 54, 31, 32, 33, 34, 87, 88, 89, 90, 91, 92, 93, 94, 95, 96, 97, 98, 99, 100, 101, 102, 103, 104, 105, 106, 107, 108, 109] (by decide +kernel) (by decide +kernel)
set_option maxRecDepth 20000 in
theorem gX8_whole_X8_stanzas : GoodIn wsX8_whole (wsV RX8 154 RX8 yX8_stanzas wsX8_stanzas) := goodIn_app (goodIn_of _ (by decide +kernel)) ggX8_whole_X8_stanzas
set_option maxRecDepth 20000 in
theorem ggX8_whole_X8_wholeBy : GoodIn wsX8_whole wsX8_wholeBy := goodIn_r _ [77, 78, 13, 4, 79, 80, 81, 7, 82, 70, 71, 72, 73, 51, 52, 53, 54, 31, 32, 33, 34, 83, 84, 85, 86, 87, 88, 89, 90, 91, 92, 93, 94, 95, 96, 97, 98, 99, 100, 101, 102, 103, 104, 105, 106, 107, 108, 109] (by decide +kernel) (by decide +kernel)
set_option maxRecDepth 20000 in
theorem gX8_whole_X8_wholeBy : GoodIn wsX8_whole (wsV RX8 187 RX8 yX8_wholeBy wsX8_wholeBy) := goodIn_app (goodIn_of _ (by decide +kernel)) ggX8_whole_X8_wholeBy
theorem dX8_whole_0 : decode cX8_whole 0 = .ok (.iload_n 1, 1) := by decide +kernel
