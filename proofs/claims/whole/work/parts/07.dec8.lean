theorem dX8_init_0 : decode cX8_init 0 = .ok (.aload_n 0, 1) := by decide +kernel
theorem dX8_init_1 : decode cX8_init 1 = .ok (.invokespecial 1, 3) := by decide +kernel
theorem dX8_init_4 : decode cX8_init 4 = .ok (.aload_n 0, 1) := by decide +kernel
theorem dX8_init_5 : decode cX8_init 5 = .ok (.sipush 189, 3) := by decide +kernel
theorem dX8_init_8 : decode cX8_init 8 = .ok (.newarray .int, 2) := by decide +kernel
theorem dX8_init_10 : decode cX8_init 10 = .ok (.putfield 7, 3) := by decide +kernel
theorem dX8_init_13 : decode cX8_init 13 = .ok (.aload_n 0, 1) := by decide +kernel
theorem dX8_init_14 : decode cX8_init 14 = .ok (.sipush 1134, 3) := by decide +kernel
theorem dX8_init_17 : decode cX8_init 17 = .ok (.newarray .int, 2) := by decide +kernel
theorem dX8_init_19 : decode cX8_init 19 = .ok (.putfield 13, 3) := by decide +kernel
theorem dX8_init_22 : decode cX8_init 22 = .ok (.aload_n 0, 1) := by decide +kernel
theorem dX8_init_23 : decode cX8_init 23 = .ok (.sipush 189, 3) := by decide +kernel
theorem dX8_init_26 : decode cX8_init 26 = .ok (.newarray .int, 2) := by decide +kernel
theorem dX8_init_28 : decode cX8_init 28 = .ok (.putfield 16, 3) := by decide +kernel
theorem dX8_init_31 : decode cX8_init 31 = .ok (.aload_n 0, 1) := by decide +kernel
theorem dX8_init_32 : decode cX8_init 32 = .ok (.sipush 1134, 3) := by decide +kernel
theorem dX8_init_35 : decode cX8_init 35 = .ok (.newarray .int, 2) := by decide +kernel
theorem dX8_init_37 : decode cX8_init 37 = .ok (.putfield 19, 3) := by decide +kernel
theorem dX8_init_40 : decode cX8_init 40 = .ok (.aload_n 0, 1) := by decide +kernel
theorem dX8_init_41 : decode cX8_init 41 = .ok (.iconst (-1), 1) := by decide +kernel
theorem dX8_init_42 : decode cX8_init 42 = .ok (.putfield 22, 3) := by decide +kernel
theorem dX8_init_45 : decode cX8_init 45 = .ok (.aload_n 0, 1) := by decide +kernel
theorem dX8_init_46 : decode cX8_init 46 = .ok (.bipush 90, 2) := by decide +kernel
theorem dX8_init_48 : decode cX8_init 48 = .ok (.newarray .int, 2) := by decide +kernel
theorem dX8_init_50 : decode cX8_init 50 = .ok (.putfield 26, 3) := by decide +kernel
theorem dX8_init_53 : decode cX8_init 53 = .ok (.aload_n 0, 1) := by decide +kernel
theorem dX8_init_54 : decode cX8_init 54 = .ok (.iconst 4, 1) := by decide +kernel
theorem dX8_init_55 : decode cX8_init 55 = .ok (.newarray .int, 2) := by decide +kernel
theorem dX8_init_57 : decode cX8_init 57 = .ok (.putfield 29, 3) := by decide +kernel
theorem dX8_init_60 : decode cX8_init 60 = .ok (.aload_n 0, 1) := by decide +kernel
theorem dX8_init_61 : decode cX8_init 61 = .ok (.iconst 4, 1) := by decide +kernel
theorem dX8_init_62 : decode cX8_init 62 = .ok (.newarray .int, 2) := by decide +kernel
theorem dX8_init_64 : decode cX8_init 64 = .ok (.putfield 32, 3) := by decide +kernel
theorem dX8_init_67 : decode cX8_init 67 = .ok (.aload_n 0, 1) := by decide +kernel
theorem dX8_init_68 : decode cX8_init 68 = .ok (.bipush 96, 2) := by decide +kernel
theorem dX8_init_70 : decode cX8_init 70 = .ok (.newarray .long, 2) := by decide +kernel
theorem dX8_init_72 : decode cX8_init 72 = .ok (.putfield 35, 3) := by decide +kernel
theorem dX8_init_75 : decode cX8_init 75 = .ok (.aload_n 0, 1) := by decide +kernel
theorem dX8_init_76 : decode cX8_init 76 = .ok (.bipush 24, 2) := by decide +kernel
theorem dX8_init_78 : decode cX8_init 78 = .ok (.newarray .long, 2) := by decide +kernel
theorem dX8_init_80 : decode cX8_init 80 = .ok (.putfield 39, 3) := by decide +kernel
theorem dX8_init_83 : decode cX8_init 83 = .ok (.aload_n 0, 1) := by decide +kernel
theorem dX8_init_84 : decode cX8_init 84 = .ok (.bipush 12, 2) := by decide +kernel
theorem dX8_init_86 : decode cX8_init 86 = .ok (.newarray .int, 2) := by decide +kernel
theorem dX8_init_88 : decode cX8_init 88 = .ok (.putfield 42, 3) := by decide +kernel
theorem dX8_init_91 : decode cX8_init 91 = .ok (.aload_n 0, 1) := by decide +kernel
theorem dX8_init_92 : decode cX8_init 92 = .ok (.bipush 13, 2) := by decide +kernel
theorem dX8_init_94 : decode cX8_init 94 = .ok (.newarray .int, 2) := by decide +kernel
theorem dX8_init_96 : decode cX8_init 96 = .ok (.putfield 45, 3) := by decide +kernel
theorem dX8_init_99 : decode cX8_init 99 = .ok (.aload_n 0, 1) := by decide +kernel
theorem dX8_init_100 : decode cX8_init 100 = .ok (.bipush 13, 2) := by decide +kernel
theorem dX8_init_102 : decode cX8_init 102 = .ok (.newarray .int, 2) := by decide +kernel
theorem dX8_init_104 : decode cX8_init 104 = .ok (.putfield 48, 3) := by decide +kernel
theorem dX8_init_107 : decode cX8_init 107 = .ok (.aload_n 0, 1) := by decide +kernel
theorem dX8_init_108 : decode cX8_init 108 = .ok (.bipush 13, 2) := by decide +kernel
theorem dX8_init_110 : decode cX8_init 110 = .ok (.newarray .int, 2) := by decide +kernel
theorem dX8_init_112 : decode cX8_init 112 = .ok (.putfield 51, 3) := by decide +kernel
theorem dX8_init_115 : decode cX8_init 115 = .ok (.aload_n 0, 1) := by decide +kernel
theorem dX8_init_116 : decode cX8_init 116 = .ok (.bipush 80, 2) := by decide +kernel
theorem dX8_init_118 : decode cX8_init 118 = .ok (.newarray .long, 2) := by decide +kernel
theorem dX8_init_120 : decode cX8_init 120 = .ok (.putfield 54, 3) := by decide +kernel
theorem dX8_init_123 : decode cX8_init 123 = .ok (.aload_n 0, 1) := by decide +kernel
theorem dX8_init_124 : decode cX8_init 124 = .ok (.sipush 189, 3) := by decide +kernel
theorem dX8_init_127 : decode cX8_init 127 = .ok (.newarray .int, 2) := by decide +kernel
theorem dX8_init_129 : decode cX8_init 129 = .ok (.putfield 57, 3) := by decide +kernel
theorem dX8_init_132 : decode cX8_init 132 = .ok (.aload_n 0, 1) := by decide +kernel
theorem dX8_init_133 : decode cX8_init 133 = .ok (.sipush 180, 3) := by decide +kernel
theorem dX8_init_136 : decode cX8_init 136 = .ok (.newarray .int, 2) := by decide +kernel
theorem dX8_init_138 : decode cX8_init 138 = .ok (.putfield 60, 3) := by decide +kernel
theorem dX8_init_141 : decode cX8_init 141 = .ok (.aload_n 0, 1) := by decide +kernel
theorem dX8_init_142 : decode cX8_init 142 = .ok (.getfield 7, 3) := by decide +kernel
theorem dX8_init_145 : decode cX8_init 145 = .ok (.iconst 1, 1) := by decide +kernel
theorem dX8_init_146 : decode cX8_init 146 = .ok (.iconst 1, 1) := by decide +kernel
theorem dX8_init_147 : decode cX8_init 147 = .ok (.iastore, 1) := by decide +kernel
theorem dX8_init_148 : decode cX8_init 148 = .ok (.aload_n 0, 1) := by decide +kernel
theorem dX8_init_149 : decode cX8_init 149 = .ok (.getfield 7, 3) := by decide +kernel
theorem dX8_init_152 : decode cX8_init 152 = .ok (.iconst 2, 1) := by decide +kernel
theorem dX8_init_153 : decode cX8_init 153 = .ok (.bipush 20, 2) := by decide +kernel
theorem dX8_init_155 : decode cX8_init 155 = .ok (.iastore, 1) := by decide +kernel
theorem dX8_init_156 : decode cX8_init 156 = .ok (.aload_n 0, 1) := by decide +kernel
theorem dX8_init_157 : decode cX8_init 157 = .ok (.getfield 7, 3) := by decide +kernel
theorem dX8_init_160 : decode cX8_init 160 = .ok (.iconst 3, 1) := by decide +kernel
theorem dX8_init_161 : decode cX8_init 161 = .ok (.iconst 2, 1) := by decide +kernel
theorem dX8_init_162 : decode cX8_init 162 = .ok (.iastore, 1) := by decide +kernel
theorem dX8_init_163 : decode cX8_init 163 = .ok (.aload_n 0, 1) := by decide +kernel
theorem dX8_init_164 : decode cX8_init 164 = .ok (.getfield 7, 3) := by decide +kernel
theorem dX8_init_167 : decode cX8_init 167 = .ok (.iconst 4, 1) := by decide +kernel
theorem dX8_init_168 : decode cX8_init 168 = .ok (.iconst 4, 1) := by decide +kernel
theorem dX8_init_169 : decode cX8_init 169 = .ok (.iastore, 1) := by decide +kernel
theorem dX8_init_170 : decode cX8_init 170 = .ok (.aload_n 0, 1) := by decide +kernel
theorem dX8_init_171 : decode cX8_init 171 = .ok (.getfield 7, 3) := by decide +kernel
theorem dX8_init_174 : decode cX8_init 174 = .ok (.iconst 5, 1) := by decide +kernel
theorem dX8_init_175 : decode cX8_init 175 = .ok (.bipush 8, 2) := by decide +kernel
theorem dX8_init_177 : decode cX8_init 177 = .ok (.iastore, 1) := by decide +kernel
theorem dX8_init_178 : decode cX8_init 178 = .ok (.aload_n 0, 1) := by decide +kernel
theorem dX8_init_179 : decode cX8_init 179 = .ok (.getfield 7, 3) := by decide +kernel
theorem dX8_init_182 : decode cX8_init 182 = .ok (.bipush 6, 2) := by decide +kernel
theorem dX8_init_184 : decode cX8_init 184 = .ok (.iconst 2, 1) := by decide +kernel
theorem dX8_init_185 : decode cX8_init 185 = .ok (.iastore, 1) := by decide +kernel
theorem dX8_init_186 : decode cX8_init 186 = .ok (.aload_n 0, 1) := by decide +kernel
theorem dX8_init_187 : decode cX8_init 187 = .ok (.getfield 7, 3) := by decide +kernel
theorem dX8_init_190 : decode cX8_init 190 = .ok (.bipush 8, 2) := by decide +kernel
theorem dX8_init_192 : decode cX8_init 192 = .ok (.iconst 1, 1) := by decide +kernel
theorem dX8_init_193 : decode cX8_init 193 = .ok (.iastore, 1) := by decide +kernel
theorem dX8_init_194 : decode cX8_init 194 = .ok (.iconst 0, 1) := by decide +kernel
theorem dX8_init_195 : decode cX8_init 195 = .ok (.istore_n 1, 1) := by decide +kernel
theorem dX8_init_196 : decode cX8_init 196 = .ok (.iload_n 1, 1) := by decide +kernel
theorem dX8_init_197 : decode cX8_init 197 = .ok (.iconst 4, 1) := by decide +kernel
theorem dX8_init_198 : decode cX8_init 198 = .ok (.if_icmp .ge 16, 3) := by decide +kernel
theorem dX8_init_201 : decode cX8_init 201 = .ok (.aload_n 0, 1) := by decide +kernel
theorem dX8_init_202 : decode cX8_init 202 = .ok (.getfield 29, 3) := by decide +kernel
theorem dX8_init_205 : decode cX8_init 205 = .ok (.iload_n 1, 1) := by decide +kernel
theorem dX8_init_206 : decode cX8_init 206 = .ok (.iconst (-1), 1) := by decide +kernel
theorem dX8_init_207 : decode cX8_init 207 = .ok (.iastore, 1) := by decide +kernel
theorem dX8_init_208 : decode cX8_init 208 = .ok (.iinc 1 1, 3) := by decide +kernel
theorem dX8_init_211 : decode cX8_init 211 = .ok (.goto (-15), 3) := by decide +kernel
theorem dX8_init_214 : decode cX8_init 214 = .ok (.return_, 1) := by decide +kernel
theorem dX8_in_0 : decode cX8_in 0 = .ok (.lload_n 0, 1) := by decide +kernel
theorem dX8_in_1 : decode cX8_in 1 = .ok (.lload_n 2, 1) := by decide +kernel
theorem dX8_in_2 : decode cX8_in 2 = .ok (.lcmp, 1) := by decide +kernel
theorem dX8_in_3 : decode cX8_in 3 = .ok (.ifCond .lt 14, 3) := by decide +kernel
theorem dX8_in_6 : decode cX8_in 6 = .ok (.lload_n 0, 1) := by decide +kernel
theorem dX8_in_7 : decode cX8_in 7 = .ok (.lload 4, 2) := by decide +kernel
theorem dX8_in_9 : decode cX8_in 9 = .ok (.lcmp, 1) := by decide +kernel
theorem dX8_in_10 : decode cX8_in 10 = .ok (.ifCond .gt 7, 3) := by decide +kernel
theorem dX8_in_13 : decode cX8_in 13 = .ok (.iconst 1, 1) := by decide +kernel
theorem dX8_in_14 : decode cX8_in 14 = .ok (.goto 4, 3) := by decide +kernel
theorem dX8_in_17 : decode cX8_in 17 = .ok (.iconst 0, 1) := by decide +kernel
theorem dX8_in_18 : decode cX8_in 18 = .ok (.ireturn, 1) := by decide +kernel
theorem dX8_isLine_0 : decode cX8_isLine 0 = .ok (.iload_n 1, 1) := by decide +kernel
theorem dX8_isLine_1 : decode cX8_isLine 1 = .ok (.i2l, 1) := by decide +kernel
theorem dX8_isLine_2 : decode cX8_isLine 2 = .ok (.lconst 0, 1) := by decide +kernel
theorem dX8_isLine_3 : decode cX8_isLine 3 = .ok (.aload_n 0, 1) := by decide +kernel
theorem dX8_isLine_4 : decode cX8_isLine 4 = .ok (.getfield 7, 3) := by decide +kernel
theorem dX8_isLine_7 : decode cX8_isLine 7 = .ok (.iconst 0, 1) := by decide +kernel
theorem dX8_isLine_8 : decode cX8_isLine 8 = .ok (.iaload, 1) := by decide +kernel
theorem dX8_isLine_9 : decode cX8_isLine 9 = .ok (.iconst 1, 1) := by decide +kernel
theorem dX8_isLine_10 : decode cX8_isLine 10 = .ok (.isub, 1) := by decide +kernel
theorem dX8_isLine_11 : decode cX8_isLine 11 = .ok (.i2l, 1) := by decide +kernel
theorem dX8_isLine_12 : decode cX8_isLine 12 = .ok (.invokestatic 63, 3) := by decide +kernel
theorem dX8_isLine_15 : decode cX8_isLine 15 = .ok (.ireturn, 1) := by decide +kernel
theorem dX8_at_0 : decode cX8_at 0 = .ok (.aload_n 0, 1) := by decide +kernel
theorem dX8_at_1 : decode cX8_at 1 = .ok (.getfield 7, 3) := by decide +kernel
theorem dX8_at_4 : decode cX8_at 4 = .ok (.bipush 9, 2) := by decide +kernel
theorem dX8_at_6 : decode cX8_at 6 = .ok (.bipush 15, 2) := by decide +kernel
theorem dX8_at_8 : decode cX8_at 8 = .ok (.iload_n 1, 1) := by decide +kernel
theorem dX8_at_9 : decode cX8_at 9 = .ok (.imul, 1) := by decide +kernel
theorem dX8_at_10 : decode cX8_at 10 = .ok (.iadd, 1) := by decide +kernel
theorem dX8_at_11 : decode cX8_at 11 = .ok (.iload_n 2, 1) := by decide +kernel
theorem dX8_at_12 : decode cX8_at 12 = .ok (.iadd, 1) := by decide +kernel
theorem dX8_at_13 : decode cX8_at 13 = .ok (.iaload, 1) := by decide +kernel
theorem dX8_at_14 : decode cX8_at 14 = .ok (.ireturn, 1) := by decide +kernel
theorem dX8_words_0 : decode cX8_words 0 = .ok (.aload_n 0, 1) := by decide +kernel
theorem dX8_words_1 : decode cX8_words 1 = .ok (.iload_n 1, 1) := by decide +kernel
theorem dX8_words_2 : decode cX8_words 2 = .ok (.iconst 2, 1) := by decide +kernel
theorem dX8_words_3 : decode cX8_words 3 = .ok (.invokevirtual 67, 3) := by decide +kernel
theorem dX8_words_6 : decode cX8_words 6 = .ok (.ireturn, 1) := by decide +kernel
theorem dX8_begins_0 : decode cX8_begins 0 = .ok (.iload_n 1, 1) := by decide +kernel
theorem dX8_begins_1 : decode cX8_begins 1 = .ok (.ifCond .eq 13, 3) := by decide +kernel
theorem dX8_begins_4 : decode cX8_begins 4 = .ok (.aload_n 0, 1) := by decide +kernel
theorem dX8_begins_5 : decode cX8_begins 5 = .ok (.iload_n 1, 1) := by decide +kernel
theorem dX8_begins_6 : decode cX8_begins 6 = .ok (.iconst 1, 1) := by decide +kernel
theorem dX8_begins_7 : decode cX8_begins 7 = .ok (.invokevirtual 67, 3) := by decide +kernel
theorem dX8_begins_10 : decode cX8_begins 10 = .ok (.iconst 1, 1) := by decide +kernel
theorem dX8_begins_11 : decode cX8_begins 11 = .ok (.if_icmp .ne 7, 3) := by decide +kernel
theorem dX8_begins_14 : decode cX8_begins 14 = .ok (.iconst 1, 1) := by decide +kernel
theorem dX8_begins_15 : decode cX8_begins 15 = .ok (.goto 4, 3) := by decide +kernel
theorem dX8_begins_18 : decode cX8_begins 18 = .ok (.iconst 0, 1) := by decide +kernel
theorem dX8_begins_19 : decode cX8_begins 19 = .ok (.ireturn, 1) := by decide +kernel
theorem dX8_startOf_0 : decode cX8_startOf 0 = .ok (.iload_n 1, 1) := by decide +kernel
theorem dX8_startOf_1 : decode cX8_startOf 1 = .ok (.istore_n 2, 1) := by decide +kernel
theorem dX8_startOf_2 : decode cX8_startOf 2 = .ok (.aload_n 0, 1) := by decide +kernel
theorem dX8_startOf_3 : decode cX8_startOf 3 = .ok (.iload_n 2, 1) := by decide +kernel
theorem dX8_startOf_4 : decode cX8_startOf 4 = .ok (.invokevirtual 71, 3) := by decide +kernel
theorem dX8_startOf_7 : decode cX8_startOf 7 = .ok (.ifCond .ne 9, 3) := by decide +kernel
theorem dX8_startOf_10 : decode cX8_startOf 10 = .ok (.iinc 2 (-1), 3) := by decide +kernel
theorem dX8_startOf_13 : decode cX8_startOf 13 = .ok (.goto (-11), 3) := by decide +kernel
theorem dX8_startOf_16 : decode cX8_startOf 16 = .ok (.iload_n 2, 1) := by decide +kernel
theorem dX8_startOf_17 : decode cX8_startOf 17 = .ok (.ireturn, 1) := by decide +kernel
theorem dX8_endOf_0 : decode cX8_endOf 0 = .ok (.iload_n 1, 1) := by decide +kernel
theorem dX8_endOf_1 : decode cX8_endOf 1 = .ok (.iconst 1, 1) := by decide +kernel
theorem dX8_endOf_2 : decode cX8_endOf 2 = .ok (.iadd, 1) := by decide +kernel
theorem dX8_endOf_3 : decode cX8_endOf 3 = .ok (.istore_n 2, 1) := by decide +kernel
theorem dX8_endOf_4 : decode cX8_endOf 4 = .ok (.iload_n 2, 1) := by decide +kernel
theorem dX8_endOf_5 : decode cX8_endOf 5 = .ok (.aload_n 0, 1) := by decide +kernel
theorem dX8_endOf_6 : decode cX8_endOf 6 = .ok (.getfield 7, 3) := by decide +kernel
theorem dX8_endOf_9 : decode cX8_endOf 9 = .ok (.iconst 0, 1) := by decide +kernel
theorem dX8_endOf_10 : decode cX8_endOf 10 = .ok (.iaload, 1) := by decide +kernel
theorem dX8_endOf_11 : decode cX8_endOf 11 = .ok (.if_icmp .ge 17, 3) := by decide +kernel
theorem dX8_endOf_14 : decode cX8_endOf 14 = .ok (.aload_n 0, 1) := by decide +kernel
theorem dX8_endOf_15 : decode cX8_endOf 15 = .ok (.iload_n 2, 1) := by decide +kernel
theorem dX8_endOf_16 : decode cX8_endOf 16 = .ok (.invokevirtual 71, 3) := by decide +kernel
theorem dX8_endOf_19 : decode cX8_endOf 19 = .ok (.ifCond .ne 9, 3) := by decide +kernel
theorem dX8_endOf_22 : decode cX8_endOf 22 = .ok (.iinc 2 1, 3) := by decide +kernel
theorem dX8_endOf_25 : decode cX8_endOf 25 = .ok (.goto (-21), 3) := by decide +kernel
theorem dX8_endOf_28 : decode cX8_endOf 28 = .ok (.iload_n 2, 1) := by decide +kernel
theorem dX8_endOf_29 : decode cX8_endOf 29 = .ok (.ireturn, 1) := by decide +kernel
theorem dX8_stanzaOf_0 : decode cX8_stanzaOf 0 = .ok (.iconst 0, 1) := by decide +kernel
theorem dX8_stanzaOf_1 : decode cX8_stanzaOf 1 = .ok (.istore_n 2, 1) := by decide +kernel
theorem dX8_stanzaOf_2 : decode cX8_stanzaOf 2 = .ok (.iconst 1, 1) := by decide +kernel
theorem dX8_stanzaOf_3 : decode cX8_stanzaOf 3 = .ok (.istore_n 3, 1) := by decide +kernel
theorem dX8_stanzaOf_4 : decode cX8_stanzaOf 4 = .ok (.iload_n 3, 1) := by decide +kernel
theorem dX8_stanzaOf_5 : decode cX8_stanzaOf 5 = .ok (.iload_n 1, 1) := by decide +kernel
theorem dX8_stanzaOf_6 : decode cX8_stanzaOf 6 = .ok (.if_icmp .gt 25, 3) := by decide +kernel
theorem dX8_stanzaOf_9 : decode cX8_stanzaOf 9 = .ok (.iload_n 2, 1) := by decide +kernel
theorem dX8_stanzaOf_10 : decode cX8_stanzaOf 10 = .ok (.aload_n 0, 1) := by decide +kernel
theorem dX8_stanzaOf_11 : decode cX8_stanzaOf 11 = .ok (.iload_n 3, 1) := by decide +kernel
theorem dX8_stanzaOf_12 : decode cX8_stanzaOf 12 = .ok (.invokevirtual 71, 3) := by decide +kernel
theorem dX8_stanzaOf_15 : decode cX8_stanzaOf 15 = .ok (.ifCond .eq 7, 3) := by decide +kernel
theorem dX8_stanzaOf_18 : decode cX8_stanzaOf 18 = .ok (.iconst 1, 1) := by decide +kernel
theorem dX8_stanzaOf_19 : decode cX8_stanzaOf 19 = .ok (.goto 4, 3) := by decide +kernel
theorem dX8_stanzaOf_22 : decode cX8_stanzaOf 22 = .ok (.iconst 0, 1) := by decide +kernel
theorem dX8_stanzaOf_23 : decode cX8_stanzaOf 23 = .ok (.iadd, 1) := by decide +kernel
theorem dX8_stanzaOf_24 : decode cX8_stanzaOf 24 = .ok (.istore_n 2, 1) := by decide +kernel
theorem dX8_stanzaOf_25 : decode cX8_stanzaOf 25 = .ok (.iinc 3 1, 3) := by decide +kernel
theorem dX8_stanzaOf_28 : decode cX8_stanzaOf 28 = .ok (.goto (-24), 3) := by decide +kernel
theorem dX8_stanzaOf_31 : decode cX8_stanzaOf 31 = .ok (.iload_n 2, 1) := by decide +kernel
theorem dX8_stanzaOf_32 : decode cX8_stanzaOf 32 = .ok (.ireturn, 1) := by decide +kernel
theorem dX8_stanzas_0 : decode cX8_stanzas 0 = .ok (.aload_n 0, 1) := by decide +kernel
theorem dX8_stanzas_1 : decode cX8_stanzas 1 = .ok (.getfield 7, 3) := by decide +kernel
theorem dX8_stanzas_4 : decode cX8_stanzas 4 = .ok (.iconst 0, 1) := by decide +kernel
theorem dX8_stanzas_5 : decode cX8_stanzas 5 = .ok (.iaload, 1) := by decide +kernel
theorem dX8_stanzas_6 : decode cX8_stanzas 6 = .ok (.ifCond .ne 7, 3) := by decide +kernel
theorem dX8_stanzas_9 : decode cX8_stanzas 9 = .ok (.iconst 0, 1) := by decide +kernel
theorem dX8_stanzas_10 : decode cX8_stanzas 10 = .ok (.goto 17, 3) := by decide +kernel
theorem dX8_stanzas_13 : decode cX8_stanzas 13 = .ok (.iconst 1, 1) := by decide +kernel
theorem dX8_stanzas_14 : decode cX8_stanzas 14 = .ok (.aload_n 0, 1) := by decide +kernel
theorem dX8_stanzas_15 : decode cX8_stanzas 15 = .ok (.aload_n 0, 1) := by decide +kernel
theorem dX8_stanzas_16 : decode cX8_stanzas 16 = .ok (.getfield 7, 3) := by decide +kernel
theorem dX8_stanzas_19 : decode cX8_stanzas 19 = .ok (.iconst 0, 1) := by decide +kernel
theorem dX8_stanzas_20 : decode cX8_stanzas 20 = .ok (.iaload, 1) := by decide +kernel
theorem dX8_stanzas_21 : decode cX8_stanzas 21 = .ok (.iconst 1, 1) := by decide +kernel
theorem dX8_stanzas_22 : decode cX8_stanzas 22 = .ok (.isub, 1) := by decide +kernel
theorem dX8_stanzas_23 : decode cX8_stanzas 23 = .ok (.invokevirtual 75, 3) := by decide +kernel
theorem dX8_stanzas_26 : decode cX8_stanzas 26 = .ok (.iadd, 1) := by decide +kernel
theorem dX8_stanzas_27 : decode cX8_stanzas 27 = .ok (.ireturn, 1) := by decide +kernel
theorem dX8_firstLine_0 : decode cX8_firstLine 0 = .ok (.iconst 0, 1) := by decide +kernel
theorem dX8_firstLine_1 : decode cX8_firstLine 1 = .ok (.istore_n 2, 1) := by decide +kernel
theorem dX8_firstLine_2 : decode cX8_firstLine 2 = .ok (.aload_n 0, 1) := by decide +kernel
theorem dX8_firstLine_3 : decode cX8_firstLine 3 = .ok (.iload_n 2, 1) := by decide +kernel
theorem dX8_firstLine_4 : decode cX8_firstLine 4 = .ok (.invokevirtual 75, 3) := by decide +kernel
theorem dX8_firstLine_7 : decode cX8_firstLine 7 = .ok (.iload_n 1, 1) := by decide +kernel
theorem dX8_firstLine_8 : decode cX8_firstLine 8 = .ok (.if_icmp .ge 9, 3) := by decide +kernel
theorem dX8_firstLine_11 : decode cX8_firstLine 11 = .ok (.iinc 2 1, 3) := by decide +kernel
theorem dX8_firstLine_14 : decode cX8_firstLine 14 = .ok (.goto (-12), 3) := by decide +kernel
theorem dX8_firstLine_17 : decode cX8_firstLine 17 = .ok (.iload_n 2, 1) := by decide +kernel
theorem dX8_firstLine_18 : decode cX8_firstLine 18 = .ok (.ireturn, 1) := by decide +kernel
theorem dX8_rank_0 : decode cX8_rank 0 = .ok (.iconst 0, 1) := by decide +kernel
theorem dX8_rank_1 : decode cX8_rank 1 = .ok (.istore_n 2, 1) := by decide +kernel
theorem dX8_rank_2 : decode cX8_rank 2 = .ok (.iconst 0, 1) := by decide +kernel
theorem dX8_rank_3 : decode cX8_rank 3 = .ok (.istore_n 3, 1) := by decide +kernel
theorem dX8_rank_4 : decode cX8_rank 4 = .ok (.aload_n 0, 1) := by decide +kernel
theorem dX8_rank_5 : decode cX8_rank 5 = .ok (.iload_n 1, 1) := by decide +kernel
theorem dX8_rank_6 : decode cX8_rank 6 = .ok (.invokevirtual 79, 3) := by decide +kernel
theorem dX8_rank_9 : decode cX8_rank 9 = .ok (.istore 4, 2) := by decide +kernel
theorem dX8_rank_11 : decode cX8_rank 11 = .ok (.aload_n 0, 1) := by decide +kernel
theorem dX8_rank_12 : decode cX8_rank 12 = .ok (.iload 4, 2) := by decide +kernel
theorem dX8_rank_14 : decode cX8_rank 14 = .ok (.iconst 0, 1) := by decide +kernel
theorem dX8_rank_15 : decode cX8_rank 15 = .ok (.invokevirtual 67, 3) := by decide +kernel
theorem dX8_rank_18 : decode cX8_rank 18 = .ok (.aload_n 0, 1) := by decide +kernel
theorem dX8_rank_19 : decode cX8_rank 19 = .ok (.iload_n 1, 1) := by decide +kernel
theorem dX8_rank_20 : decode cX8_rank 20 = .ok (.iconst 0, 1) := by decide +kernel
theorem dX8_rank_21 : decode cX8_rank 21 = .ok (.invokevirtual 67, 3) := by decide +kernel
theorem dX8_rank_24 : decode cX8_rank 24 = .ok (.if_icmp .eq 43, 3) := by decide +kernel
theorem dX8_rank_27 : decode cX8_rank 27 = .ok (.iload_n 3, 1) := by decide +kernel
theorem dX8_rank_28 : decode cX8_rank 28 = .ok (.iload_n 2, 1) := by decide +kernel
theorem dX8_rank_29 : decode cX8_rank 29 = .ok (.aload_n 0, 1) := by decide +kernel
theorem dX8_rank_30 : decode cX8_rank 30 = .ok (.iload 4, 2) := by decide +kernel
theorem dX8_rank_32 : decode cX8_rank 32 = .ok (.iconst 0, 1) := by decide +kernel
theorem dX8_rank_33 : decode cX8_rank 33 = .ok (.invokevirtual 67, 3) := by decide +kernel
theorem dX8_rank_36 : decode cX8_rank 36 = .ok (.ishr, 1) := by decide +kernel
theorem dX8_rank_37 : decode cX8_rank 37 = .ok (.iconst 1, 1) := by decide +kernel
theorem dX8_rank_38 : decode cX8_rank 38 = .ok (.iand, 1) := by decide +kernel
theorem dX8_rank_39 : decode cX8_rank 39 = .ok (.ifCond .ne 7, 3) := by decide +kernel
theorem dX8_rank_42 : decode cX8_rank 42 = .ok (.iconst 1, 1) := by decide +kernel
theorem dX8_rank_43 : decode cX8_rank 43 = .ok (.goto 4, 3) := by decide +kernel
theorem dX8_rank_46 : decode cX8_rank 46 = .ok (.iconst 0, 1) := by decide +kernel
theorem dX8_rank_47 : decode cX8_rank 47 = .ok (.iadd, 1) := by decide +kernel
theorem dX8_rank_48 : decode cX8_rank 48 = .ok (.istore_n 3, 1) := by decide +kernel
theorem dX8_rank_49 : decode cX8_rank 49 = .ok (.iload_n 2, 1) := by decide +kernel
theorem dX8_rank_50 : decode cX8_rank 50 = .ok (.iconst 1, 1) := by decide +kernel
theorem dX8_rank_51 : decode cX8_rank 51 = .ok (.aload_n 0, 1) := by decide +kernel
theorem dX8_rank_52 : decode cX8_rank 52 = .ok (.iload 4, 2) := by decide +kernel
theorem dX8_rank_54 : decode cX8_rank 54 = .ok (.iconst 0, 1) := by decide +kernel
theorem dX8_rank_55 : decode cX8_rank 55 = .ok (.invokevirtual 67, 3) := by decide +kernel
theorem dX8_rank_58 : decode cX8_rank 58 = .ok (.ishl, 1) := by decide +kernel
theorem dX8_rank_59 : decode cX8_rank 59 = .ok (.ior, 1) := by decide +kernel
theorem dX8_rank_60 : decode cX8_rank 60 = .ok (.istore_n 2, 1) := by decide +kernel
theorem dX8_rank_61 : decode cX8_rank 61 = .ok (.iinc 4 1, 3) := by decide +kernel
theorem dX8_rank_64 : decode cX8_rank 64 = .ok (.goto (-53), 3) := by decide +kernel
theorem dX8_rank_67 : decode cX8_rank 67 = .ok (.iload_n 3, 1) := by decide +kernel
theorem dX8_rank_68 : decode cX8_rank 68 = .ok (.ireturn, 1) := by decide +kernel
theorem dX8_indent_0 : decode cX8_indent 0 = .ok (.aload_n 0, 1) := by decide +kernel
theorem dX8_indent_1 : decode cX8_indent 1 = .ok (.getfield 7, 3) := by decide +kernel
theorem dX8_indent_4 : decode cX8_indent 4 = .ok (.bipush 8, 2) := by decide +kernel
theorem dX8_indent_6 : decode cX8_indent 6 = .ok (.iaload, 1) := by decide +kernel
theorem dX8_indent_7 : decode cX8_indent 7 = .ok (.ifCond .ne 5, 3) := by decide +kernel
theorem dX8_indent_10 : decode cX8_indent 10 = .ok (.iconst 0, 1) := by decide +kernel
theorem dX8_indent_11 : decode cX8_indent 11 = .ok (.ireturn, 1) := by decide +kernel
theorem dX8_indent_12 : decode cX8_indent 12 = .ok (.aload_n 0, 1) := by decide +kernel
theorem dX8_indent_13 : decode cX8_indent 13 = .ok (.getfield 7, 3) := by decide +kernel
theorem dX8_indent_16 : decode cX8_indent 16 = .ok (.iconst 3, 1) := by decide +kernel
theorem dX8_indent_17 : decode cX8_indent 17 = .ok (.iaload, 1) := by decide +kernel
theorem dX8_indent_18 : decode cX8_indent 18 = .ok (.aload_n 0, 1) := by decide +kernel
theorem dX8_indent_19 : decode cX8_indent 19 = .ok (.getfield 7, 3) := by decide +kernel
theorem dX8_indent_22 : decode cX8_indent 22 = .ok (.bipush 8, 2) := by decide +kernel
theorem dX8_indent_24 : decode cX8_indent 24 = .ok (.iaload, 1) := by decide +kernel
theorem dX8_indent_25 : decode cX8_indent 25 = .ok (.iconst 1, 1) := by decide +kernel
theorem dX8_indent_26 : decode cX8_indent 26 = .ok (.if_icmp .ne 11, 3) := by decide +kernel
theorem dX8_indent_29 : decode cX8_indent 29 = .ok (.aload_n 0, 1) := by decide +kernel
theorem dX8_indent_30 : decode cX8_indent 30 = .ok (.iload_n 1, 1) := by decide +kernel
theorem dX8_indent_31 : decode cX8_indent 31 = .ok (.invokevirtual 82, 3) := by decide +kernel
theorem dX8_indent_34 : decode cX8_indent 34 = .ok (.goto 12, 3) := by decide +kernel
theorem dX8_indent_37 : decode cX8_indent 37 = .ok (.iload_n 1, 1) := by decide +kernel
theorem dX8_indent_38 : decode cX8_indent 38 = .ok (.aload_n 0, 1) := by decide +kernel
theorem dX8_indent_39 : decode cX8_indent 39 = .ok (.iload_n 1, 1) := by decide +kernel
theorem dX8_indent_40 : decode cX8_indent 40 = .ok (.invokevirtual 79, 3) := by decide +kernel
theorem dX8_indent_43 : decode cX8_indent 43 = .ok (.isub, 1) := by decide +kernel
theorem dX8_indent_44 : decode cX8_indent 44 = .ok (.iconst 2, 1) := by decide +kernel
theorem dX8_indent_45 : decode cX8_indent 45 = .ok (.irem, 1) := by decide +kernel
theorem dX8_indent_46 : decode cX8_indent 46 = .ok (.imul, 1) := by decide +kernel
theorem dX8_indent_47 : decode cX8_indent 47 = .ok (.ireturn, 1) := by decide +kernel
theorem dX8_breaks_0 : decode cX8_breaks 0 = .ok (.iload_n 3, 1) := by decide +kernel
theorem dX8_breaks_1 : decode cX8_breaks 1 = .ok (.aload_n 0, 1) := by decide +kernel
theorem dX8_breaks_2 : decode cX8_breaks 2 = .ok (.iload_n 1, 1) := by decide +kernel
theorem dX8_breaks_3 : decode cX8_breaks 3 = .ok (.invokevirtual 85, 3) := by decide +kernel
theorem dX8_breaks_6 : decode cX8_breaks 6 = .ok (.iconst 1, 1) := by decide +kernel
theorem dX8_breaks_7 : decode cX8_breaks 7 = .ok (.isub, 1) := by decide +kernel
theorem dX8_breaks_8 : decode cX8_breaks 8 = .ok (.if_icmp .ge 24, 3) := by decide +kernel
theorem dX8_breaks_11 : decode cX8_breaks 11 = .ok (.iload_n 2, 1) := by decide +kernel
theorem dX8_breaks_12 : decode cX8_breaks 12 = .ok (.aload_n 0, 1) := by decide +kernel
theorem dX8_breaks_13 : decode cX8_breaks 13 = .ok (.iload_n 1, 1) := by decide +kernel
theorem dX8_breaks_14 : decode cX8_breaks 14 = .ok (.invokevirtual 85, 3) := by decide +kernel
theorem dX8_breaks_17 : decode cX8_breaks 17 = .ok (.iconst 2, 1) := by decide +kernel
theorem dX8_breaks_18 : decode cX8_breaks 18 = .ok (.isub, 1) := by decide +kernel
theorem dX8_breaks_19 : decode cX8_breaks 19 = .ok (.iload_n 3, 1) := by decide +kernel
theorem dX8_breaks_20 : decode cX8_breaks 20 = .ok (.isub, 1) := by decide +kernel
theorem dX8_breaks_21 : decode cX8_breaks 21 = .ok (.ishr, 1) := by decide +kernel
theorem dX8_breaks_22 : decode cX8_breaks 22 = .ok (.iconst 1, 1) := by decide +kernel
theorem dX8_breaks_23 : decode cX8_breaks 23 = .ok (.iand, 1) := by decide +kernel
theorem dX8_breaks_24 : decode cX8_breaks 24 = .ok (.iconst 1, 1) := by decide +kernel
theorem dX8_breaks_25 : decode cX8_breaks 25 = .ok (.if_icmp .ne 7, 3) := by decide +kernel
theorem dX8_breaks_28 : decode cX8_breaks 28 = .ok (.iconst 1, 1) := by decide +kernel
theorem dX8_breaks_29 : decode cX8_breaks 29 = .ok (.goto 4, 3) := by decide +kernel
theorem dX8_breaks_32 : decode cX8_breaks 32 = .ok (.iconst 0, 1) := by decide +kernel
theorem dX8_breaks_33 : decode cX8_breaks 33 = .ok (.ireturn, 1) := by decide +kernel
theorem dX8_costOfRow_0 : decode cX8_costOfRow 0 = .ok (.bipush 10, 2) := by decide +kernel
theorem dX8_costOfRow_2 : decode cX8_costOfRow 2 = .ok (.iconst 3, 1) := by decide +kernel
theorem dX8_costOfRow_3 : decode cX8_costOfRow 3 = .ok (.iload_n 2, 1) := by decide +kernel
theorem dX8_costOfRow_4 : decode cX8_costOfRow 4 = .ok (.isub, 1) := by decide +kernel
theorem dX8_costOfRow_5 : decode cX8_costOfRow 5 = .ok (.iconst 3, 1) := by decide +kernel
theorem dX8_costOfRow_6 : decode cX8_costOfRow 6 = .ok (.iload_n 2, 1) := by decide +kernel
theorem dX8_costOfRow_7 : decode cX8_costOfRow 7 = .ok (.isub, 1) := by decide +kernel
theorem dX8_costOfRow_8 : decode cX8_costOfRow 8 = .ok (.imul, 1) := by decide +kernel
theorem dX8_costOfRow_9 : decode cX8_costOfRow 9 = .ok (.iadd, 1) := by decide +kernel
theorem dX8_costOfRow_10 : decode cX8_costOfRow 10 = .ok (.istore_n 3, 1) := by decide +kernel
theorem dX8_costOfRow_11 : decode cX8_costOfRow 11 = .ok (.aload_n 0, 1) := by decide +kernel
theorem dX8_costOfRow_12 : decode cX8_costOfRow 12 = .ok (.getfield 7, 3) := by decide +kernel
theorem dX8_costOfRow_15 : decode cX8_costOfRow 15 = .ok (.bipush 7, 2) := by decide +kernel
theorem dX8_costOfRow_17 : decode cX8_costOfRow 17 = .ok (.iaload, 1) := by decide +kernel
theorem dX8_costOfRow_18 : decode cX8_costOfRow 18 = .ok (.ifCond .ne 7, 3) := by decide +kernel
theorem dX8_costOfRow_21 : decode cX8_costOfRow 21 = .ok (.iconst 1, 1) := by decide +kernel
theorem dX8_costOfRow_22 : decode cX8_costOfRow 22 = .ok (.goto 21, 3) := by decide +kernel
theorem dX8_costOfRow_25 : decode cX8_costOfRow 25 = .ok (.aload_n 0, 1) := by decide +kernel
theorem dX8_costOfRow_26 : decode cX8_costOfRow 26 = .ok (.getfield 7, 3) := by decide +kernel
theorem dX8_costOfRow_29 : decode cX8_costOfRow 29 = .ok (.bipush 7, 2) := by decide +kernel
theorem dX8_costOfRow_31 : decode cX8_costOfRow 31 = .ok (.iaload, 1) := by decide +kernel
theorem dX8_costOfRow_32 : decode cX8_costOfRow 32 = .ok (.iconst 1, 1) := by decide +kernel
theorem dX8_costOfRow_33 : decode cX8_costOfRow 33 = .ok (.if_icmp .ne 7, 3) := by decide +kernel
theorem dX8_costOfRow_36 : decode cX8_costOfRow 36 = .ok (.iload_n 3, 1) := by decide +kernel
theorem dX8_costOfRow_37 : decode cX8_costOfRow 37 = .ok (.goto 6, 3) := by decide +kernel
theorem dX8_costOfRow_40 : decode cX8_costOfRow 40 = .ok (.iload_n 1, 1) := by decide +kernel
theorem dX8_costOfRow_41 : decode cX8_costOfRow 41 = .ok (.iload_n 1, 1) := by decide +kernel
theorem dX8_costOfRow_42 : decode cX8_costOfRow 42 = .ok (.imul, 1) := by decide +kernel
theorem dX8_costOfRow_43 : decode cX8_costOfRow 43 = .ok (.ireturn, 1) := by decide +kernel
theorem dX8_costBy_0 : decode cX8_costBy 0 = .ok (.aload_n 0, 1) := by decide +kernel
theorem dX8_costBy_1 : decode cX8_costBy 1 = .ok (.iload_n 1, 1) := by decide +kernel
theorem dX8_costBy_2 : decode cX8_costBy 2 = .ok (.invokevirtual 88, 3) := by decide +kernel
theorem dX8_costBy_5 : decode cX8_costBy 5 = .ok (.istore_n 3, 1) := by decide +kernel
theorem dX8_costBy_6 : decode cX8_costBy 6 = .ok (.iconst 0, 1) := by decide +kernel
theorem dX8_costBy_7 : decode cX8_costBy 7 = .ok (.istore 4, 2) := by decide +kernel
theorem dX8_costBy_9 : decode cX8_costBy 9 = .ok (.iconst 0, 1) := by decide +kernel
theorem dX8_costBy_10 : decode cX8_costBy 10 = .ok (.istore 5, 2) := by decide +kernel
theorem dX8_costBy_12 : decode cX8_costBy 12 = .ok (.iconst 0, 1) := by decide +kernel
theorem dX8_costBy_13 : decode cX8_costBy 13 = .ok (.istore 6, 2) := by decide +kernel
theorem dX8_costBy_15 : decode cX8_costBy 15 = .ok (.iload 6, 2) := by decide +kernel
theorem dX8_costBy_17 : decode cX8_costBy 17 = .ok (.aload_n 0, 1) := by decide +kernel
theorem dX8_costBy_18 : decode cX8_costBy 18 = .ok (.iload_n 1, 1) := by decide +kernel
theorem dX8_costBy_19 : decode cX8_costBy 19 = .ok (.invokevirtual 85, 3) := by decide +kernel
theorem dX8_costBy_22 : decode cX8_costBy 22 = .ok (.if_icmp .ge 103, 3) := by decide +kernel
theorem dX8_costBy_25 : decode cX8_costBy 25 = .ok (.iload 4, 2) := by decide +kernel
theorem dX8_costBy_27 : decode cX8_costBy 27 = .ok (.aload_n 0, 1) := by decide +kernel
theorem dX8_costBy_28 : decode cX8_costBy 28 = .ok (.iload_n 1, 1) := by decide +kernel
theorem dX8_costBy_29 : decode cX8_costBy 29 = .ok (.iconst 3, 1) := by decide +kernel
theorem dX8_costBy_30 : decode cX8_costBy 30 = .ok (.iload 6, 2) := by decide +kernel
theorem dX8_costBy_32 : decode cX8_costBy 32 = .ok (.iadd, 1) := by decide +kernel
theorem dX8_costBy_33 : decode cX8_costBy 33 = .ok (.invokevirtual 67, 3) := by decide +kernel
theorem dX8_costBy_36 : decode cX8_costBy 36 = .ok (.iload 4, 2) := by decide +kernel
theorem dX8_costBy_38 : decode cX8_costBy 38 = .ok (.ifCond .le 7, 3) := by decide +kernel
theorem dX8_costBy_41 : decode cX8_costBy 41 = .ok (.iconst 1, 1) := by decide +kernel
theorem dX8_costBy_42 : decode cX8_costBy 42 = .ok (.goto 4, 3) := by decide +kernel
theorem dX8_costBy_45 : decode cX8_costBy 45 = .ok (.iconst 0, 1) := by decide +kernel
theorem dX8_costBy_46 : decode cX8_costBy 46 = .ok (.iadd, 1) := by decide +kernel
theorem dX8_costBy_47 : decode cX8_costBy 47 = .ok (.iadd, 1) := by decide +kernel
theorem dX8_costBy_48 : decode cX8_costBy 48 = .ok (.istore 4, 2) := by decide +kernel
theorem dX8_costBy_50 : decode cX8_costBy 50 = .ok (.aload_n 0, 1) := by decide +kernel
theorem dX8_costBy_51 : decode cX8_costBy 51 = .ok (.getfield 7, 3) := by decide +kernel
theorem dX8_costBy_54 : decode cX8_costBy 54 = .ok (.iconst 2, 1) := by decide +kernel
theorem dX8_costBy_55 : decode cX8_costBy 55 = .ok (.iaload, 1) := by decide +kernel
theorem dX8_costBy_56 : decode cX8_costBy 56 = .ok (.iload_n 3, 1) := by decide +kernel
theorem dX8_costBy_57 : decode cX8_costBy 57 = .ok (.isub, 1) := by decide +kernel
theorem dX8_costBy_58 : decode cX8_costBy 58 = .ok (.iload 4, 2) := by decide +kernel
theorem dX8_costBy_60 : decode cX8_costBy 60 = .ok (.isub, 1) := by decide +kernel
theorem dX8_costBy_61 : decode cX8_costBy 61 = .ok (.istore 7, 2) := by decide +kernel
theorem dX8_costBy_63 : decode cX8_costBy 63 = .ok (.iload 7, 2) := by decide +kernel
theorem dX8_costBy_65 : decode cX8_costBy 65 = .ok (.ifCond .ge 6, 3) := by decide +kernel
theorem dX8_costBy_68 : decode cX8_costBy 68 = .ok (.bipush (-4), 2) := by decide +kernel
theorem dX8_costBy_70 : decode cX8_costBy 70 = .ok (.ireturn, 1) := by decide +kernel
theorem dX8_costBy_71 : decode cX8_costBy 71 = .ok (.aload_n 0, 1) := by decide +kernel
theorem dX8_costBy_72 : decode cX8_costBy 72 = .ok (.iload_n 1, 1) := by decide +kernel
theorem dX8_costBy_73 : decode cX8_costBy 73 = .ok (.iload_n 2, 1) := by decide +kernel
theorem dX8_costBy_74 : decode cX8_costBy 74 = .ok (.iload 6, 2) := by decide +kernel
theorem dX8_costBy_76 : decode cX8_costBy 76 = .ok (.invokevirtual 91, 3) := by decide +kernel
theorem dX8_costBy_79 : decode cX8_costBy 79 = .ok (.ifCond .eq 40, 3) := by decide +kernel
theorem dX8_costBy_82 : decode cX8_costBy 82 = .ok (.iload 5, 2) := by decide +kernel
theorem dX8_costBy_84 : decode cX8_costBy 84 = .ok (.aload_n 0, 1) := by decide +kernel
theorem dX8_costBy_85 : decode cX8_costBy 85 = .ok (.iload 7, 2) := by decide +kernel
theorem dX8_costBy_87 : decode cX8_costBy 87 = .ok (.aload_n 0, 1) := by decide +kernel
theorem dX8_costBy_88 : decode cX8_costBy 88 = .ok (.iload_n 1, 1) := by decide +kernel
theorem dX8_costBy_89 : decode cX8_costBy 89 = .ok (.bipush 9, 2) := by decide +kernel
theorem dX8_costBy_91 : decode cX8_costBy 91 = .ok (.iload 6, 2) := by decide +kernel
theorem dX8_costBy_93 : decode cX8_costBy 93 = .ok (.iadd, 1) := by decide +kernel
theorem dX8_costBy_94 : decode cX8_costBy 94 = .ok (.invokevirtual 67, 3) := by decide +kernel
theorem dX8_costBy_97 : decode cX8_costBy 97 = .ok (.invokevirtual 95, 3) := by decide +kernel
theorem dX8_costBy_100 : decode cX8_costBy 100 = .ok (.iadd, 1) := by decide +kernel
theorem dX8_costBy_101 : decode cX8_costBy 101 = .ok (.istore 5, 2) := by decide +kernel
theorem dX8_costBy_103 : decode cX8_costBy 103 = .ok (.aload_n 0, 1) := by decide +kernel
theorem dX8_costBy_104 : decode cX8_costBy 104 = .ok (.iload_n 1, 1) := by decide +kernel
theorem dX8_costBy_105 : decode cX8_costBy 105 = .ok (.invokevirtual 88, 3) := by decide +kernel
theorem dX8_costBy_108 : decode cX8_costBy 108 = .ok (.aload_n 0, 1) := by decide +kernel
theorem dX8_costBy_109 : decode cX8_costBy 109 = .ok (.getfield 7, 3) := by decide +kernel
theorem dX8_costBy_112 : decode cX8_costBy 112 = .ok (.iconst 4, 1) := by decide +kernel
theorem dX8_costBy_113 : decode cX8_costBy 113 = .ok (.iaload, 1) := by decide +kernel
theorem dX8_costBy_114 : decode cX8_costBy 114 = .ok (.iadd, 1) := by decide +kernel
theorem dX8_costBy_115 : decode cX8_costBy 115 = .ok (.istore_n 3, 1) := by decide +kernel
theorem dX8_costBy_116 : decode cX8_costBy 116 = .ok (.iconst 0, 1) := by decide +kernel
theorem dX8_costBy_117 : decode cX8_costBy 117 = .ok (.istore 4, 2) := by decide +kernel
theorem dX8_costBy_119 : decode cX8_costBy 119 = .ok (.iinc 6 1, 3) := by decide +kernel
theorem dX8_costBy_122 : decode cX8_costBy 122 = .ok (.goto (-107), 3) := by decide +kernel
theorem dX8_costBy_125 : decode cX8_costBy 125 = .ok (.iload 5, 2) := by decide +kernel
theorem dX8_costBy_127 : decode cX8_costBy 127 = .ok (.ireturn, 1) := by decide +kernel
theorem dX8_codes_0 : decode cX8_codes 0 = .ok (.aload_n 0, 1) := by decide +kernel
theorem dX8_codes_1 : decode cX8_codes 1 = .ok (.iload_n 1, 1) := by decide +kernel
theorem dX8_codes_2 : decode cX8_codes 2 = .ok (.invokevirtual 85, 3) := by decide +kernel
theorem dX8_codes_5 : decode cX8_codes 5 = .ok (.iconst 2, 1) := by decide +kernel
theorem dX8_codes_6 : decode cX8_codes 6 = .ok (.if_icmp .ge 7, 3) := by decide +kernel
theorem dX8_codes_9 : decode cX8_codes 9 = .ok (.iconst 1, 1) := by decide +kernel
theorem dX8_codes_10 : decode cX8_codes 10 = .ok (.goto 12, 3) := by decide +kernel
theorem dX8_codes_13 : decode cX8_codes 13 = .ok (.iconst 1, 1) := by decide +kernel
theorem dX8_codes_14 : decode cX8_codes 14 = .ok (.aload_n 0, 1) := by decide +kernel
theorem dX8_codes_15 : decode cX8_codes 15 = .ok (.iload_n 1, 1) := by decide +kernel
theorem dX8_codes_16 : decode cX8_codes 16 = .ok (.invokevirtual 85, 3) := by decide +kernel
theorem dX8_codes_19 : decode cX8_codes 19 = .ok (.iconst 1, 1) := by decide +kernel
theorem dX8_codes_20 : decode cX8_codes 20 = .ok (.isub, 1) := by decide +kernel
theorem dX8_codes_21 : decode cX8_codes 21 = .ok (.ishl, 1) := by decide +kernel
theorem dX8_codes_22 : decode cX8_codes 22 = .ok (.ireturn, 1) := by decide +kernel
theorem dX8_many_0 : decode cX8_many 0 = .ok (.iconst 0, 1) := by decide +kernel
theorem dX8_many_1 : decode cX8_many 1 = .ok (.istore_n 2, 1) := by decide +kernel
theorem dX8_many_2 : decode cX8_many 2 = .ok (.iconst 0, 1) := by decide +kernel
theorem dX8_many_3 : decode cX8_many 3 = .ok (.istore_n 3, 1) := by decide +kernel
theorem dX8_many_4 : decode cX8_many 4 = .ok (.iload_n 3, 1) := by decide +kernel
theorem dX8_many_5 : decode cX8_many 5 = .ok (.aload_n 0, 1) := by decide +kernel
theorem dX8_many_6 : decode cX8_many 6 = .ok (.iload_n 1, 1) := by decide +kernel
theorem dX8_many_7 : decode cX8_many 7 = .ok (.invokevirtual 98, 3) := by decide +kernel
theorem dX8_many_10 : decode cX8_many 10 = .ok (.if_icmp .ge 26, 3) := by decide +kernel
theorem dX8_many_13 : decode cX8_many 13 = .ok (.iload_n 2, 1) := by decide +kernel
theorem dX8_many_14 : decode cX8_many 14 = .ok (.aload_n 0, 1) := by decide +kernel
theorem dX8_many_15 : decode cX8_many 15 = .ok (.iload_n 1, 1) := by decide +kernel
theorem dX8_many_16 : decode cX8_many 16 = .ok (.iload_n 3, 1) := by decide +kernel
theorem dX8_many_17 : decode cX8_many 17 = .ok (.invokevirtual 101, 3) := by decide +kernel
theorem dX8_many_20 : decode cX8_many 20 = .ok (.ifCond .lt 7, 3) := by decide +kernel
theorem dX8_many_23 : decode cX8_many 23 = .ok (.iconst 1, 1) := by decide +kernel
theorem dX8_many_24 : decode cX8_many 24 = .ok (.goto 4, 3) := by decide +kernel
theorem dX8_many_27 : decode cX8_many 27 = .ok (.iconst 0, 1) := by decide +kernel
theorem dX8_many_28 : decode cX8_many 28 = .ok (.iadd, 1) := by decide +kernel
theorem dX8_many_29 : decode cX8_many 29 = .ok (.istore_n 2, 1) := by decide +kernel
theorem dX8_many_30 : decode cX8_many 30 = .ok (.iinc 3 1, 3) := by decide +kernel
theorem dX8_many_33 : decode cX8_many 33 = .ok (.goto (-29), 3) := by decide +kernel
theorem dX8_many_36 : decode cX8_many 36 = .ok (.iload_n 2, 1) := by decide +kernel
theorem dX8_many_37 : decode cX8_many 37 = .ok (.ireturn, 1) := by decide +kernel
theorem dX8_best_0 : decode cX8_best 0 = .ok (.bipush (-4), 2) := by decide +kernel
theorem dX8_best_2 : decode cX8_best 2 = .ok (.istore_n 2, 1) := by decide +kernel
theorem dX8_best_3 : decode cX8_best 3 = .ok (.ldc 104, 2) := by decide +kernel
theorem dX8_best_5 : decode cX8_best 5 = .ok (.istore_n 3, 1) := by decide +kernel
theorem dX8_best_6 : decode cX8_best 6 = .ok (.iconst 0, 1) := by decide +kernel
theorem dX8_best_7 : decode cX8_best 7 = .ok (.istore 4, 2) := by decide +kernel
theorem dX8_best_9 : decode cX8_best 9 = .ok (.iload 4, 2) := by decide +kernel
theorem dX8_best_11 : decode cX8_best 11 = .ok (.aload_n 0, 1) := by decide +kernel
theorem dX8_best_12 : decode cX8_best 12 = .ok (.iload_n 1, 1) := by decide +kernel
theorem dX8_best_13 : decode cX8_best 13 = .ok (.invokevirtual 98, 3) := by decide +kernel
theorem dX8_best_16 : decode cX8_best 16 = .ok (.if_icmp .ge 35, 3) := by decide +kernel
theorem dX8_best_19 : decode cX8_best 19 = .ok (.aload_n 0, 1) := by decide +kernel
theorem dX8_best_20 : decode cX8_best 20 = .ok (.iload_n 1, 1) := by decide +kernel
theorem dX8_best_21 : decode cX8_best 21 = .ok (.iload 4, 2) := by decide +kernel
theorem dX8_best_23 : decode cX8_best 23 = .ok (.invokevirtual 101, 3) := by decide +kernel
theorem dX8_best_26 : decode cX8_best 26 = .ok (.istore 5, 2) := by decide +kernel
theorem dX8_best_28 : decode cX8_best 28 = .ok (.iload 5, 2) := by decide +kernel
theorem dX8_best_30 : decode cX8_best 30 = .ok (.ifCond .lt 15, 3) := by decide +kernel
theorem dX8_best_33 : decode cX8_best 33 = .ok (.iload 5, 2) := by decide +kernel
theorem dX8_best_35 : decode cX8_best 35 = .ok (.iload_n 3, 1) := by decide +kernel
theorem dX8_best_36 : decode cX8_best 36 = .ok (.if_icmp .ge 9, 3) := by decide +kernel
theorem dX8_best_39 : decode cX8_best 39 = .ok (.iload 4, 2) := by decide +kernel
theorem dX8_best_41 : decode cX8_best 41 = .ok (.istore_n 2, 1) := by decide +kernel
theorem dX8_best_42 : decode cX8_best 42 = .ok (.iload 5, 2) := by decide +kernel
theorem dX8_best_44 : decode cX8_best 44 = .ok (.istore_n 3, 1) := by decide +kernel
theorem dX8_best_45 : decode cX8_best 45 = .ok (.iinc 4 1, 3) := by decide +kernel
theorem dX8_best_48 : decode cX8_best 48 = .ok (.goto (-39), 3) := by decide +kernel
theorem dX8_best_51 : decode cX8_best 51 = .ok (.iload_n 2, 1) := by decide +kernel
theorem dX8_best_52 : decode cX8_best 52 = .ok (.ireturn, 1) := by decide +kernel
theorem dX8_ones_0 : decode cX8_ones 0 = .ok (.iconst 0, 1) := by decide +kernel
theorem dX8_ones_1 : decode cX8_ones 1 = .ok (.istore_n 1, 1) := by decide +kernel
theorem dX8_ones_2 : decode cX8_ones 2 = .ok (.iload_n 0, 1) := by decide +kernel
theorem dX8_ones_3 : decode cX8_ones 3 = .ok (.istore_n 2, 1) := by decide +kernel
theorem dX8_ones_4 : decode cX8_ones 4 = .ok (.iload_n 2, 1) := by decide +kernel
theorem dX8_ones_5 : decode cX8_ones 5 = .ok (.ifCond .eq 15, 3) := by decide +kernel
theorem dX8_ones_8 : decode cX8_ones 8 = .ok (.iinc 1 1, 3) := by decide +kernel
theorem dX8_ones_11 : decode cX8_ones 11 = .ok (.iload_n 2, 1) := by decide +kernel
theorem dX8_ones_12 : decode cX8_ones 12 = .ok (.iload_n 2, 1) := by decide +kernel
theorem dX8_ones_13 : decode cX8_ones 13 = .ok (.iconst 1, 1) := by decide +kernel
theorem dX8_ones_14 : decode cX8_ones 14 = .ok (.isub, 1) := by decide +kernel
theorem dX8_ones_15 : decode cX8_ones 15 = .ok (.iand, 1) := by decide +kernel
theorem dX8_ones_16 : decode cX8_ones 16 = .ok (.istore_n 2, 1) := by decide +kernel
theorem dX8_ones_17 : decode cX8_ones 17 = .ok (.goto (-13), 3) := by decide +kernel
theorem dX8_ones_20 : decode cX8_ones 20 = .ok (.iload_n 1, 1) := by decide +kernel
theorem dX8_ones_21 : decode cX8_ones 21 = .ok (.ireturn, 1) := by decide +kernel
theorem dX8_rowsOf_0 : decode cX8_rowsOf 0 = .ok (.aload_n 0, 1) := by decide +kernel
theorem dX8_rowsOf_1 : decode cX8_rowsOf 1 = .ok (.iload_n 1, 1) := by decide +kernel
theorem dX8_rowsOf_2 : decode cX8_rowsOf 2 = .ok (.invokevirtual 105, 3) := by decide +kernel
theorem dX8_rowsOf_5 : decode cX8_rowsOf 5 = .ok (.ifCond .ge 8, 3) := by decide +kernel
theorem dX8_rowsOf_8 : decode cX8_rowsOf 8 = .ok (.bipush (-4), 2) := by decide +kernel
theorem dX8_rowsOf_10 : decode cX8_rowsOf 10 = .ok (.goto 13, 3) := by decide +kernel
theorem dX8_rowsOf_13 : decode cX8_rowsOf 13 = .ok (.iconst 1, 1) := by decide +kernel
theorem dX8_rowsOf_14 : decode cX8_rowsOf 14 = .ok (.aload_n 0, 1) := by decide +kernel
theorem dX8_rowsOf_15 : decode cX8_rowsOf 15 = .ok (.iload_n 1, 1) := by decide +kernel
theorem dX8_rowsOf_16 : decode cX8_rowsOf 16 = .ok (.invokevirtual 105, 3) := by decide +kernel
theorem dX8_rowsOf_19 : decode cX8_rowsOf 19 = .ok (.invokestatic 108, 3) := by decide +kernel
theorem dX8_rowsOf_22 : decode cX8_rowsOf 22 = .ok (.iadd, 1) := by decide +kernel
theorem dX8_rowsOf_23 : decode cX8_rowsOf 23 = .ok (.ireturn, 1) := by decide +kernel
theorem dX8_costOf_0 : decode cX8_costOf 0 = .ok (.aload_n 0, 1) := by decide +kernel
theorem dX8_costOf_1 : decode cX8_costOf 1 = .ok (.iload_n 1, 1) := by decide +kernel
theorem dX8_costOf_2 : decode cX8_costOf 2 = .ok (.invokevirtual 105, 3) := by decide +kernel
theorem dX8_costOf_5 : decode cX8_costOf 5 = .ok (.ifCond .ge 8, 3) := by decide +kernel
theorem dX8_costOf_8 : decode cX8_costOf 8 = .ok (.bipush (-4), 2) := by decide +kernel
theorem dX8_costOf_10 : decode cX8_costOf 10 = .ok (.goto 13, 3) := by decide +kernel
theorem dX8_costOf_13 : decode cX8_costOf 13 = .ok (.aload_n 0, 1) := by decide +kernel
theorem dX8_costOf_14 : decode cX8_costOf 14 = .ok (.iload_n 1, 1) := by decide +kernel
theorem dX8_costOf_15 : decode cX8_costOf 15 = .ok (.aload_n 0, 1) := by decide +kernel
theorem dX8_costOf_16 : decode cX8_costOf 16 = .ok (.iload_n 1, 1) := by decide +kernel
theorem dX8_costOf_17 : decode cX8_costOf 17 = .ok (.invokevirtual 105, 3) := by decide +kernel
theorem dX8_costOf_20 : decode cX8_costOf 20 = .ok (.invokevirtual 101, 3) := by decide +kernel
theorem dX8_costOf_23 : decode cX8_costOf 23 = .ok (.ireturn, 1) := by decide +kernel
theorem dX8_sets_0 : decode cX8_sets 0 = .ok (.aload_n 0, 1) := by decide +kernel
theorem dX8_sets_1 : decode cX8_sets 1 = .ok (.iconst 1, 1) := by decide +kernel
theorem dX8_sets_2 : decode cX8_sets 2 = .ok (.putfield 111, 3) := by decide +kernel
theorem dX8_sets_5 : decode cX8_sets 5 = .ok (.iconst 0, 1) := by decide +kernel
theorem dX8_sets_6 : decode cX8_sets 6 = .ok (.istore_n 1, 1) := by decide +kernel
theorem dX8_sets_7 : decode cX8_sets 7 = .ok (.iload_n 1, 1) := by decide +kernel
theorem dX8_sets_8 : decode cX8_sets 8 = .ok (.aload_n 0, 1) := by decide +kernel
theorem dX8_sets_9 : decode cX8_sets 9 = .ok (.getfield 7, 3) := by decide +kernel
theorem dX8_sets_12 : decode cX8_sets 12 = .ok (.iconst 0, 1) := by decide +kernel
theorem dX8_sets_13 : decode cX8_sets 13 = .ok (.iaload, 1) := by decide +kernel
theorem dX8_sets_14 : decode cX8_sets 14 = .ok (.if_icmp .ge 45, 3) := by decide +kernel
theorem dX8_sets_17 : decode cX8_sets 17 = .ok (.aload_n 0, 1) := by decide +kernel
theorem dX8_sets_18 : decode cX8_sets 18 = .ok (.getfield 42, 3) := by decide +kernel
theorem dX8_sets_21 : decode cX8_sets 21 = .ok (.iload_n 1, 1) := by decide +kernel
theorem dX8_sets_22 : decode cX8_sets 22 = .ok (.aload_n 0, 1) := by decide +kernel
theorem dX8_sets_23 : decode cX8_sets 23 = .ok (.iload_n 1, 1) := by decide +kernel
theorem dX8_sets_24 : decode cX8_sets 24 = .ok (.invokevirtual 115, 3) := by decide +kernel
theorem dX8_sets_27 : decode cX8_sets 27 = .ok (.iastore, 1) := by decide +kernel
theorem dX8_sets_28 : decode cX8_sets 28 = .ok (.aload_n 0, 1) := by decide +kernel
theorem dX8_sets_29 : decode cX8_sets 29 = .ok (.aload_n 0, 1) := by decide +kernel
theorem dX8_sets_30 : decode cX8_sets 30 = .ok (.getfield 111, 3) := by decide +kernel
theorem dX8_sets_33 : decode cX8_sets 33 = .ok (.ifCond .eq 16, 3) := by decide +kernel
theorem dX8_sets_36 : decode cX8_sets 36 = .ok (.aload_n 0, 1) := by decide +kernel
theorem dX8_sets_37 : decode cX8_sets 37 = .ok (.getfield 42, 3) := by decide +kernel
theorem dX8_sets_40 : decode cX8_sets 40 = .ok (.iload_n 1, 1) := by decide +kernel
theorem dX8_sets_41 : decode cX8_sets 41 = .ok (.iaload, 1) := by decide +kernel
theorem dX8_sets_42 : decode cX8_sets 42 = .ok (.ifCond .le 7, 3) := by decide +kernel
theorem dX8_sets_45 : decode cX8_sets 45 = .ok (.iconst 1, 1) := by decide +kernel
theorem dX8_sets_46 : decode cX8_sets 46 = .ok (.goto 4, 3) := by decide +kernel
theorem dX8_sets_49 : decode cX8_sets 49 = .ok (.iconst 0, 1) := by decide +kernel
theorem dX8_sets_50 : decode cX8_sets 50 = .ok (.putfield 111, 3) := by decide +kernel
theorem dX8_sets_53 : decode cX8_sets 53 = .ok (.iinc 1 1, 3) := by decide +kernel
theorem dX8_sets_56 : decode cX8_sets 56 = .ok (.goto (-49), 3) := by decide +kernel
theorem dX8_sets_59 : decode cX8_sets 59 = .ok (.return_, 1) := by decide +kernel
theorem dX8_allCosts_0 : decode cX8_allCosts 0 = .ok (.iconst 0, 1) := by decide +kernel
theorem dX8_allCosts_1 : decode cX8_allCosts 1 = .ok (.istore_n 1, 1) := by decide +kernel
theorem dX8_allCosts_2 : decode cX8_allCosts 2 = .ok (.iconst 0, 1) := by decide +kernel
theorem dX8_allCosts_3 : decode cX8_allCosts 3 = .ok (.istore_n 2, 1) := by decide +kernel
theorem dX8_allCosts_4 : decode cX8_allCosts 4 = .ok (.iload_n 2, 1) := by decide +kernel
theorem dX8_allCosts_5 : decode cX8_allCosts 5 = .ok (.aload_n 0, 1) := by decide +kernel
theorem dX8_allCosts_6 : decode cX8_allCosts 6 = .ok (.getfield 7, 3) := by decide +kernel
theorem dX8_allCosts_9 : decode cX8_allCosts 9 = .ok (.iconst 0, 1) := by decide +kernel
theorem dX8_allCosts_10 : decode cX8_allCosts 10 = .ok (.iaload, 1) := by decide +kernel
theorem dX8_allCosts_11 : decode cX8_allCosts 11 = .ok (.if_icmp .ge 26, 3) := by decide +kernel
theorem dX8_allCosts_14 : decode cX8_allCosts 14 = .ok (.aload_n 0, 1) := by decide +kernel
theorem dX8_allCosts_15 : decode cX8_allCosts 15 = .ok (.iload_n 2, 1) := by decide +kernel
theorem dX8_allCosts_16 : decode cX8_allCosts 16 = .ok (.invokevirtual 118, 3) := by decide +kernel
theorem dX8_allCosts_19 : decode cX8_allCosts 19 = .ok (.istore_n 3, 1) := by decide +kernel
theorem dX8_allCosts_20 : decode cX8_allCosts 20 = .ok (.iload_n 3, 1) := by decide +kernel
theorem dX8_allCosts_21 : decode cX8_allCosts 21 = .ok (.ifCond .ge 6, 3) := by decide +kernel
theorem dX8_allCosts_24 : decode cX8_allCosts 24 = .ok (.bipush (-4), 2) := by decide +kernel
theorem dX8_allCosts_26 : decode cX8_allCosts 26 = .ok (.ireturn, 1) := by decide +kernel
theorem dX8_allCosts_27 : decode cX8_allCosts 27 = .ok (.iload_n 1, 1) := by decide +kernel
theorem dX8_allCosts_28 : decode cX8_allCosts 28 = .ok (.iload_n 3, 1) := by decide +kernel
theorem dX8_allCosts_29 : decode cX8_allCosts 29 = .ok (.iadd, 1) := by decide +kernel
theorem dX8_allCosts_30 : decode cX8_allCosts 30 = .ok (.istore_n 1, 1) := by decide +kernel
theorem dX8_allCosts_31 : decode cX8_allCosts 31 = .ok (.iinc 2 1, 3) := by decide +kernel
theorem dX8_allCosts_34 : decode cX8_allCosts 34 = .ok (.goto (-30), 3) := by decide +kernel
theorem dX8_allCosts_37 : decode cX8_allCosts 37 = .ok (.iload_n 1, 1) := by decide +kernel
theorem dX8_allCosts_38 : decode cX8_allCosts 38 = .ok (.ireturn, 1) := by decide +kernel
theorem dX8_rowsFrom_0 : decode cX8_rowsFrom 0 = .ok (.iconst 0, 1) := by decide +kernel
theorem dX8_rowsFrom_1 : decode cX8_rowsFrom 1 = .ok (.istore_n 3, 1) := by decide +kernel
theorem dX8_rowsFrom_2 : decode cX8_rowsFrom 2 = .ok (.iload_n 1, 1) := by decide +kernel
theorem dX8_rowsFrom_3 : decode cX8_rowsFrom 3 = .ok (.istore 4, 2) := by decide +kernel
theorem dX8_rowsFrom_5 : decode cX8_rowsFrom 5 = .ok (.iload 4, 2) := by decide +kernel
theorem dX8_rowsFrom_7 : decode cX8_rowsFrom 7 = .ok (.iload_n 2, 1) := by decide +kernel
theorem dX8_rowsFrom_8 : decode cX8_rowsFrom 8 = .ok (.if_icmp .ge 40, 3) := by decide +kernel
theorem dX8_rowsFrom_11 : decode cX8_rowsFrom 11 = .ok (.iload_n 3, 1) := by decide +kernel
theorem dX8_rowsFrom_12 : decode cX8_rowsFrom 12 = .ok (.aload_n 0, 1) := by decide +kernel
theorem dX8_rowsFrom_13 : decode cX8_rowsFrom 13 = .ok (.getfield 42, 3) := by decide +kernel
theorem dX8_rowsFrom_16 : decode cX8_rowsFrom 16 = .ok (.iload 4, 2) := by decide +kernel
theorem dX8_rowsFrom_18 : decode cX8_rowsFrom 18 = .ok (.iaload, 1) := by decide +kernel
theorem dX8_rowsFrom_19 : decode cX8_rowsFrom 19 = .ok (.iload 4, 2) := by decide +kernel
theorem dX8_rowsFrom_21 : decode cX8_rowsFrom 21 = .ok (.iload_n 1, 1) := by decide +kernel
theorem dX8_rowsFrom_22 : decode cX8_rowsFrom 22 = .ok (.if_icmp .le 16, 3) := by decide +kernel
theorem dX8_rowsFrom_25 : decode cX8_rowsFrom 25 = .ok (.aload_n 0, 1) := by decide +kernel
theorem dX8_rowsFrom_26 : decode cX8_rowsFrom 26 = .ok (.iload 4, 2) := by decide +kernel
theorem dX8_rowsFrom_28 : decode cX8_rowsFrom 28 = .ok (.invokevirtual 71, 3) := by decide +kernel
theorem dX8_rowsFrom_31 : decode cX8_rowsFrom 31 = .ok (.ifCond .eq 7, 3) := by decide +kernel
theorem dX8_rowsFrom_34 : decode cX8_rowsFrom 34 = .ok (.iconst 1, 1) := by decide +kernel
theorem dX8_rowsFrom_35 : decode cX8_rowsFrom 35 = .ok (.goto 4, 3) := by decide +kernel
theorem dX8_rowsFrom_38 : decode cX8_rowsFrom 38 = .ok (.iconst 0, 1) := by decide +kernel
theorem dX8_rowsFrom_39 : decode cX8_rowsFrom 39 = .ok (.iadd, 1) := by decide +kernel
theorem dX8_rowsFrom_40 : decode cX8_rowsFrom 40 = .ok (.iadd, 1) := by decide +kernel
theorem dX8_rowsFrom_41 : decode cX8_rowsFrom 41 = .ok (.istore_n 3, 1) := by decide +kernel
theorem dX8_rowsFrom_42 : decode cX8_rowsFrom 42 = .ok (.iinc 4 1, 3) := by decide +kernel
theorem dX8_rowsFrom_45 : decode cX8_rowsFrom 45 = .ok (.goto (-40), 3) := by decide +kernel
theorem dX8_rowsFrom_48 : decode cX8_rowsFrom 48 = .ok (.iload_n 3, 1) := by decide +kernel
theorem dX8_rowsFrom_49 : decode cX8_rowsFrom 49 = .ok (.ireturn, 1) := by decide +kernel
theorem dX8_ends_0 : decode cX8_ends 0 = .ok (.aload_n 0, 1) := by decide +kernel
theorem dX8_ends_1 : decode cX8_ends 1 = .ok (.iload_n 1, 1) := by decide +kernel
theorem dX8_ends_2 : decode cX8_ends 2 = .ok (.iload_n 2, 1) := by decide +kernel
theorem dX8_ends_3 : decode cX8_ends 3 = .ok (.invokevirtual 121, 3) := by decide +kernel
theorem dX8_ends_6 : decode cX8_ends 6 = .ok (.aload_n 0, 1) := by decide +kernel
theorem dX8_ends_7 : decode cX8_ends 7 = .ok (.getfield 7, 3) := by decide +kernel
theorem dX8_ends_10 : decode cX8_ends 10 = .ok (.iconst 5, 1) := by decide +kernel
theorem dX8_ends_11 : decode cX8_ends 11 = .ok (.iaload, 1) := by decide +kernel
theorem dX8_ends_12 : decode cX8_ends 12 = .ok (.if_icmp .le 6, 3) := by decide +kernel
theorem dX8_ends_15 : decode cX8_ends 15 = .ok (.bipush (-4), 2) := by decide +kernel
theorem dX8_ends_17 : decode cX8_ends 17 = .ok (.ireturn, 1) := by decide +kernel
theorem dX8_ends_18 : decode cX8_ends 18 = .ok (.iload_n 2, 1) := by decide +kernel
theorem dX8_ends_19 : decode cX8_ends 19 = .ok (.aload_n 0, 1) := by decide +kernel
theorem dX8_ends_20 : decode cX8_ends 20 = .ok (.getfield 7, 3) := by decide +kernel
theorem dX8_ends_23 : decode cX8_ends 23 = .ok (.iconst 0, 1) := by decide +kernel
theorem dX8_ends_24 : decode cX8_ends 24 = .ok (.iaload, 1) := by decide +kernel
theorem dX8_ends_25 : decode cX8_ends 25 = .ok (.if_icmp .eq 11, 3) := by decide +kernel
theorem dX8_ends_28 : decode cX8_ends 28 = .ok (.aload_n 0, 1) := by decide +kernel
theorem dX8_ends_29 : decode cX8_ends 29 = .ok (.iload_n 2, 1) := by decide +kernel
theorem dX8_ends_30 : decode cX8_ends 30 = .ok (.invokevirtual 71, 3) := by decide +kernel
theorem dX8_ends_33 : decode cX8_ends 33 = .ok (.ifCond .eq 5, 3) := by decide +kernel
theorem dX8_ends_36 : decode cX8_ends 36 = .ok (.iconst 0, 1) := by decide +kernel
theorem dX8_ends_37 : decode cX8_ends 37 = .ok (.ireturn, 1) := by decide +kernel
theorem dX8_ends_38 : decode cX8_ends 38 = .ok (.aload_n 0, 1) := by decide +kernel
theorem dX8_ends_39 : decode cX8_ends 39 = .ok (.iload_n 2, 1) := by decide +kernel
theorem dX8_ends_40 : decode cX8_ends 40 = .ok (.invokevirtual 79, 3) := by decide +kernel
theorem dX8_ends_43 : decode cX8_ends 43 = .ok (.iload_n 1, 1) := by decide +kernel
theorem dX8_ends_44 : decode cX8_ends 44 = .ok (.if_icmp .le 11, 3) := by decide +kernel
theorem dX8_ends_47 : decode cX8_ends 47 = .ok (.aload_n 0, 1) := by decide +kernel
theorem dX8_ends_48 : decode cX8_ends 48 = .ok (.iload_n 2, 1) := by decide +kernel
theorem dX8_ends_49 : decode cX8_ends 49 = .ok (.invokevirtual 79, 3) := by decide +kernel
theorem dX8_ends_52 : decode cX8_ends 52 = .ok (.goto 4, 3) := by decide +kernel
theorem dX8_ends_55 : decode cX8_ends 55 = .ok (.iload_n 1, 1) := by decide +kernel
theorem dX8_ends_56 : decode cX8_ends 56 = .ok (.istore_n 3, 1) := by decide +kernel
theorem dX8_ends_57 : decode cX8_ends 57 = .ok (.iload_n 2, 1) := by decide +kernel
theorem dX8_ends_58 : decode cX8_ends 58 = .ok (.iload_n 3, 1) := by decide +kernel
theorem dX8_ends_59 : decode cX8_ends 59 = .ok (.isub, 1) := by decide +kernel
theorem dX8_ends_60 : decode cX8_ends 60 = .ok (.aload_n 0, 1) := by decide +kernel
theorem dX8_ends_61 : decode cX8_ends 61 = .ok (.getfield 7, 3) := by decide +kernel
theorem dX8_ends_64 : decode cX8_ends 64 = .ok (.bipush 6, 2) := by decide +kernel
theorem dX8_ends_66 : decode cX8_ends 66 = .ok (.iaload, 1) := by decide +kernel
theorem dX8_ends_67 : decode cX8_ends 67 = .ok (.if_icmp .lt 24, 3) := by decide +kernel
theorem dX8_ends_70 : decode cX8_ends 70 = .ok (.aload_n 0, 1) := by decide +kernel
theorem dX8_ends_71 : decode cX8_ends 71 = .ok (.iload_n 2, 1) := by decide +kernel
theorem dX8_ends_72 : decode cX8_ends 72 = .ok (.invokevirtual 124, 3) := by decide +kernel
theorem dX8_ends_75 : decode cX8_ends 75 = .ok (.iload_n 2, 1) := by decide +kernel
theorem dX8_ends_76 : decode cX8_ends 76 = .ok (.isub, 1) := by decide +kernel
theorem dX8_ends_77 : decode cX8_ends 77 = .ok (.aload_n 0, 1) := by decide +kernel
theorem dX8_ends_78 : decode cX8_ends 78 = .ok (.getfield 7, 3) := by decide +kernel
theorem dX8_ends_81 : decode cX8_ends 81 = .ok (.bipush 6, 2) := by decide +kernel
theorem dX8_ends_83 : decode cX8_ends 83 = .ok (.iaload, 1) := by decide +kernel
theorem dX8_ends_84 : decode cX8_ends 84 = .ok (.if_icmp .lt 7, 3) := by decide +kernel
theorem dX8_ends_87 : decode cX8_ends 87 = .ok (.iconst 1, 1) := by decide +kernel
theorem dX8_ends_88 : decode cX8_ends 88 = .ok (.goto 5, 3) := by decide +kernel
theorem dX8_ends_91 : decode cX8_ends 91 = .ok (.bipush (-4), 2) := by decide +kernel
theorem dX8_ends_93 : decode cX8_ends 93 = .ok (.ireturn, 1) := by decide +kernel
theorem dX8_lays_0 : decode cX8_lays 0 = .ok (.aload_n 0, 1) := by decide +kernel
theorem dX8_lays_1 : decode cX8_lays 1 = .ok (.invokevirtual 127, 3) := by decide +kernel
theorem dX8_lays_4 : decode cX8_lays 4 = .ok (.aload_n 0, 1) := by decide +kernel
theorem dX8_lays_5 : decode cX8_lays 5 = .ok (.getfield 7, 3) := by decide +kernel
theorem dX8_lays_8 : decode cX8_lays 8 = .ok (.iconst 0, 1) := by decide +kernel
theorem dX8_lays_9 : decode cX8_lays 9 = .ok (.iaload, 1) := by decide +kernel
theorem dX8_lays_10 : decode cX8_lays 10 = .ok (.istore_n 1, 1) := by decide +kernel
theorem dX8_lays_11 : decode cX8_lays 11 = .ok (.aload_n 0, 1) := by decide +kernel
theorem dX8_lays_12 : decode cX8_lays 12 = .ok (.getfield 45, 3) := by decide +kernel
theorem dX8_lays_15 : decode cX8_lays 15 = .ok (.iload_n 1, 1) := by decide +kernel
theorem dX8_lays_16 : decode cX8_lays 16 = .ok (.iconst 0, 1) := by decide +kernel
theorem dX8_lays_17 : decode cX8_lays 17 = .ok (.iastore, 1) := by decide +kernel
theorem dX8_lays_18 : decode cX8_lays 18 = .ok (.aload_n 0, 1) := by decide +kernel
theorem dX8_lays_19 : decode cX8_lays 19 = .ok (.getfield 48, 3) := by decide +kernel
theorem dX8_lays_22 : decode cX8_lays 22 = .ok (.iload_n 1, 1) := by decide +kernel
theorem dX8_lays_23 : decode cX8_lays 23 = .ok (.iconst 0, 1) := by decide +kernel
theorem dX8_lays_24 : decode cX8_lays 24 = .ok (.iastore, 1) := by decide +kernel
theorem dX8_lays_25 : decode cX8_lays 25 = .ok (.iload_n 1, 1) := by decide +kernel
theorem dX8_lays_26 : decode cX8_lays 26 = .ok (.iconst 1, 1) := by decide +kernel
theorem dX8_lays_27 : decode cX8_lays 27 = .ok (.isub, 1) := by decide +kernel
theorem dX8_lays_28 : decode cX8_lays 28 = .ok (.istore_n 2, 1) := by decide +kernel
theorem dX8_lays_29 : decode cX8_lays 29 = .ok (.iload_n 2, 1) := by decide +kernel
theorem dX8_lays_30 : decode cX8_lays 30 = .ok (.ifCond .lt 157, 3) := by decide +kernel
theorem dX8_lays_33 : decode cX8_lays 33 = .ok (.aload_n 0, 1) := by decide +kernel
theorem dX8_lays_34 : decode cX8_lays 34 = .ok (.getfield 45, 3) := by decide +kernel
theorem dX8_lays_37 : decode cX8_lays 37 = .ok (.iload_n 2, 1) := by decide +kernel
theorem dX8_lays_38 : decode cX8_lays 38 = .ok (.ldc 104, 2) := by decide +kernel
theorem dX8_lays_40 : decode cX8_lays 40 = .ok (.iastore, 1) := by decide +kernel
theorem dX8_lays_41 : decode cX8_lays 41 = .ok (.aload_n 0, 1) := by decide +kernel
theorem dX8_lays_42 : decode cX8_lays 42 = .ok (.getfield 48, 3) := by decide +kernel
theorem dX8_lays_45 : decode cX8_lays 45 = .ok (.iload_n 2, 1) := by decide +kernel
theorem dX8_lays_46 : decode cX8_lays 46 = .ok (.iconst 0, 1) := by decide +kernel
theorem dX8_lays_47 : decode cX8_lays 47 = .ok (.iastore, 1) := by decide +kernel
theorem dX8_lays_48 : decode cX8_lays 48 = .ok (.iload_n 2, 1) := by decide +kernel
theorem dX8_lays_49 : decode cX8_lays 49 = .ok (.iconst 1, 1) := by decide +kernel
theorem dX8_lays_50 : decode cX8_lays 50 = .ok (.iadd, 1) := by decide +kernel
theorem dX8_lays_51 : decode cX8_lays 51 = .ok (.istore_n 3, 1) := by decide +kernel
theorem dX8_lays_52 : decode cX8_lays 52 = .ok (.iload_n 3, 1) := by decide +kernel
theorem dX8_lays_53 : decode cX8_lays 53 = .ok (.iload_n 1, 1) := by decide +kernel
theorem dX8_lays_54 : decode cX8_lays 54 = .ok (.if_icmp .gt 127, 3) := by decide +kernel
theorem dX8_lays_57 : decode cX8_lays 57 = .ok (.aload_n 0, 1) := by decide +kernel
theorem dX8_lays_58 : decode cX8_lays 58 = .ok (.getfield 111, 3) := by decide +kernel
theorem dX8_lays_61 : decode cX8_lays 61 = .ok (.ifCond .eq 120, 3) := by decide +kernel
theorem dX8_lays_64 : decode cX8_lays 64 = .ok (.aload_n 0, 1) := by decide +kernel
theorem dX8_lays_65 : decode cX8_lays 65 = .ok (.iload_n 2, 1) := by decide +kernel
theorem dX8_lays_66 : decode cX8_lays 66 = .ok (.iload_n 3, 1) := by decide +kernel
theorem dX8_lays_67 : decode cX8_lays 67 = .ok (.invokevirtual 130, 3) := by decide +kernel
theorem dX8_lays_70 : decode cX8_lays 70 = .ok (.istore 4, 2) := by decide +kernel
theorem dX8_lays_72 : decode cX8_lays 72 = .ok (.iload 4, 2) := by decide +kernel
theorem dX8_lays_74 : decode cX8_lays 74 = .ok (.aload_n 0, 1) := by decide +kernel
theorem dX8_lays_75 : decode cX8_lays 75 = .ok (.getfield 45, 3) := by decide +kernel
theorem dX8_lays_78 : decode cX8_lays 78 = .ok (.iload_n 3, 1) := by decide +kernel
theorem dX8_lays_79 : decode cX8_lays 79 = .ok (.iaload, 1) := by decide +kernel
theorem dX8_lays_80 : decode cX8_lays 80 = .ok (.iadd, 1) := by decide +kernel
theorem dX8_lays_81 : decode cX8_lays 81 = .ok (.istore 5, 2) := by decide +kernel
theorem dX8_lays_83 : decode cX8_lays 83 = .ok (.iload 5, 2) := by decide +kernel
theorem dX8_lays_85 : decode cX8_lays 85 = .ok (.aload_n 0, 1) := by decide +kernel
theorem dX8_lays_86 : decode cX8_lays 86 = .ok (.getfield 45, 3) := by decide +kernel
theorem dX8_lays_89 : decode cX8_lays 89 = .ok (.iload_n 2, 1) := by decide +kernel
theorem dX8_lays_90 : decode cX8_lays 90 = .ok (.iaload, 1) := by decide +kernel
theorem dX8_lays_91 : decode cX8_lays 91 = .ok (.if_icmp .lt 31, 3) := by decide +kernel
theorem dX8_lays_94 : decode cX8_lays 94 = .ok (.iload 5, 2) := by decide +kernel
theorem dX8_lays_96 : decode cX8_lays 96 = .ok (.aload_n 0, 1) := by decide +kernel
theorem dX8_lays_97 : decode cX8_lays 97 = .ok (.getfield 45, 3) := by decide +kernel
theorem dX8_lays_100 : decode cX8_lays 100 = .ok (.iload_n 2, 1) := by decide +kernel
theorem dX8_lays_101 : decode cX8_lays 101 = .ok (.iaload, 1) := by decide +kernel
theorem dX8_lays_102 : decode cX8_lays 102 = .ok (.if_icmp .ne 24, 3) := by decide +kernel
theorem dX8_lays_105 : decode cX8_lays 105 = .ok (.aload_n 0, 1) := by decide +kernel
theorem dX8_lays_106 : decode cX8_lays 106 = .ok (.getfield 48, 3) := by decide +kernel
theorem dX8_lays_109 : decode cX8_lays 109 = .ok (.iload_n 3, 1) := by decide +kernel
theorem dX8_lays_110 : decode cX8_lays 110 = .ok (.iaload, 1) := by decide +kernel
theorem dX8_lays_111 : decode cX8_lays 111 = .ok (.iconst 1, 1) := by decide +kernel
theorem dX8_lays_112 : decode cX8_lays 112 = .ok (.iadd, 1) := by decide +kernel
theorem dX8_lays_113 : decode cX8_lays 113 = .ok (.aload_n 0, 1) := by decide +kernel
theorem dX8_lays_114 : decode cX8_lays 114 = .ok (.getfield 48, 3) := by decide +kernel
theorem dX8_lays_117 : decode cX8_lays 117 = .ok (.iload_n 2, 1) := by decide +kernel
theorem dX8_lays_118 : decode cX8_lays 118 = .ok (.iaload, 1) := by decide +kernel
theorem dX8_lays_119 : decode cX8_lays 119 = .ok (.if_icmp .gt 7, 3) := by decide +kernel
theorem dX8_lays_122 : decode cX8_lays 122 = .ok (.iconst 1, 1) := by decide +kernel
theorem dX8_lays_123 : decode cX8_lays 123 = .ok (.goto 4, 3) := by decide +kernel
theorem dX8_lays_126 : decode cX8_lays 126 = .ok (.iconst 0, 1) := by decide +kernel
theorem dX8_lays_127 : decode cX8_lays 127 = .ok (.istore 6, 2) := by decide +kernel
theorem dX8_lays_129 : decode cX8_lays 129 = .ok (.iload 4, 2) := by decide +kernel
theorem dX8_lays_131 : decode cX8_lays 131 = .ok (.ifCond .lt 44, 3) := by decide +kernel
theorem dX8_lays_134 : decode cX8_lays 134 = .ok (.iload 5, 2) := by decide +kernel
theorem dX8_lays_136 : decode cX8_lays 136 = .ok (.ldc 104, 2) := by decide +kernel
theorem dX8_lays_138 : decode cX8_lays 138 = .ok (.if_icmp .ge 37, 3) := by decide +kernel
theorem dX8_lays_141 : decode cX8_lays 141 = .ok (.iload 6, 2) := by decide +kernel
theorem dX8_lays_143 : decode cX8_lays 143 = .ok (.ifCond .eq 32, 3) := by decide +kernel
theorem dX8_lays_146 : decode cX8_lays 146 = .ok (.aload_n 0, 1) := by decide +kernel
theorem dX8_lays_147 : decode cX8_lays 147 = .ok (.getfield 45, 3) := by decide +kernel
theorem dX8_lays_150 : decode cX8_lays 150 = .ok (.iload_n 2, 1) := by decide +kernel
theorem dX8_lays_151 : decode cX8_lays 151 = .ok (.iload 5, 2) := by decide +kernel
theorem dX8_lays_153 : decode cX8_lays 153 = .ok (.iastore, 1) := by decide +kernel
theorem dX8_lays_154 : decode cX8_lays 154 = .ok (.aload_n 0, 1) := by decide +kernel
theorem dX8_lays_155 : decode cX8_lays 155 = .ok (.getfield 48, 3) := by decide +kernel
theorem dX8_lays_158 : decode cX8_lays 158 = .ok (.iload_n 2, 1) := by decide +kernel
theorem dX8_lays_159 : decode cX8_lays 159 = .ok (.aload_n 0, 1) := by decide +kernel
theorem dX8_lays_160 : decode cX8_lays 160 = .ok (.getfield 48, 3) := by decide +kernel
theorem dX8_lays_163 : decode cX8_lays 163 = .ok (.iload_n 3, 1) := by decide +kernel
theorem dX8_lays_164 : decode cX8_lays 164 = .ok (.iaload, 1) := by decide +kernel
theorem dX8_lays_165 : decode cX8_lays 165 = .ok (.iconst 1, 1) := by decide +kernel
theorem dX8_lays_166 : decode cX8_lays 166 = .ok (.iadd, 1) := by decide +kernel
theorem dX8_lays_167 : decode cX8_lays 167 = .ok (.iastore, 1) := by decide +kernel
theorem dX8_lays_168 : decode cX8_lays 168 = .ok (.aload_n 0, 1) := by decide +kernel
theorem dX8_lays_169 : decode cX8_lays 169 = .ok (.getfield 51, 3) := by decide +kernel
theorem dX8_lays_172 : decode cX8_lays 172 = .ok (.iload_n 2, 1) := by decide +kernel
theorem dX8_lays_173 : decode cX8_lays 173 = .ok (.iload_n 3, 1) := by decide +kernel
theorem dX8_lays_174 : decode cX8_lays 174 = .ok (.iastore, 1) := by decide +kernel
theorem dX8_lays_175 : decode cX8_lays 175 = .ok (.iinc 3 1, 3) := by decide +kernel
theorem dX8_lays_178 : decode cX8_lays 178 = .ok (.goto (-126), 3) := by decide +kernel
theorem dX8_lays_181 : decode cX8_lays 181 = .ok (.iinc 2 (-1), 3) := by decide +kernel
theorem dX8_lays_184 : decode cX8_lays 184 = .ok (.goto (-155), 3) := by decide +kernel
theorem dX8_lays_187 : decode cX8_lays 187 = .ok (.aload_n 0, 1) := by decide +kernel
theorem dX8_lays_188 : decode cX8_lays 188 = .ok (.aload_n 0, 1) := by decide +kernel
theorem dX8_lays_189 : decode cX8_lays 189 = .ok (.getfield 111, 3) := by decide +kernel
theorem dX8_lays_192 : decode cX8_lays 192 = .ok (.ifCond .eq 18, 3) := by decide +kernel
theorem dX8_lays_195 : decode cX8_lays 195 = .ok (.aload_n 0, 1) := by decide +kernel
theorem dX8_lays_196 : decode cX8_lays 196 = .ok (.getfield 45, 3) := by decide +kernel
theorem dX8_lays_199 : decode cX8_lays 199 = .ok (.iconst 0, 1) := by decide +kernel
theorem dX8_lays_200 : decode cX8_lays 200 = .ok (.iaload, 1) := by decide +kernel
theorem dX8_lays_201 : decode cX8_lays 201 = .ok (.ldc 104, 2) := by decide +kernel
theorem dX8_lays_203 : decode cX8_lays 203 = .ok (.if_icmp .ge 7, 3) := by decide +kernel
theorem dX8_lays_206 : decode cX8_lays 206 = .ok (.iconst 1, 1) := by decide +kernel
theorem dX8_lays_207 : decode cX8_lays 207 = .ok (.goto 4, 3) := by decide +kernel
theorem dX8_lays_210 : decode cX8_lays 210 = .ok (.iconst 0, 1) := by decide +kernel
theorem dX8_lays_211 : decode cX8_lays 211 = .ok (.putfield 133, 3) := by decide +kernel
theorem dX8_lays_214 : decode cX8_lays 214 = .ok (.return_, 1) := by decide +kernel
theorem dX8_firstOf_0 : decode cX8_firstOf 0 = .ok (.iconst 0, 1) := by decide +kernel
theorem dX8_firstOf_1 : decode cX8_firstOf 1 = .ok (.istore_n 2, 1) := by decide +kernel
theorem dX8_firstOf_2 : decode cX8_firstOf 2 = .ok (.iconst 0, 1) := by decide +kernel
theorem dX8_firstOf_3 : decode cX8_firstOf 3 = .ok (.istore_n 3, 1) := by decide +kernel
theorem dX8_firstOf_4 : decode cX8_firstOf 4 = .ok (.iload_n 3, 1) := by decide +kernel
theorem dX8_firstOf_5 : decode cX8_firstOf 5 = .ok (.iload_n 1, 1) := by decide +kernel
theorem dX8_firstOf_6 : decode cX8_firstOf 6 = .ok (.if_icmp .ge 16, 3) := by decide +kernel
theorem dX8_firstOf_9 : decode cX8_firstOf 9 = .ok (.aload_n 0, 1) := by decide +kernel
theorem dX8_firstOf_10 : decode cX8_firstOf 10 = .ok (.getfield 51, 3) := by decide +kernel
theorem dX8_firstOf_13 : decode cX8_firstOf 13 = .ok (.iload_n 2, 1) := by decide +kernel
theorem dX8_firstOf_14 : decode cX8_firstOf 14 = .ok (.iaload, 1) := by decide +kernel
theorem dX8_firstOf_15 : decode cX8_firstOf 15 = .ok (.istore_n 2, 1) := by decide +kernel
theorem dX8_firstOf_16 : decode cX8_firstOf 16 = .ok (.iinc 3 1, 3) := by decide +kernel
theorem dX8_firstOf_19 : decode cX8_firstOf 19 = .ok (.goto (-15), 3) := by decide +kernel
theorem dX8_firstOf_22 : decode cX8_firstOf 22 = .ok (.iload_n 2, 1) := by decide +kernel
theorem dX8_firstOf_23 : decode cX8_firstOf 23 = .ok (.ireturn, 1) := by decide +kernel
theorem dX8_pageOf_0 : decode cX8_pageOf 0 = .ok (.aload_n 0, 1) := by decide +kernel
theorem dX8_pageOf_1 : decode cX8_pageOf 1 = .ok (.invokevirtual 136, 3) := by decide +kernel
theorem dX8_pageOf_4 : decode cX8_pageOf 4 = .ok (.aload_n 0, 1) := by decide +kernel
theorem dX8_pageOf_5 : decode cX8_pageOf 5 = .ok (.getfield 133, 3) := by decide +kernel
theorem dX8_pageOf_8 : decode cX8_pageOf 8 = .ok (.ifCond .ne 6, 3) := by decide +kernel
theorem dX8_pageOf_11 : decode cX8_pageOf 11 = .ok (.bipush (-4), 2) := by decide +kernel
theorem dX8_pageOf_13 : decode cX8_pageOf 13 = .ok (.ireturn, 1) := by decide +kernel
theorem dX8_pageOf_14 : decode cX8_pageOf 14 = .ok (.iconst 0, 1) := by decide +kernel
theorem dX8_pageOf_15 : decode cX8_pageOf 15 = .ok (.istore_n 2, 1) := by decide +kernel
theorem dX8_pageOf_16 : decode cX8_pageOf 16 = .ok (.aload_n 0, 1) := by decide +kernel
theorem dX8_pageOf_17 : decode cX8_pageOf 17 = .ok (.getfield 51, 3) := by decide +kernel
theorem dX8_pageOf_20 : decode cX8_pageOf 20 = .ok (.iconst 0, 1) := by decide +kernel
theorem dX8_pageOf_21 : decode cX8_pageOf 21 = .ok (.iaload, 1) := by decide +kernel
theorem dX8_pageOf_22 : decode cX8_pageOf 22 = .ok (.istore_n 3, 1) := by decide +kernel
theorem dX8_pageOf_23 : decode cX8_pageOf 23 = .ok (.iload_n 3, 1) := by decide +kernel
theorem dX8_pageOf_24 : decode cX8_pageOf 24 = .ok (.iload_n 1, 1) := by decide +kernel
theorem dX8_pageOf_25 : decode cX8_pageOf 25 = .ok (.if_icmp .gt 16, 3) := by decide +kernel
theorem dX8_pageOf_28 : decode cX8_pageOf 28 = .ok (.iinc 2 1, 3) := by decide +kernel
theorem dX8_pageOf_31 : decode cX8_pageOf 31 = .ok (.aload_n 0, 1) := by decide +kernel
theorem dX8_pageOf_32 : decode cX8_pageOf 32 = .ok (.getfield 51, 3) := by decide +kernel
theorem dX8_pageOf_35 : decode cX8_pageOf 35 = .ok (.iload_n 3, 1) := by decide +kernel
theorem dX8_pageOf_36 : decode cX8_pageOf 36 = .ok (.iaload, 1) := by decide +kernel
theorem dX8_pageOf_37 : decode cX8_pageOf 37 = .ok (.istore_n 3, 1) := by decide +kernel
theorem dX8_pageOf_38 : decode cX8_pageOf 38 = .ok (.goto (-15), 3) := by decide +kernel
theorem dX8_pageOf_41 : decode cX8_pageOf 41 = .ok (.iload_n 2, 1) := by decide +kernel
theorem dX8_pageOf_42 : decode cX8_pageOf 42 = .ok (.ireturn, 1) := by decide +kernel
theorem dX8_page_0 : decode cX8_page 0 = .ok (.aload_n 0, 1) := by decide +kernel
theorem dX8_page_1 : decode cX8_page 1 = .ok (.invokevirtual 136, 3) := by decide +kernel
theorem dX8_page_4 : decode cX8_page 4 = .ok (.aload_n 0, 1) := by decide +kernel
theorem dX8_page_5 : decode cX8_page 5 = .ok (.getfield 133, 3) := by decide +kernel
theorem dX8_page_8 : decode cX8_page 8 = .ok (.ifCond .eq 33, 3) := by decide +kernel
theorem dX8_page_11 : decode cX8_page 11 = .ok (.iload_n 1, 1) := by decide +kernel
theorem dX8_page_12 : decode cX8_page 12 = .ok (.i2l, 1) := by decide +kernel
theorem dX8_page_13 : decode cX8_page 13 = .ok (.lconst 0, 1) := by decide +kernel
theorem dX8_page_14 : decode cX8_page 14 = .ok (.aload_n 0, 1) := by decide +kernel
theorem dX8_page_15 : decode cX8_page 15 = .ok (.getfield 48, 3) := by decide +kernel
theorem dX8_page_18 : decode cX8_page 18 = .ok (.iconst 0, 1) := by decide +kernel
theorem dX8_page_19 : decode cX8_page 19 = .ok (.iaload, 1) := by decide +kernel
theorem dX8_page_20 : decode cX8_page 20 = .ok (.iconst 1, 1) := by decide +kernel
theorem dX8_page_21 : decode cX8_page 21 = .ok (.isub, 1) := by decide +kernel
theorem dX8_page_22 : decode cX8_page 22 = .ok (.i2l, 1) := by decide +kernel
theorem dX8_page_23 : decode cX8_page 23 = .ok (.invokestatic 63, 3) := by decide +kernel
theorem dX8_page_26 : decode cX8_page 26 = .ok (.ifCond .eq 15, 3) := by decide +kernel
theorem dX8_page_29 : decode cX8_page 29 = .ok (.iload_n 2, 1) := by decide +kernel
theorem dX8_page_30 : decode cX8_page 30 = .ok (.i2l, 1) := by decide +kernel
theorem dX8_page_31 : decode cX8_page 31 = .ok (.lconst 0, 1) := by decide +kernel
theorem dX8_page_32 : decode cX8_page 32 = .ok (.ldc2_w 139, 3) := by decide +kernel
theorem dX8_page_35 : decode cX8_page 35 = .ok (.invokestatic 63, 3) := by decide +kernel
theorem dX8_page_38 : decode cX8_page 38 = .ok (.ifCond .ne 5, 3) := by decide +kernel
theorem dX8_page_41 : decode cX8_page 41 = .ok (.iconst (-1), 1) := by decide +kernel
theorem dX8_page_42 : decode cX8_page 42 = .ok (.ireturn, 1) := by decide +kernel
theorem dX8_page_43 : decode cX8_page 43 = .ok (.aload_n 0, 1) := by decide +kernel
theorem dX8_page_44 : decode cX8_page 44 = .ok (.iload_n 1, 1) := by decide +kernel
theorem dX8_page_45 : decode cX8_page 45 = .ok (.invokevirtual 141, 3) := by decide +kernel
theorem dX8_page_48 : decode cX8_page 48 = .ok (.istore_n 3, 1) := by decide +kernel
theorem dX8_page_49 : decode cX8_page 49 = .ok (.iload_n 2, 1) := by decide +kernel
theorem dX8_page_50 : decode cX8_page 50 = .ok (.ifCond .ne 7, 3) := by decide +kernel
theorem dX8_page_53 : decode cX8_page 53 = .ok (.iload_n 3, 1) := by decide +kernel
theorem dX8_page_54 : decode cX8_page 54 = .ok (.goto 30, 3) := by decide +kernel
theorem dX8_page_57 : decode cX8_page 57 = .ok (.iload_n 2, 1) := by decide +kernel
theorem dX8_page_58 : decode cX8_page 58 = .ok (.iconst 1, 1) := by decide +kernel
theorem dX8_page_59 : decode cX8_page 59 = .ok (.if_icmp .ne 14, 3) := by decide +kernel
theorem dX8_page_62 : decode cX8_page 62 = .ok (.aload_n 0, 1) := by decide +kernel
theorem dX8_page_63 : decode cX8_page 63 = .ok (.getfield 51, 3) := by decide +kernel
theorem dX8_page_66 : decode cX8_page 66 = .ok (.iload_n 3, 1) := by decide +kernel
theorem dX8_page_67 : decode cX8_page 67 = .ok (.iaload, 1) := by decide +kernel
theorem dX8_page_68 : decode cX8_page 68 = .ok (.iload_n 3, 1) := by decide +kernel
theorem dX8_page_69 : decode cX8_page 69 = .ok (.isub, 1) := by decide +kernel
theorem dX8_page_70 : decode cX8_page 70 = .ok (.goto 14, 3) := by decide +kernel
theorem dX8_page_73 : decode cX8_page 73 = .ok (.aload_n 0, 1) := by decide +kernel
theorem dX8_page_74 : decode cX8_page 74 = .ok (.iload_n 3, 1) := by decide +kernel
theorem dX8_page_75 : decode cX8_page 75 = .ok (.aload_n 0, 1) := by decide +kernel
theorem dX8_page_76 : decode cX8_page 76 = .ok (.getfield 51, 3) := by decide +kernel
theorem dX8_page_79 : decode cX8_page 79 = .ok (.iload_n 3, 1) := by decide +kernel
theorem dX8_page_80 : decode cX8_page 80 = .ok (.iaload, 1) := by decide +kernel
theorem dX8_page_81 : decode cX8_page 81 = .ok (.invokevirtual 121, 3) := by decide +kernel
theorem dX8_page_84 : decode cX8_page 84 = .ok (.ireturn, 1) := by decide +kernel
theorem dX8_of_0 : decode cX8_of 0 = .ok (.aload_n 0, 1) := by decide +kernel
theorem dX8_of_1 : decode cX8_of 1 = .ok (.iload_n 1, 1) := by decide +kernel
theorem dX8_of_2 : decode cX8_of 2 = .ok (.invokevirtual 144, 3) := by decide +kernel
theorem dX8_of_5 : decode cX8_of 5 = .ok (.ifCond .ne 5, 3) := by decide +kernel
theorem dX8_of_8 : decode cX8_of 8 = .ok (.iconst (-1), 1) := by decide +kernel
theorem dX8_of_9 : decode cX8_of 9 = .ok (.ireturn, 1) := by decide +kernel
theorem dX8_of_10 : decode cX8_of 10 = .ok (.iload_n 2, 1) := by decide +kernel
theorem dX8_of_11 : decode cX8_of 11 = .ok (.tableswitch 102 0 7 #[45, 52, 66, 72, 78, 84, 90, 96], 45) := by decide +kernel
theorem dX8_of_56 : decode cX8_of 56 = .ok (.aload_n 0, 1) := by decide +kernel
theorem dX8_of_57 : decode cX8_of 57 = .ok (.iload_n 1, 1) := by decide +kernel
theorem dX8_of_58 : decode cX8_of 58 = .ok (.iconst 0, 1) := by decide +kernel
theorem dX8_of_59 : decode cX8_of 59 = .ok (.invokevirtual 67, 3) := by decide +kernel
theorem dX8_of_62 : decode cX8_of 62 = .ok (.ireturn, 1) := by decide +kernel
theorem dX8_of_63 : decode cX8_of 63 = .ok (.aload_n 0, 1) := by decide +kernel
theorem dX8_of_64 : decode cX8_of 64 = .ok (.iload_n 1, 1) := by decide +kernel
theorem dX8_of_65 : decode cX8_of 65 = .ok (.invokevirtual 71, 3) := by decide +kernel
theorem dX8_of_68 : decode cX8_of 68 = .ok (.ifCond .eq 7, 3) := by decide +kernel
theorem dX8_of_71 : decode cX8_of 71 = .ok (.iconst 1, 1) := by decide +kernel
theorem dX8_of_72 : decode cX8_of 72 = .ok (.goto 4, 3) := by decide +kernel
theorem dX8_of_75 : decode cX8_of 75 = .ok (.iconst 0, 1) := by decide +kernel
theorem dX8_of_76 : decode cX8_of 76 = .ok (.ireturn, 1) := by decide +kernel
theorem dX8_of_77 : decode cX8_of 77 = .ok (.aload_n 0, 1) := by decide +kernel
theorem dX8_of_78 : decode cX8_of 78 = .ok (.iload_n 1, 1) := by decide +kernel
theorem dX8_of_79 : decode cX8_of 79 = .ok (.invokevirtual 85, 3) := by decide +kernel
theorem dX8_of_82 : decode cX8_of 82 = .ok (.ireturn, 1) := by decide +kernel
theorem dX8_of_83 : decode cX8_of 83 = .ok (.aload_n 0, 1) := by decide +kernel
theorem dX8_of_84 : decode cX8_of 84 = .ok (.iload_n 1, 1) := by decide +kernel
theorem dX8_of_85 : decode cX8_of 85 = .ok (.invokevirtual 75, 3) := by decide +kernel
theorem dX8_of_88 : decode cX8_of 88 = .ok (.ireturn, 1) := by decide +kernel
theorem dX8_of_89 : decode cX8_of 89 = .ok (.aload_n 0, 1) := by decide +kernel
theorem dX8_of_90 : decode cX8_of 90 = .ok (.iload_n 1, 1) := by decide +kernel
theorem dX8_of_91 : decode cX8_of 91 = .ok (.invokevirtual 88, 3) := by decide +kernel
theorem dX8_of_94 : decode cX8_of 94 = .ok (.ireturn, 1) := by decide +kernel
theorem dX8_of_95 : decode cX8_of 95 = .ok (.aload_n 0, 1) := by decide +kernel
theorem dX8_of_96 : decode cX8_of 96 = .ok (.iload_n 1, 1) := by decide +kernel
theorem dX8_of_97 : decode cX8_of 97 = .ok (.invokevirtual 115, 3) := by decide +kernel
theorem dX8_of_100 : decode cX8_of 100 = .ok (.ireturn, 1) := by decide +kernel
theorem dX8_of_101 : decode cX8_of 101 = .ok (.aload_n 0, 1) := by decide +kernel
theorem dX8_of_102 : decode cX8_of 102 = .ok (.iload_n 1, 1) := by decide +kernel
theorem dX8_of_103 : decode cX8_of 103 = .ok (.invokevirtual 118, 3) := by decide +kernel
theorem dX8_of_106 : decode cX8_of 106 = .ok (.ireturn, 1) := by decide +kernel
theorem dX8_of_107 : decode cX8_of 107 = .ok (.aload_n 0, 1) := by decide +kernel
theorem dX8_of_108 : decode cX8_of 108 = .ok (.iload_n 1, 1) := by decide +kernel
theorem dX8_of_109 : decode cX8_of 109 = .ok (.invokevirtual 147, 3) := by decide +kernel
theorem dX8_of_112 : decode cX8_of 112 = .ok (.ireturn, 1) := by decide +kernel
theorem dX8_of_113 : decode cX8_of 113 = .ok (.iconst (-1), 1) := by decide +kernel
theorem dX8_of_114 : decode cX8_of 114 = .ok (.ireturn, 1) := by decide +kernel
theorem dX8_said_0 : decode cX8_said 0 = .ok (.aload_n 0, 1) := by decide +kernel
theorem dX8_said_1 : decode cX8_said 1 = .ok (.iload_n 1, 1) := by decide +kernel
theorem dX8_said_2 : decode cX8_said 2 = .ok (.invokevirtual 144, 3) := by decide +kernel
theorem dX8_said_5 : decode cX8_said 5 = .ok (.ifCond .eq 32, 3) := by decide +kernel
theorem dX8_said_8 : decode cX8_said 8 = .ok (.iload_n 2, 1) := by decide +kernel
theorem dX8_said_9 : decode cX8_said 9 = .ok (.i2l, 1) := by decide +kernel
theorem dX8_said_10 : decode cX8_said 10 = .ok (.lconst 0, 1) := by decide +kernel
theorem dX8_said_11 : decode cX8_said 11 = .ok (.aload_n 0, 1) := by decide +kernel
theorem dX8_said_12 : decode cX8_said 12 = .ok (.iload_n 1, 1) := by decide +kernel
theorem dX8_said_13 : decode cX8_said 13 = .ok (.invokevirtual 85, 3) := by decide +kernel
theorem dX8_said_16 : decode cX8_said 16 = .ok (.iconst 1, 1) := by decide +kernel
theorem dX8_said_17 : decode cX8_said 17 = .ok (.isub, 1) := by decide +kernel
theorem dX8_said_18 : decode cX8_said 18 = .ok (.i2l, 1) := by decide +kernel
theorem dX8_said_19 : decode cX8_said 19 = .ok (.invokestatic 63, 3) := by decide +kernel
theorem dX8_said_22 : decode cX8_said 22 = .ok (.ifCond .eq 15, 3) := by decide +kernel
theorem dX8_said_25 : decode cX8_said 25 = .ok (.iload_n 3, 1) := by decide +kernel
theorem dX8_said_26 : decode cX8_said 26 = .ok (.i2l, 1) := by decide +kernel
theorem dX8_said_27 : decode cX8_said 27 = .ok (.lconst 0, 1) := by decide +kernel
theorem dX8_said_28 : decode cX8_said 28 = .ok (.ldc2_w 150, 3) := by decide +kernel
theorem dX8_said_31 : decode cX8_said 31 = .ok (.invokestatic 63, 3) := by decide +kernel
theorem dX8_said_34 : decode cX8_said 34 = .ok (.ifCond .ne 5, 3) := by decide +kernel
theorem dX8_said_37 : decode cX8_said 37 = .ok (.iconst (-1), 1) := by decide +kernel
theorem dX8_said_38 : decode cX8_said 38 = .ok (.ireturn, 1) := by decide +kernel
theorem dX8_said_39 : decode cX8_said 39 = .ok (.iload_n 3, 1) := by decide +kernel
theorem dX8_said_40 : decode cX8_said 40 = .ok (.iconst 2, 1) := by decide +kernel
theorem dX8_said_41 : decode cX8_said 41 = .ok (.if_icmp .ge 21, 3) := by decide +kernel
theorem dX8_said_44 : decode cX8_said 44 = .ok (.aload_n 0, 1) := by decide +kernel
theorem dX8_said_45 : decode cX8_said 45 = .ok (.iload_n 1, 1) := by decide +kernel
theorem dX8_said_46 : decode cX8_said 46 = .ok (.iload_n 3, 1) := by decide +kernel
theorem dX8_said_47 : decode cX8_said 47 = .ok (.ifCond .ne 7, 3) := by decide +kernel
theorem dX8_said_50 : decode cX8_said 50 = .ok (.iconst 3, 1) := by decide +kernel
theorem dX8_said_51 : decode cX8_said 51 = .ok (.goto 5, 3) := by decide +kernel
theorem dX8_said_54 : decode cX8_said 54 = .ok (.bipush 9, 2) := by decide +kernel
theorem dX8_said_56 : decode cX8_said 56 = .ok (.iload_n 2, 1) := by decide +kernel
theorem dX8_said_57 : decode cX8_said 57 = .ok (.iadd, 1) := by decide +kernel
theorem dX8_said_58 : decode cX8_said 58 = .ok (.invokevirtual 67, 3) := by decide +kernel
theorem dX8_said_61 : decode cX8_said 61 = .ok (.ireturn, 1) := by decide +kernel
theorem dX8_said_62 : decode cX8_said 62 = .ok (.aload_n 0, 1) := by decide +kernel
theorem dX8_said_63 : decode cX8_said 63 = .ok (.iload_n 1, 1) := by decide +kernel
theorem dX8_said_64 : decode cX8_said 64 = .ok (.invokevirtual 105, 3) := by decide +kernel
theorem dX8_said_67 : decode cX8_said 67 = .ok (.istore 4, 2) := by decide +kernel
theorem dX8_said_69 : decode cX8_said 69 = .ok (.iload 4, 2) := by decide +kernel
theorem dX8_said_71 : decode cX8_said 71 = .ok (.ifCond .ge 6, 3) := by decide +kernel
theorem dX8_said_74 : decode cX8_said 74 = .ok (.bipush (-4), 2) := by decide +kernel
theorem dX8_said_76 : decode cX8_said 76 = .ok (.ireturn, 1) := by decide +kernel
theorem dX8_said_77 : decode cX8_said 77 = .ok (.iconst 0, 1) := by decide +kernel
theorem dX8_said_78 : decode cX8_said 78 = .ok (.istore 5, 2) := by decide +kernel
theorem dX8_said_80 : decode cX8_said 80 = .ok (.aload_n 0, 1) := by decide +kernel
theorem dX8_said_81 : decode cX8_said 81 = .ok (.iload_n 1, 1) := by decide +kernel
theorem dX8_said_82 : decode cX8_said 82 = .ok (.invokevirtual 88, 3) := by decide +kernel
theorem dX8_said_85 : decode cX8_said 85 = .ok (.istore 6, 2) := by decide +kernel
theorem dX8_said_87 : decode cX8_said 87 = .ok (.iconst 0, 1) := by decide +kernel
theorem dX8_said_88 : decode cX8_said 88 = .ok (.istore 7, 2) := by decide +kernel
theorem dX8_said_90 : decode cX8_said 90 = .ok (.iload 7, 2) := by decide +kernel
theorem dX8_said_92 : decode cX8_said 92 = .ok (.iload_n 2, 1) := by decide +kernel
theorem dX8_said_93 : decode cX8_said 93 = .ok (.if_icmp .ge 71, 3) := by decide +kernel
theorem dX8_said_96 : decode cX8_said 96 = .ok (.aload_n 0, 1) := by decide +kernel
theorem dX8_said_97 : decode cX8_said 97 = .ok (.iload_n 1, 1) := by decide +kernel
theorem dX8_said_98 : decode cX8_said 98 = .ok (.iload 4, 2) := by decide +kernel
theorem dX8_said_100 : decode cX8_said 100 = .ok (.iload 7, 2) := by decide +kernel
theorem dX8_said_102 : decode cX8_said 102 = .ok (.invokevirtual 91, 3) := by decide +kernel
theorem dX8_said_105 : decode cX8_said 105 = .ok (.istore 8, 2) := by decide +kernel
theorem dX8_said_107 : decode cX8_said 107 = .ok (.iload 5, 2) := by decide +kernel
theorem dX8_said_109 : decode cX8_said 109 = .ok (.iload 8, 2) := by decide +kernel
theorem dX8_said_111 : decode cX8_said 111 = .ok (.ifCond .eq 7, 3) := by decide +kernel
theorem dX8_said_114 : decode cX8_said 114 = .ok (.iconst 1, 1) := by decide +kernel
theorem dX8_said_115 : decode cX8_said 115 = .ok (.goto 4, 3) := by decide +kernel
theorem dX8_said_118 : decode cX8_said 118 = .ok (.iconst 0, 1) := by decide +kernel
theorem dX8_said_119 : decode cX8_said 119 = .ok (.iadd, 1) := by decide +kernel
theorem dX8_said_120 : decode cX8_said 120 = .ok (.istore 5, 2) := by decide +kernel
theorem dX8_said_122 : decode cX8_said 122 = .ok (.iload 8, 2) := by decide +kernel
theorem dX8_said_124 : decode cX8_said 124 = .ok (.ifCond .eq 18, 3) := by decide +kernel
theorem dX8_said_127 : decode cX8_said 127 = .ok (.aload_n 0, 1) := by decide +kernel
theorem dX8_said_128 : decode cX8_said 128 = .ok (.iload_n 1, 1) := by decide +kernel
theorem dX8_said_129 : decode cX8_said 129 = .ok (.invokevirtual 88, 3) := by decide +kernel
theorem dX8_said_132 : decode cX8_said 132 = .ok (.aload_n 0, 1) := by decide +kernel
theorem dX8_said_133 : decode cX8_said 133 = .ok (.getfield 7, 3) := by decide +kernel
theorem dX8_said_136 : decode cX8_said 136 = .ok (.iconst 4, 1) := by decide +kernel
theorem dX8_said_137 : decode cX8_said 137 = .ok (.iaload, 1) := by decide +kernel
theorem dX8_said_138 : decode cX8_said 138 = .ok (.iadd, 1) := by decide +kernel
theorem dX8_said_139 : decode cX8_said 139 = .ok (.goto 17, 3) := by decide +kernel
theorem dX8_said_142 : decode cX8_said 142 = .ok (.iload 6, 2) := by decide +kernel
theorem dX8_said_144 : decode cX8_said 144 = .ok (.aload_n 0, 1) := by decide +kernel
theorem dX8_said_145 : decode cX8_said 145 = .ok (.iload_n 1, 1) := by decide +kernel
theorem dX8_said_146 : decode cX8_said 146 = .ok (.iconst 3, 1) := by decide +kernel
theorem dX8_said_147 : decode cX8_said 147 = .ok (.iload 7, 2) := by decide +kernel
theorem dX8_said_149 : decode cX8_said 149 = .ok (.iadd, 1) := by decide +kernel
theorem dX8_said_150 : decode cX8_said 150 = .ok (.invokevirtual 67, 3) := by decide +kernel
theorem dX8_said_153 : decode cX8_said 153 = .ok (.iadd, 1) := by decide +kernel
theorem dX8_said_154 : decode cX8_said 154 = .ok (.iconst 1, 1) := by decide +kernel
theorem dX8_said_155 : decode cX8_said 155 = .ok (.iadd, 1) := by decide +kernel
theorem dX8_said_156 : decode cX8_said 156 = .ok (.istore 6, 2) := by decide +kernel
theorem dX8_said_158 : decode cX8_said 158 = .ok (.iinc 7 1, 3) := by decide +kernel
theorem dX8_said_161 : decode cX8_said 161 = .ok (.goto (-71), 3) := by decide +kernel
theorem dX8_said_164 : decode cX8_said 164 = .ok (.iload_n 3, 1) := by decide +kernel
theorem dX8_said_165 : decode cX8_said 165 = .ok (.iconst 2, 1) := by decide +kernel
theorem dX8_said_166 : decode cX8_said 166 = .ok (.if_icmp .ne 8, 3) := by decide +kernel
theorem dX8_said_169 : decode cX8_said 169 = .ok (.iload 5, 2) := by decide +kernel
theorem dX8_said_171 : decode cX8_said 171 = .ok (.goto 5, 3) := by decide +kernel
theorem dX8_said_174 : decode cX8_said 174 = .ok (.iload 6, 2) := by decide +kernel
theorem dX8_said_176 : decode cX8_said 176 = .ok (.ireturn, 1) := by decide +kernel
theorem dX8_count_0 : decode cX8_count 0 = .ok (.iload_n 1, 1) := by decide +kernel
theorem dX8_count_1 : decode cX8_count 1 = .ok (.i2l, 1) := by decide +kernel
theorem dX8_count_2 : decode cX8_count 2 = .ok (.lconst 0, 1) := by decide +kernel
theorem dX8_count_3 : decode cX8_count 3 = .ok (.ldc2_w 152, 3) := by decide +kernel
theorem dX8_count_6 : decode cX8_count 6 = .ok (.invokestatic 63, 3) := by decide +kernel
theorem dX8_count_9 : decode cX8_count 9 = .ok (.ifCond .eq 12, 3) := by decide +kernel
theorem dX8_count_12 : decode cX8_count 12 = .ok (.aload_n 0, 1) := by decide +kernel
theorem dX8_count_13 : decode cX8_count 13 = .ok (.getfield 7, 3) := by decide +kernel
theorem dX8_count_16 : decode cX8_count 16 = .ok (.iconst 2, 1) := by decide +kernel
theorem dX8_count_17 : decode cX8_count 17 = .ok (.iload_n 1, 1) := by decide +kernel
theorem dX8_count_18 : decode cX8_count 18 = .ok (.iadd, 1) := by decide +kernel
theorem dX8_count_19 : decode cX8_count 19 = .ok (.iaload, 1) := by decide +kernel
theorem dX8_count_20 : decode cX8_count 20 = .ok (.ireturn, 1) := by decide +kernel
theorem dX8_count_21 : decode cX8_count 21 = .ok (.aload_n 0, 1) := by decide +kernel
theorem dX8_count_22 : decode cX8_count 22 = .ok (.invokevirtual 136, 3) := by decide +kernel
theorem dX8_count_25 : decode cX8_count 25 = .ok (.iload_n 1, 1) := by decide +kernel
theorem dX8_count_26 : decode cX8_count 26 = .ok (.tableswitch 98 7 12 #[38, 45, 50, 55, 74, 93], 38) := by decide +kernel
theorem dX8_count_64 : decode cX8_count 64 = .ok (.aload_n 0, 1) := by decide +kernel
theorem dX8_count_65 : decode cX8_count 65 = .ok (.getfield 7, 3) := by decide +kernel
theorem dX8_count_68 : decode cX8_count 68 = .ok (.iconst 0, 1) := by decide +kernel
theorem dX8_count_69 : decode cX8_count 69 = .ok (.iaload, 1) := by decide +kernel
theorem dX8_count_70 : decode cX8_count 70 = .ok (.ireturn, 1) := by decide +kernel
theorem dX8_count_71 : decode cX8_count 71 = .ok (.aload_n 0, 1) := by decide +kernel
theorem dX8_count_72 : decode cX8_count 72 = .ok (.invokevirtual 154, 3) := by decide +kernel
theorem dX8_count_75 : decode cX8_count 75 = .ok (.ireturn, 1) := by decide +kernel
theorem dX8_count_76 : decode cX8_count 76 = .ok (.aload_n 0, 1) := by decide +kernel
theorem dX8_count_77 : decode cX8_count 77 = .ok (.invokevirtual 158, 3) := by decide +kernel
theorem dX8_count_80 : decode cX8_count 80 = .ok (.ireturn, 1) := by decide +kernel
theorem dX8_count_81 : decode cX8_count 81 = .ok (.aload_n 0, 1) := by decide +kernel
theorem dX8_count_82 : decode cX8_count 82 = .ok (.getfield 133, 3) := by decide +kernel
theorem dX8_count_85 : decode cX8_count 85 = .ok (.ifCond .eq 12, 3) := by decide +kernel
theorem dX8_count_88 : decode cX8_count 88 = .ok (.aload_n 0, 1) := by decide +kernel
theorem dX8_count_89 : decode cX8_count 89 = .ok (.getfield 48, 3) := by decide +kernel
theorem dX8_count_92 : decode cX8_count 92 = .ok (.iconst 0, 1) := by decide +kernel
theorem dX8_count_93 : decode cX8_count 93 = .ok (.iaload, 1) := by decide +kernel
theorem dX8_count_94 : decode cX8_count 94 = .ok (.goto 5, 3) := by decide +kernel
theorem dX8_count_97 : decode cX8_count 97 = .ok (.bipush (-4), 2) := by decide +kernel
theorem dX8_count_99 : decode cX8_count 99 = .ok (.ireturn, 1) := by decide +kernel
theorem dX8_count_100 : decode cX8_count 100 = .ok (.aload_n 0, 1) := by decide +kernel
theorem dX8_count_101 : decode cX8_count 101 = .ok (.getfield 133, 3) := by decide +kernel
theorem dX8_count_104 : decode cX8_count 104 = .ok (.ifCond .eq 12, 3) := by decide +kernel
theorem dX8_count_107 : decode cX8_count 107 = .ok (.aload_n 0, 1) := by decide +kernel
theorem dX8_count_108 : decode cX8_count 108 = .ok (.getfield 45, 3) := by decide +kernel
theorem dX8_count_111 : decode cX8_count 111 = .ok (.iconst 0, 1) := by decide +kernel
theorem dX8_count_112 : decode cX8_count 112 = .ok (.iaload, 1) := by decide +kernel
theorem dX8_count_113 : decode cX8_count 113 = .ok (.goto 5, 3) := by decide +kernel
theorem dX8_count_116 : decode cX8_count 116 = .ok (.bipush (-4), 2) := by decide +kernel
theorem dX8_count_118 : decode cX8_count 118 = .ok (.ireturn, 1) := by decide +kernel
theorem dX8_count_119 : decode cX8_count 119 = .ok (.aload_n 0, 1) := by decide +kernel
theorem dX8_count_120 : decode cX8_count 120 = .ok (.getfield 161, 3) := by decide +kernel
theorem dX8_count_123 : decode cX8_count 123 = .ok (.ireturn, 1) := by decide +kernel
theorem dX8_count_124 : decode cX8_count 124 = .ok (.iconst (-1), 1) := by decide +kernel
theorem dX8_count_125 : decode cX8_count 125 = .ok (.ireturn, 1) := by decide +kernel
theorem dX8_settings_0 : decode cX8_settings 0 = .ok (.aload_n 0, 1) := by decide +kernel
theorem dX8_settings_1 : decode cX8_settings 1 = .ok (.iload_n 1, 1) := by decide +kernel
theorem dX8_settings_2 : decode cX8_settings 2 = .ok (.invokevirtual 144, 3) := by decide +kernel
theorem dX8_settings_5 : decode cX8_settings 5 = .ok (.ifCond .eq 11, 3) := by decide +kernel
theorem dX8_settings_8 : decode cX8_settings 8 = .ok (.aload_n 0, 1) := by decide +kernel
theorem dX8_settings_9 : decode cX8_settings 9 = .ok (.iload_n 1, 1) := by decide +kernel
theorem dX8_settings_10 : decode cX8_settings 10 = .ok (.invokevirtual 164, 3) := by decide +kernel
theorem dX8_settings_13 : decode cX8_settings 13 = .ok (.goto 4, 3) := by decide +kernel
theorem dX8_settings_16 : decode cX8_settings 16 = .ok (.iconst (-1), 1) := by decide +kernel
theorem dX8_settings_17 : decode cX8_settings 17 = .ok (.ireturn, 1) := by decide +kernel
theorem dX8_shapeOf_0 : decode cX8_shapeOf 0 = .ok (.aload_n 0, 1) := by decide +kernel
theorem dX8_shapeOf_1 : decode cX8_shapeOf 1 = .ok (.iload_n 1, 1) := by decide +kernel
theorem dX8_shapeOf_2 : decode cX8_shapeOf 2 = .ok (.invokevirtual 167, 3) := by decide +kernel
theorem dX8_shapeOf_5 : decode cX8_shapeOf 5 = .ok (.istore_n 2, 1) := by decide +kernel
theorem dX8_shapeOf_6 : decode cX8_shapeOf 6 = .ok (.lconst 0, 1) := by decide +kernel
theorem dX8_shapeOf_7 : decode cX8_shapeOf 7 = .ok (.lstore_n 3, 1) := by decide +kernel
theorem dX8_shapeOf_8 : decode cX8_shapeOf 8 = .ok (.iload_n 2, 1) := by decide +kernel
theorem dX8_shapeOf_9 : decode cX8_shapeOf 9 = .ok (.istore 5, 2) := by decide +kernel
theorem dX8_shapeOf_11 : decode cX8_shapeOf 11 = .ok (.iload 5, 2) := by decide +kernel
theorem dX8_shapeOf_13 : decode cX8_shapeOf 13 = .ok (.aload_n 0, 1) := by decide +kernel
theorem dX8_shapeOf_14 : decode cX8_shapeOf 14 = .ok (.iload_n 2, 1) := by decide +kernel
theorem dX8_shapeOf_15 : decode cX8_shapeOf 15 = .ok (.invokevirtual 124, 3) := by decide +kernel
theorem dX8_shapeOf_18 : decode cX8_shapeOf 18 = .ok (.if_icmp .ge 23, 3) := by decide +kernel
theorem dX8_shapeOf_21 : decode cX8_shapeOf 21 = .ok (.ldc2_w 170, 3) := by decide +kernel
theorem dX8_shapeOf_24 : decode cX8_shapeOf 24 = .ok (.lload_n 3, 1) := by decide +kernel
theorem dX8_shapeOf_25 : decode cX8_shapeOf 25 = .ok (.lmul, 1) := by decide +kernel
theorem dX8_shapeOf_26 : decode cX8_shapeOf 26 = .ok (.aload_n 0, 1) := by decide +kernel
theorem dX8_shapeOf_27 : decode cX8_shapeOf 27 = .ok (.iload 5, 2) := by decide +kernel
theorem dX8_shapeOf_29 : decode cX8_shapeOf 29 = .ok (.invokevirtual 82, 3) := by decide +kernel
theorem dX8_shapeOf_32 : decode cX8_shapeOf 32 = .ok (.i2l, 1) := by decide +kernel
theorem dX8_shapeOf_33 : decode cX8_shapeOf 33 = .ok (.ladd, 1) := by decide +kernel
theorem dX8_shapeOf_34 : decode cX8_shapeOf 34 = .ok (.lstore_n 3, 1) := by decide +kernel
theorem dX8_shapeOf_35 : decode cX8_shapeOf 35 = .ok (.iinc 5 1, 3) := by decide +kernel
theorem dX8_shapeOf_38 : decode cX8_shapeOf 38 = .ok (.goto (-27), 3) := by decide +kernel
theorem dX8_shapeOf_41 : decode cX8_shapeOf 41 = .ok (.lload_n 3, 1) := by decide +kernel
theorem dX8_shapeOf_42 : decode cX8_shapeOf 42 = .ok (.lreturn, 1) := by decide +kernel
theorem dX8_linesOf_0 : decode cX8_linesOf 0 = .ok (.aload_n 0, 1) := by decide +kernel
theorem dX8_linesOf_1 : decode cX8_linesOf 1 = .ok (.iload_n 1, 1) := by decide +kernel
theorem dX8_linesOf_2 : decode cX8_linesOf 2 = .ok (.invokevirtual 167, 3) := by decide +kernel
theorem dX8_linesOf_5 : decode cX8_linesOf 5 = .ok (.istore_n 2, 1) := by decide +kernel
theorem dX8_linesOf_6 : decode cX8_linesOf 6 = .ok (.aload_n 0, 1) := by decide +kernel
theorem dX8_linesOf_7 : decode cX8_linesOf 7 = .ok (.iload_n 2, 1) := by decide +kernel
theorem dX8_linesOf_8 : decode cX8_linesOf 8 = .ok (.invokevirtual 124, 3) := by decide +kernel
theorem dX8_linesOf_11 : decode cX8_linesOf 11 = .ok (.iload_n 2, 1) := by decide +kernel
theorem dX8_linesOf_12 : decode cX8_linesOf 12 = .ok (.isub, 1) := by decide +kernel
theorem dX8_linesOf_13 : decode cX8_linesOf 13 = .ok (.ireturn, 1) := by decide +kernel
theorem dX8_rhymesOf_0 : decode cX8_rhymesOf 0 = .ok (.aload_n 0, 1) := by decide +kernel
theorem dX8_rhymesOf_1 : decode cX8_rhymesOf 1 = .ok (.iload_n 1, 1) := by decide +kernel
theorem dX8_rhymesOf_2 : decode cX8_rhymesOf 2 = .ok (.invokevirtual 167, 3) := by decide +kernel
theorem dX8_rhymesOf_5 : decode cX8_rhymesOf 5 = .ok (.istore_n 2, 1) := by decide +kernel
theorem dX8_rhymesOf_6 : decode cX8_rhymesOf 6 = .ok (.iconst 0, 1) := by decide +kernel
theorem dX8_rhymesOf_7 : decode cX8_rhymesOf 7 = .ok (.istore_n 3, 1) := by decide +kernel
theorem dX8_rhymesOf_8 : decode cX8_rhymesOf 8 = .ok (.iload_n 2, 1) := by decide +kernel
theorem dX8_rhymesOf_9 : decode cX8_rhymesOf 9 = .ok (.istore 4, 2) := by decide +kernel
theorem dX8_rhymesOf_11 : decode cX8_rhymesOf 11 = .ok (.iload 4, 2) := by decide +kernel
theorem dX8_rhymesOf_13 : decode cX8_rhymesOf 13 = .ok (.aload_n 0, 1) := by decide +kernel
theorem dX8_rhymesOf_14 : decode cX8_rhymesOf 14 = .ok (.iload_n 2, 1) := by decide +kernel
theorem dX8_rhymesOf_15 : decode cX8_rhymesOf 15 = .ok (.invokevirtual 124, 3) := by decide +kernel
theorem dX8_rhymesOf_18 : decode cX8_rhymesOf 18 = .ok (.if_icmp .ge 21, 3) := by decide +kernel
theorem dX8_rhymesOf_21 : decode cX8_rhymesOf 21 = .ok (.iload_n 3, 1) := by decide +kernel
theorem dX8_rhymesOf_22 : decode cX8_rhymesOf 22 = .ok (.iconst 1, 1) := by decide +kernel
theorem dX8_rhymesOf_23 : decode cX8_rhymesOf 23 = .ok (.aload_n 0, 1) := by decide +kernel
theorem dX8_rhymesOf_24 : decode cX8_rhymesOf 24 = .ok (.iload 4, 2) := by decide +kernel
theorem dX8_rhymesOf_26 : decode cX8_rhymesOf 26 = .ok (.iconst 0, 1) := by decide +kernel
theorem dX8_rhymesOf_27 : decode cX8_rhymesOf 27 = .ok (.invokevirtual 67, 3) := by decide +kernel
theorem dX8_rhymesOf_30 : decode cX8_rhymesOf 30 = .ok (.ishl, 1) := by decide +kernel
theorem dX8_rhymesOf_31 : decode cX8_rhymesOf 31 = .ok (.ior, 1) := by decide +kernel
theorem dX8_rhymesOf_32 : decode cX8_rhymesOf 32 = .ok (.istore_n 3, 1) := by decide +kernel
theorem dX8_rhymesOf_33 : decode cX8_rhymesOf 33 = .ok (.iinc 4 1, 3) := by decide +kernel
theorem dX8_rhymesOf_36 : decode cX8_rhymesOf 36 = .ok (.goto (-25), 3) := by decide +kernel
theorem dX8_rhymesOf_39 : decode cX8_rhymesOf 39 = .ok (.iload_n 3, 1) := by decide +kernel
theorem dX8_rhymesOf_40 : decode cX8_rhymesOf 40 = .ok (.invokestatic 108, 3) := by decide +kernel
theorem dX8_rhymesOf_43 : decode cX8_rhymesOf 43 = .ok (.ireturn, 1) := by decide +kernel
theorem dX8_alike_0 : decode cX8_alike 0 = .ok (.iconst 0, 1) := by decide +kernel
theorem dX8_alike_1 : decode cX8_alike 1 = .ok (.istore_n 2, 1) := by decide +kernel
theorem dX8_alike_2 : decode cX8_alike 2 = .ok (.aload_n 0, 1) := by decide +kernel
theorem dX8_alike_3 : decode cX8_alike 3 = .ok (.iload_n 2, 1) := by decide +kernel
theorem dX8_alike_4 : decode cX8_alike 4 = .ok (.invokevirtual 172, 3) := by decide +kernel
theorem dX8_alike_7 : decode cX8_alike 7 = .ok (.aload_n 0, 1) := by decide +kernel
theorem dX8_alike_8 : decode cX8_alike 8 = .ok (.iload_n 1, 1) := by decide +kernel
theorem dX8_alike_9 : decode cX8_alike 9 = .ok (.invokevirtual 172, 3) := by decide +kernel
theorem dX8_alike_12 : decode cX8_alike 12 = .ok (.if_icmp .ne 17, 3) := by decide +kernel
theorem dX8_alike_15 : decode cX8_alike 15 = .ok (.aload_n 0, 1) := by decide +kernel
theorem dX8_alike_16 : decode cX8_alike 16 = .ok (.iload_n 2, 1) := by decide +kernel
theorem dX8_alike_17 : decode cX8_alike 17 = .ok (.invokevirtual 175, 3) := by decide +kernel
theorem dX8_alike_20 : decode cX8_alike 20 = .ok (.aload_n 0, 1) := by decide +kernel
theorem dX8_alike_21 : decode cX8_alike 21 = .ok (.iload_n 1, 1) := by decide +kernel
theorem dX8_alike_22 : decode cX8_alike 22 = .ok (.invokevirtual 175, 3) := by decide +kernel
theorem dX8_alike_25 : decode cX8_alike 25 = .ok (.lcmp, 1) := by decide +kernel
theorem dX8_alike_26 : decode cX8_alike 26 = .ok (.ifCond .eq 9, 3) := by decide +kernel
theorem dX8_alike_29 : decode cX8_alike 29 = .ok (.iinc 2 1, 3) := by decide +kernel
theorem dX8_alike_32 : decode cX8_alike 32 = .ok (.goto (-30), 3) := by decide +kernel
theorem dX8_alike_35 : decode cX8_alike 35 = .ok (.iload_n 2, 1) := by decide +kernel
theorem dX8_alike_36 : decode cX8_alike 36 = .ok (.ireturn, 1) := by decide +kernel
theorem dX8_stanza_0 : decode cX8_stanza 0 = .ok (.iload_n 1, 1) := by decide +kernel
theorem dX8_stanza_1 : decode cX8_stanza 1 = .ok (.i2l, 1) := by decide +kernel
theorem dX8_stanza_2 : decode cX8_stanza 2 = .ok (.lconst 0, 1) := by decide +kernel
theorem dX8_stanza_3 : decode cX8_stanza 3 = .ok (.aload_n 0, 1) := by decide +kernel
theorem dX8_stanza_4 : decode cX8_stanza 4 = .ok (.invokevirtual 154, 3) := by decide +kernel
theorem dX8_stanza_7 : decode cX8_stanza 7 = .ok (.iconst 1, 1) := by decide +kernel
theorem dX8_stanza_8 : decode cX8_stanza 8 = .ok (.isub, 1) := by decide +kernel
theorem dX8_stanza_9 : decode cX8_stanza 9 = .ok (.i2l, 1) := by decide +kernel
theorem dX8_stanza_10 : decode cX8_stanza 10 = .ok (.invokestatic 63, 3) := by decide +kernel
theorem dX8_stanza_13 : decode cX8_stanza 13 = .ok (.ifCond .ne 7, 3) := by decide +kernel
theorem dX8_stanza_16 : decode cX8_stanza 16 = .ok (.ldc2_w 179, 3) := by decide +kernel
theorem dX8_stanza_19 : decode cX8_stanza 19 = .ok (.lreturn, 1) := by decide +kernel
theorem dX8_stanza_20 : decode cX8_stanza 20 = .ok (.iload_n 2, 1) := by decide +kernel
theorem dX8_stanza_21 : decode cX8_stanza 21 = .ok (.tableswitch 69 0 4 #[35, 42, 49, 56, 62], 35) := by decide +kernel
theorem dX8_stanza_56 : decode cX8_stanza 56 = .ok (.aload_n 0, 1) := by decide +kernel
theorem dX8_stanza_57 : decode cX8_stanza 57 = .ok (.iload_n 1, 1) := by decide +kernel
theorem dX8_stanza_58 : decode cX8_stanza 58 = .ok (.invokevirtual 167, 3) := by decide +kernel
theorem dX8_stanza_61 : decode cX8_stanza 61 = .ok (.i2l, 1) := by decide +kernel
theorem dX8_stanza_62 : decode cX8_stanza 62 = .ok (.lreturn, 1) := by decide +kernel
theorem dX8_stanza_63 : decode cX8_stanza 63 = .ok (.aload_n 0, 1) := by decide +kernel
theorem dX8_stanza_64 : decode cX8_stanza 64 = .ok (.iload_n 1, 1) := by decide +kernel
theorem dX8_stanza_65 : decode cX8_stanza 65 = .ok (.invokevirtual 172, 3) := by decide +kernel
theorem dX8_stanza_68 : decode cX8_stanza 68 = .ok (.i2l, 1) := by decide +kernel
theorem dX8_stanza_69 : decode cX8_stanza 69 = .ok (.lreturn, 1) := by decide +kernel
theorem dX8_stanza_70 : decode cX8_stanza 70 = .ok (.aload_n 0, 1) := by decide +kernel
theorem dX8_stanza_71 : decode cX8_stanza 71 = .ok (.iload_n 1, 1) := by decide +kernel
theorem dX8_stanza_72 : decode cX8_stanza 72 = .ok (.invokevirtual 181, 3) := by decide +kernel
theorem dX8_stanza_75 : decode cX8_stanza 75 = .ok (.i2l, 1) := by decide +kernel
theorem dX8_stanza_76 : decode cX8_stanza 76 = .ok (.lreturn, 1) := by decide +kernel
theorem dX8_stanza_77 : decode cX8_stanza 77 = .ok (.aload_n 0, 1) := by decide +kernel
theorem dX8_stanza_78 : decode cX8_stanza 78 = .ok (.iload_n 1, 1) := by decide +kernel
theorem dX8_stanza_79 : decode cX8_stanza 79 = .ok (.invokevirtual 175, 3) := by decide +kernel
theorem dX8_stanza_82 : decode cX8_stanza 82 = .ok (.lreturn, 1) := by decide +kernel
theorem dX8_stanza_83 : decode cX8_stanza 83 = .ok (.aload_n 0, 1) := by decide +kernel
theorem dX8_stanza_84 : decode cX8_stanza 84 = .ok (.iload_n 1, 1) := by decide +kernel
theorem dX8_stanza_85 : decode cX8_stanza 85 = .ok (.invokevirtual 184, 3) := by decide +kernel
theorem dX8_stanza_88 : decode cX8_stanza 88 = .ok (.i2l, 1) := by decide +kernel
theorem dX8_stanza_89 : decode cX8_stanza 89 = .ok (.lreturn, 1) := by decide +kernel
theorem dX8_stanza_90 : decode cX8_stanza 90 = .ok (.ldc2_w 179, 3) := by decide +kernel
theorem dX8_stanza_93 : decode cX8_stanza 93 = .ok (.lreturn, 1) := by decide +kernel
theorem dX8_wholeBy_0 : decode cX8_wholeBy 0 = .ok (.iconst 0, 1) := by decide +kernel
theorem dX8_wholeBy_1 : decode cX8_wholeBy 1 = .ok (.istore_n 3, 1) := by decide +kernel
theorem dX8_wholeBy_2 : decode cX8_wholeBy 2 = .ok (.iload_n 3, 1) := by decide +kernel
theorem dX8_wholeBy_3 : decode cX8_wholeBy 3 = .ok (.bipush 80, 2) := by decide +kernel
theorem dX8_wholeBy_5 : decode cX8_wholeBy 5 = .ok (.if_icmp .ge 24, 3) := by decide +kernel
theorem dX8_wholeBy_8 : decode cX8_wholeBy 8 = .ok (.aload_n 0, 1) := by decide +kernel
theorem dX8_wholeBy_9 : decode cX8_wholeBy 9 = .ok (.getfield 54, 3) := by decide +kernel
theorem dX8_wholeBy_12 : decode cX8_wholeBy 12 = .ok (.iload_n 3, 1) := by decide +kernel
theorem dX8_wholeBy_13 : decode cX8_wholeBy 13 = .ok (.iload_n 3, 1) := by decide +kernel
theorem dX8_wholeBy_14 : decode cX8_wholeBy 14 = .ok (.ifCond .ne 7, 3) := by decide +kernel
theorem dX8_wholeBy_17 : decode cX8_wholeBy 17 = .ok (.lconst 1, 1) := by decide +kernel
theorem dX8_wholeBy_18 : decode cX8_wholeBy 18 = .ok (.goto 4, 3) := by decide +kernel
theorem dX8_wholeBy_21 : decode cX8_wholeBy 21 = .ok (.lconst 0, 1) := by decide +kernel
theorem dX8_wholeBy_22 : decode cX8_wholeBy 22 = .ok (.lastore, 1) := by decide +kernel
theorem dX8_wholeBy_23 : decode cX8_wholeBy 23 = .ok (.iinc 3 1, 3) := by decide +kernel
theorem dX8_wholeBy_26 : decode cX8_wholeBy 26 = .ok (.goto (-24), 3) := by decide +kernel
theorem dX8_wholeBy_29 : decode cX8_wholeBy 29 = .ok (.aload_n 0, 1) := by decide +kernel
theorem dX8_wholeBy_30 : decode cX8_wholeBy 30 = .ok (.iload_n 1, 1) := by decide +kernel
theorem dX8_wholeBy_31 : decode cX8_wholeBy 31 = .ok (.invokevirtual 167, 3) := by decide +kernel
theorem dX8_wholeBy_34 : decode cX8_wholeBy 34 = .ok (.istore_n 3, 1) := by decide +kernel
theorem dX8_wholeBy_35 : decode cX8_wholeBy 35 = .ok (.iload_n 3, 1) := by decide +kernel
theorem dX8_wholeBy_36 : decode cX8_wholeBy 36 = .ok (.istore 4, 2) := by decide +kernel
theorem dX8_wholeBy_38 : decode cX8_wholeBy 38 = .ok (.iload 4, 2) := by decide +kernel
theorem dX8_wholeBy_40 : decode cX8_wholeBy 40 = .ok (.aload_n 0, 1) := by decide +kernel
theorem dX8_wholeBy_41 : decode cX8_wholeBy 41 = .ok (.iload_n 3, 1) := by decide +kernel
theorem dX8_wholeBy_42 : decode cX8_wholeBy 42 = .ok (.invokevirtual 124, 3) := by decide +kernel
theorem dX8_wholeBy_45 : decode cX8_wholeBy 45 = .ok (.if_icmp .ge 79, 3) := by decide +kernel
theorem dX8_wholeBy_48 : decode cX8_wholeBy 48 = .ok (.bipush 79, 2) := by decide +kernel
theorem dX8_wholeBy_50 : decode cX8_wholeBy 50 = .ok (.istore 5, 2) := by decide +kernel
theorem dX8_wholeBy_52 : decode cX8_wholeBy 52 = .ok (.iload 5, 2) := by decide +kernel
theorem dX8_wholeBy_54 : decode cX8_wholeBy 54 = .ok (.ifCond .lt 64, 3) := by decide +kernel
theorem dX8_wholeBy_57 : decode cX8_wholeBy 57 = .ok (.aload_n 0, 1) := by decide +kernel
theorem dX8_wholeBy_58 : decode cX8_wholeBy 58 = .ok (.getfield 54, 3) := by decide +kernel
theorem dX8_wholeBy_61 : decode cX8_wholeBy 61 = .ok (.iload 5, 2) := by decide +kernel
theorem dX8_wholeBy_63 : decode cX8_wholeBy 63 = .ok (.iload_n 2, 1) := by decide +kernel
theorem dX8_wholeBy_64 : decode cX8_wholeBy 64 = .ok (.i2l, 1) := by decide +kernel
theorem dX8_wholeBy_65 : decode cX8_wholeBy 65 = .ok (.aload_n 0, 1) := by decide +kernel
theorem dX8_wholeBy_66 : decode cX8_wholeBy 66 = .ok (.getfield 54, 3) := by decide +kernel
theorem dX8_wholeBy_69 : decode cX8_wholeBy 69 = .ok (.iload 5, 2) := by decide +kernel
theorem dX8_wholeBy_71 : decode cX8_wholeBy 71 = .ok (.laload, 1) := by decide +kernel
theorem dX8_wholeBy_72 : decode cX8_wholeBy 72 = .ok (.lmul, 1) := by decide +kernel
theorem dX8_wholeBy_73 : decode cX8_wholeBy 73 = .ok (.iload 5, 2) := by decide +kernel
theorem dX8_wholeBy_75 : decode cX8_wholeBy 75 = .ok (.aload_n 0, 1) := by decide +kernel
theorem dX8_wholeBy_76 : decode cX8_wholeBy 76 = .ok (.getfield 42, 3) := by decide +kernel
theorem dX8_wholeBy_79 : decode cX8_wholeBy 79 = .ok (.iload 4, 2) := by decide +kernel
theorem dX8_wholeBy_81 : decode cX8_wholeBy 81 = .ok (.iaload, 1) := by decide +kernel
theorem dX8_wholeBy_82 : decode cX8_wholeBy 82 = .ok (.if_icmp .ge 7, 3) := by decide +kernel
theorem dX8_wholeBy_85 : decode cX8_wholeBy 85 = .ok (.lconst 0, 1) := by decide +kernel
theorem dX8_wholeBy_86 : decode cX8_wholeBy 86 = .ok (.goto 24, 3) := by decide +kernel
theorem dX8_wholeBy_89 : decode cX8_wholeBy 89 = .ok (.bipush 10, 2) := by decide +kernel
theorem dX8_wholeBy_91 : decode cX8_wholeBy 91 = .ok (.iload_n 2, 1) := by decide +kernel
theorem dX8_wholeBy_92 : decode cX8_wholeBy 92 = .ok (.isub, 1) := by decide +kernel
theorem dX8_wholeBy_93 : decode cX8_wholeBy 93 = .ok (.i2l, 1) := by decide +kernel
theorem dX8_wholeBy_94 : decode cX8_wholeBy 94 = .ok (.aload_n 0, 1) := by decide +kernel
theorem dX8_wholeBy_95 : decode cX8_wholeBy 95 = .ok (.getfield 54, 3) := by decide +kernel
theorem dX8_wholeBy_98 : decode cX8_wholeBy 98 = .ok (.iload 5, 2) := by decide +kernel
theorem dX8_wholeBy_100 : decode cX8_wholeBy 100 = .ok (.aload_n 0, 1) := by decide +kernel
theorem dX8_wholeBy_101 : decode cX8_wholeBy 101 = .ok (.getfield 42, 3) := by decide +kernel
theorem dX8_wholeBy_104 : decode cX8_wholeBy 104 = .ok (.iload 4, 2) := by decide +kernel
theorem dX8_wholeBy_106 : decode cX8_wholeBy 106 = .ok (.iaload, 1) := by decide +kernel
theorem dX8_wholeBy_107 : decode cX8_wholeBy 107 = .ok (.isub, 1) := by decide +kernel
theorem dX8_wholeBy_108 : decode cX8_wholeBy 108 = .ok (.laload, 1) := by decide +kernel
theorem dX8_wholeBy_109 : decode cX8_wholeBy 109 = .ok (.lmul, 1) := by decide +kernel
theorem dX8_wholeBy_110 : decode cX8_wholeBy 110 = .ok (.ladd, 1) := by decide +kernel
theorem dX8_wholeBy_111 : decode cX8_wholeBy 111 = .ok (.lastore, 1) := by decide +kernel
theorem dX8_wholeBy_112 : decode cX8_wholeBy 112 = .ok (.iinc 5 (-1), 3) := by decide +kernel
theorem dX8_wholeBy_115 : decode cX8_wholeBy 115 = .ok (.goto (-63), 3) := by decide +kernel
theorem dX8_wholeBy_118 : decode cX8_wholeBy 118 = .ok (.iinc 4 1, 3) := by decide +kernel
theorem dX8_wholeBy_121 : decode cX8_wholeBy 121 = .ok (.goto (-83), 3) := by decide +kernel
theorem dX8_wholeBy_124 : decode cX8_wholeBy 124 = .ok (.lconst 0, 1) := by decide +kernel
theorem dX8_wholeBy_125 : decode cX8_wholeBy 125 = .ok (.lstore 4, 2) := by decide +kernel
theorem dX8_wholeBy_127 : decode cX8_wholeBy 127 = .ok (.iconst 0, 1) := by decide +kernel
theorem dX8_wholeBy_128 : decode cX8_wholeBy 128 = .ok (.istore 6, 2) := by decide +kernel
theorem dX8_wholeBy_130 : decode cX8_wholeBy 130 = .ok (.iload 6, 2) := by decide +kernel
theorem dX8_wholeBy_132 : decode cX8_wholeBy 132 = .ok (.aload_n 0, 1) := by decide +kernel
theorem dX8_wholeBy_133 : decode cX8_wholeBy 133 = .ok (.getfield 7, 3) := by decide +kernel
theorem dX8_wholeBy_136 : decode cX8_wholeBy 136 = .ok (.iconst 5, 1) := by decide +kernel
theorem dX8_wholeBy_137 : decode cX8_wholeBy 137 = .ok (.iaload, 1) := by decide +kernel
theorem dX8_wholeBy_138 : decode cX8_wholeBy 138 = .ok (.if_icmp .gt 21, 3) := by decide +kernel
theorem dX8_wholeBy_141 : decode cX8_wholeBy 141 = .ok (.lload 4, 2) := by decide +kernel
theorem dX8_wholeBy_143 : decode cX8_wholeBy 143 = .ok (.aload_n 0, 1) := by decide +kernel
theorem dX8_wholeBy_144 : decode cX8_wholeBy 144 = .ok (.getfield 54, 3) := by decide +kernel
theorem dX8_wholeBy_147 : decode cX8_wholeBy 147 = .ok (.iload 6, 2) := by decide +kernel
theorem dX8_wholeBy_149 : decode cX8_wholeBy 149 = .ok (.laload, 1) := by decide +kernel
theorem dX8_wholeBy_150 : decode cX8_wholeBy 150 = .ok (.ladd, 1) := by decide +kernel
theorem dX8_wholeBy_151 : decode cX8_wholeBy 151 = .ok (.lstore 4, 2) := by decide +kernel
theorem dX8_wholeBy_153 : decode cX8_wholeBy 153 = .ok (.iinc 6 1, 3) := by decide +kernel
theorem dX8_wholeBy_156 : decode cX8_wholeBy 156 = .ok (.goto (-26), 3) := by decide +kernel
theorem dX8_wholeBy_159 : decode cX8_wholeBy 159 = .ok (.lload 4, 2) := by decide +kernel
theorem dX8_wholeBy_161 : decode cX8_wholeBy 161 = .ok (.lreturn, 1) := by decide +kernel
theorem dX8_whole_0 : decode cX8_whole 0 = .ok (.iload_n 1, 1) := by decide +kernel
theorem dX8_whole_1 : decode cX8_whole 1 = .ok (.i2l, 1) := by decide +kernel
theorem dX8_whole_2 : decode cX8_whole 2 = .ok (.lconst 0, 1) := by decide +kernel
theorem dX8_whole_3 : decode cX8_whole 3 = .ok (.ldc2_w 170, 3) := by decide +kernel
theorem dX8_whole_6 : decode cX8_whole 6 = .ok (.invokestatic 63, 3) := by decide +kernel
theorem dX8_whole_9 : decode cX8_whole 9 = .ok (.ifCond .eq 13, 3) := by decide +kernel
theorem dX8_whole_12 : decode cX8_whole 12 = .ok (.iload_n 2, 1) := by decide +kernel
theorem dX8_whole_13 : decode cX8_whole 13 = .ok (.i2l, 1) := by decide +kernel
theorem dX8_whole_14 : decode cX8_whole 14 = .ok (.lconst 0, 1) := by decide +kernel
theorem dX8_whole_15 : decode cX8_whole 15 = .ok (.lconst 1, 1) := by decide +kernel
theorem dX8_whole_16 : decode cX8_whole 16 = .ok (.invokestatic 63, 3) := by decide +kernel
theorem dX8_whole_19 : decode cX8_whole 19 = .ok (.ifCond .ne 7, 3) := by decide +kernel
theorem dX8_whole_22 : decode cX8_whole 22 = .ok (.ldc2_w 179, 3) := by decide +kernel
theorem dX8_whole_25 : decode cX8_whole 25 = .ok (.lreturn, 1) := by decide +kernel
theorem dX8_whole_26 : decode cX8_whole 26 = .ok (.aload_n 0, 1) := by decide +kernel
theorem dX8_whole_27 : decode cX8_whole 27 = .ok (.invokevirtual 127, 3) := by decide +kernel
theorem dX8_whole_30 : decode cX8_whole 30 = .ok (.aload_n 0, 1) := by decide +kernel
theorem dX8_whole_31 : decode cX8_whole 31 = .ok (.getfield 111, 3) := by decide +kernel
theorem dX8_whole_34 : decode cX8_whole 34 = .ok (.ifCond .eq 7, 3) := by decide +kernel
theorem dX8_whole_37 : decode cX8_whole 37 = .ok (.lconst 1, 1) := by decide +kernel
theorem dX8_whole_38 : decode cX8_whole 38 = .ok (.goto 4, 3) := by decide +kernel
theorem dX8_whole_41 : decode cX8_whole 41 = .ok (.lconst 0, 1) := by decide +kernel
theorem dX8_whole_42 : decode cX8_whole 42 = .ok (.lstore_n 3, 1) := by decide +kernel
theorem dX8_whole_43 : decode cX8_whole 43 = .ok (.lconst 1, 1) := by decide +kernel
theorem dX8_whole_44 : decode cX8_whole 44 = .ok (.lstore 5, 2) := by decide +kernel
theorem dX8_whole_46 : decode cX8_whole 46 = .ok (.iconst 0, 1) := by decide +kernel
theorem dX8_whole_47 : decode cX8_whole 47 = .ok (.istore 7, 2) := by decide +kernel
theorem dX8_whole_49 : decode cX8_whole 49 = .ok (.iload 7, 2) := by decide +kernel
theorem dX8_whole_51 : decode cX8_whole 51 = .ok (.aload_n 0, 1) := by decide +kernel
theorem dX8_whole_52 : decode cX8_whole 52 = .ok (.invokevirtual 154, 3) := by decide +kernel
theorem dX8_whole_55 : decode cX8_whole 55 = .ok (.if_icmp .ge 26, 3) := by decide +kernel
theorem dX8_whole_58 : decode cX8_whole 58 = .ok (.aload_n 0, 1) := by decide +kernel
theorem dX8_whole_59 : decode cX8_whole 59 = .ok (.getfield 111, 3) := by decide +kernel
theorem dX8_whole_62 : decode cX8_whole 62 = .ok (.ifCond .eq 19, 3) := by decide +kernel
theorem dX8_whole_65 : decode cX8_whole 65 = .ok (.lload_n 3, 1) := by decide +kernel
theorem dX8_whole_66 : decode cX8_whole 66 = .ok (.aload_n 0, 1) := by decide +kernel
theorem dX8_whole_67 : decode cX8_whole 67 = .ok (.iload 7, 2) := by decide +kernel
theorem dX8_whole_69 : decode cX8_whole 69 = .ok (.iload_n 1, 1) := by decide +kernel
theorem dX8_whole_70 : decode cX8_whole 70 = .ok (.invokevirtual 187, 3) := by decide +kernel
theorem dX8_whole_73 : decode cX8_whole 73 = .ok (.lmul, 1) := by decide +kernel
theorem dX8_whole_74 : decode cX8_whole 74 = .ok (.lstore_n 3, 1) := by decide +kernel
theorem dX8_whole_75 : decode cX8_whole 75 = .ok (.iinc 7 1, 3) := by decide +kernel
theorem dX8_whole_78 : decode cX8_whole 78 = .ok (.goto (-29), 3) := by decide +kernel
theorem dX8_whole_81 : decode cX8_whole 81 = .ok (.iconst 0, 1) := by decide +kernel
theorem dX8_whole_82 : decode cX8_whole 82 = .ok (.istore 7, 2) := by decide +kernel
theorem dX8_whole_84 : decode cX8_whole 84 = .ok (.iload 7, 2) := by decide +kernel
theorem dX8_whole_86 : decode cX8_whole 86 = .ok (.aload_n 0, 1) := by decide +kernel
theorem dX8_whole_87 : decode cX8_whole 87 = .ok (.getfield 7, 3) := by decide +kernel
theorem dX8_whole_90 : decode cX8_whole 90 = .ok (.iconst 0, 1) := by decide +kernel
theorem dX8_whole_91 : decode cX8_whole 91 = .ok (.iaload, 1) := by decide +kernel
theorem dX8_whole_92 : decode cX8_whole 92 = .ok (.if_icmp .ge 17, 3) := by decide +kernel
theorem dX8_whole_95 : decode cX8_whole 95 = .ok (.lload 5, 2) := by decide +kernel
theorem dX8_whole_97 : decode cX8_whole 97 = .ok (.ldc2_w 170, 3) := by decide +kernel
theorem dX8_whole_100 : decode cX8_whole 100 = .ok (.lmul, 1) := by decide +kernel
theorem dX8_whole_101 : decode cX8_whole 101 = .ok (.lstore 5, 2) := by decide +kernel
theorem dX8_whole_103 : decode cX8_whole 103 = .ok (.iinc 7 1, 3) := by decide +kernel
theorem dX8_whole_106 : decode cX8_whole 106 = .ok (.goto (-22), 3) := by decide +kernel
theorem dX8_whole_109 : decode cX8_whole 109 = .ok (.lload_n 3, 1) := by decide +kernel
theorem dX8_whole_110 : decode cX8_whole 110 = .ok (.lstore 7, 2) := by decide +kernel
theorem dX8_whole_112 : decode cX8_whole 112 = .ok (.lload 5, 2) := by decide +kernel
theorem dX8_whole_114 : decode cX8_whole 114 = .ok (.lstore 9, 2) := by decide +kernel
theorem dX8_whole_116 : decode cX8_whole 116 = .ok (.lload 9, 2) := by decide +kernel
theorem dX8_whole_118 : decode cX8_whole 118 = .ok (.lconst 0, 1) := by decide +kernel
theorem dX8_whole_119 : decode cX8_whole 119 = .ok (.lcmp, 1) := by decide +kernel
theorem dX8_whole_120 : decode cX8_whole 120 = .ok (.ifCond .eq 21, 3) := by decide +kernel
theorem dX8_whole_123 : decode cX8_whole 123 = .ok (.lload 7, 2) := by decide +kernel
theorem dX8_whole_125 : decode cX8_whole 125 = .ok (.lload 9, 2) := by decide +kernel
theorem dX8_whole_127 : decode cX8_whole 127 = .ok (.lrem, 1) := by decide +kernel
theorem dX8_whole_128 : decode cX8_whole 128 = .ok (.lstore 11, 2) := by decide +kernel
theorem dX8_whole_130 : decode cX8_whole 130 = .ok (.lload 9, 2) := by decide +kernel
theorem dX8_whole_132 : decode cX8_whole 132 = .ok (.lstore 7, 2) := by decide +kernel
theorem dX8_whole_134 : decode cX8_whole 134 = .ok (.lload 11, 2) := by decide +kernel
theorem dX8_whole_136 : decode cX8_whole 136 = .ok (.lstore 9, 2) := by decide +kernel
theorem dX8_whole_138 : decode cX8_whole 138 = .ok (.goto (-22), 3) := by decide +kernel
theorem dX8_whole_141 : decode cX8_whole 141 = .ok (.iload_n 2, 1) := by decide +kernel
theorem dX8_whole_142 : decode cX8_whole 142 = .ok (.ifCond .ne 10, 3) := by decide +kernel
theorem dX8_whole_145 : decode cX8_whole 145 = .ok (.lload_n 3, 1) := by decide +kernel
theorem dX8_whole_146 : decode cX8_whole 146 = .ok (.lload 7, 2) := by decide +kernel
theorem dX8_whole_148 : decode cX8_whole 148 = .ok (.ldiv, 1) := by decide +kernel
theorem dX8_whole_149 : decode cX8_whole 149 = .ok (.goto 8, 3) := by decide +kernel
theorem dX8_whole_152 : decode cX8_whole 152 = .ok (.lload 5, 2) := by decide +kernel
theorem dX8_whole_154 : decode cX8_whole 154 = .ok (.lload 7, 2) := by decide +kernel
theorem dX8_whole_156 : decode cX8_whole 156 = .ok (.ldiv, 1) := by decide +kernel
theorem dX8_whole_157 : decode cX8_whole 157 = .ok (.lreturn, 1) := by decide +kernel
theorem dX8_starts_0 : decode cX8_starts 0 = .ok (.iconst 0, 1) := by decide +kernel
theorem dX8_starts_1 : decode cX8_starts 1 = .ok (.istore_n 1, 1) := by decide +kernel
theorem dX8_starts_2 : decode cX8_starts 2 = .ok (.iload_n 1, 1) := by decide +kernel
theorem dX8_starts_3 : decode cX8_starts 3 = .ok (.sipush 189, 3) := by decide +kernel
theorem dX8_starts_6 : decode cX8_starts 6 = .ok (.if_icmp .ge 21, 3) := by decide +kernel
theorem dX8_starts_9 : decode cX8_starts 9 = .ok (.aload_n 0, 1) := by decide +kernel
theorem dX8_starts_10 : decode cX8_starts 10 = .ok (.getfield 57, 3) := by decide +kernel
theorem dX8_starts_13 : decode cX8_starts 13 = .ok (.iload_n 1, 1) := by decide +kernel
theorem dX8_starts_14 : decode cX8_starts 14 = .ok (.aload_n 0, 1) := by decide +kernel
theorem dX8_starts_15 : decode cX8_starts 15 = .ok (.getfield 7, 3) := by decide +kernel
theorem dX8_starts_18 : decode cX8_starts 18 = .ok (.iload_n 1, 1) := by decide +kernel
theorem dX8_starts_19 : decode cX8_starts 19 = .ok (.iaload, 1) := by decide +kernel
theorem dX8_starts_20 : decode cX8_starts 20 = .ok (.iastore, 1) := by decide +kernel
theorem dX8_starts_21 : decode cX8_starts 21 = .ok (.iinc 1 1, 3) := by decide +kernel
theorem dX8_starts_24 : decode cX8_starts 24 = .ok (.goto (-22), 3) := by decide +kernel
theorem dX8_starts_27 : decode cX8_starts 27 = .ok (.return_, 1) := by decide +kernel
theorem dX8_notes_0 : decode cX8_notes 0 = .ok (.aload_n 0, 1) := by decide +kernel
theorem dX8_notes_1 : decode cX8_notes 1 = .ok (.getfield 161, 3) := by decide +kernel
theorem dX8_notes_4 : decode cX8_notes 4 = .ok (.bipush 6, 2) := by decide +kernel
theorem dX8_notes_6 : decode cX8_notes 6 = .ok (.if_icmp .ne 39, 3) := by decide +kernel
theorem dX8_notes_9 : decode cX8_notes 9 = .ok (.iconst 0, 1) := by decide +kernel
theorem dX8_notes_10 : decode cX8_notes 10 = .ok (.istore_n 1, 1) := by decide +kernel
theorem dX8_notes_11 : decode cX8_notes 11 = .ok (.iload_n 1, 1) := by decide +kernel
theorem dX8_notes_12 : decode cX8_notes 12 = .ok (.sipush 945, 3) := by decide +kernel
theorem dX8_notes_15 : decode cX8_notes 15 = .ok (.if_icmp .ge 25, 3) := by decide +kernel
theorem dX8_notes_18 : decode cX8_notes 18 = .ok (.aload_n 0, 1) := by decide +kernel
theorem dX8_notes_19 : decode cX8_notes 19 = .ok (.getfield 13, 3) := by decide +kernel
theorem dX8_notes_22 : decode cX8_notes 22 = .ok (.iload_n 1, 1) := by decide +kernel
theorem dX8_notes_23 : decode cX8_notes 23 = .ok (.aload_n 0, 1) := by decide +kernel
theorem dX8_notes_24 : decode cX8_notes 24 = .ok (.getfield 13, 3) := by decide +kernel
theorem dX8_notes_27 : decode cX8_notes 27 = .ok (.iload_n 1, 1) := by decide +kernel
theorem dX8_notes_28 : decode cX8_notes 28 = .ok (.sipush 189, 3) := by decide +kernel
theorem dX8_notes_31 : decode cX8_notes 31 = .ok (.iadd, 1) := by decide +kernel
theorem dX8_notes_32 : decode cX8_notes 32 = .ok (.iaload, 1) := by decide +kernel
theorem dX8_notes_33 : decode cX8_notes 33 = .ok (.iastore, 1) := by decide +kernel
theorem dX8_notes_34 : decode cX8_notes 34 = .ok (.iinc 1 1, 3) := by decide +kernel
theorem dX8_notes_37 : decode cX8_notes 37 = .ok (.goto (-26), 3) := by decide +kernel
theorem dX8_notes_40 : decode cX8_notes 40 = .ok (.aload_n 0, 1) := by decide +kernel
theorem dX8_notes_41 : decode cX8_notes 41 = .ok (.iconst 5, 1) := by decide +kernel
theorem dX8_notes_42 : decode cX8_notes 42 = .ok (.putfield 161, 3) := by decide +kernel
theorem dX8_notes_45 : decode cX8_notes 45 = .ok (.iconst 0, 1) := by decide +kernel
theorem dX8_notes_46 : decode cX8_notes 46 = .ok (.istore_n 1, 1) := by decide +kernel
theorem dX8_notes_47 : decode cX8_notes 47 = .ok (.iload_n 1, 1) := by decide +kernel
theorem dX8_notes_48 : decode cX8_notes 48 = .ok (.sipush 189, 3) := by decide +kernel
theorem dX8_notes_51 : decode cX8_notes 51 = .ok (.if_icmp .ge 30, 3) := by decide +kernel
theorem dX8_notes_54 : decode cX8_notes 54 = .ok (.aload_n 0, 1) := by decide +kernel
theorem dX8_notes_55 : decode cX8_notes 55 = .ok (.getfield 13, 3) := by decide +kernel
theorem dX8_notes_58 : decode cX8_notes 58 = .ok (.sipush 189, 3) := by decide +kernel
theorem dX8_notes_61 : decode cX8_notes 61 = .ok (.aload_n 0, 1) := by decide +kernel
theorem dX8_notes_62 : decode cX8_notes 62 = .ok (.getfield 161, 3) := by decide +kernel
theorem dX8_notes_65 : decode cX8_notes 65 = .ok (.imul, 1) := by decide +kernel
theorem dX8_notes_66 : decode cX8_notes 66 = .ok (.iload_n 1, 1) := by decide +kernel
theorem dX8_notes_67 : decode cX8_notes 67 = .ok (.iadd, 1) := by decide +kernel
theorem dX8_notes_68 : decode cX8_notes 68 = .ok (.aload_n 0, 1) := by decide +kernel
theorem dX8_notes_69 : decode cX8_notes 69 = .ok (.getfield 57, 3) := by decide +kernel
theorem dX8_notes_72 : decode cX8_notes 72 = .ok (.iload_n 1, 1) := by decide +kernel
theorem dX8_notes_73 : decode cX8_notes 73 = .ok (.iaload, 1) := by decide +kernel
theorem dX8_notes_74 : decode cX8_notes 74 = .ok (.iastore, 1) := by decide +kernel
theorem dX8_notes_75 : decode cX8_notes 75 = .ok (.iinc 1 1, 3) := by decide +kernel
theorem dX8_notes_78 : decode cX8_notes 78 = .ok (.goto (-31), 3) := by decide +kernel
theorem dX8_notes_81 : decode cX8_notes 81 = .ok (.aload_n 0, 1) := by decide +kernel
theorem dX8_notes_82 : decode cX8_notes 82 = .ok (.dup, 1) := by decide +kernel
theorem dX8_notes_83 : decode cX8_notes 83 = .ok (.getfield 161, 3) := by decide +kernel
theorem dX8_notes_86 : decode cX8_notes 86 = .ok (.iconst 1, 1) := by decide +kernel
theorem dX8_notes_87 : decode cX8_notes 87 = .ok (.iadd, 1) := by decide +kernel
theorem dX8_notes_88 : decode cX8_notes 88 = .ok (.putfield 161, 3) := by decide +kernel
theorem dX8_notes_91 : decode cX8_notes 91 = .ok (.return_, 1) := by decide +kernel
theorem dX8_done_0 : decode cX8_done 0 = .ok (.iload_n 1, 1) := by decide +kernel
theorem dX8_done_1 : decode cX8_done 1 = .ok (.ifCond .lt 7, 3) := by decide +kernel
theorem dX8_done_4 : decode cX8_done 4 = .ok (.aload_n 0, 1) := by decide +kernel
theorem dX8_done_5 : decode cX8_done 5 = .ok (.invokevirtual 191, 3) := by decide +kernel
theorem dX8_done_8 : decode cX8_done 8 = .ok (.iload_n 1, 1) := by decide +kernel
theorem dX8_done_9 : decode cX8_done 9 = .ok (.ireturn, 1) := by decide +kernel
theorem dX8_lineMore_0 : decode cX8_lineMore 0 = .ok (.iload_n 1, 1) := by decide +kernel
theorem dX8_lineMore_1 : decode cX8_lineMore 1 = .ok (.i2l, 1) := by decide +kernel
theorem dX8_lineMore_2 : decode cX8_lineMore 2 = .ok (.lconst 0, 1) := by decide +kernel
theorem dX8_lineMore_3 : decode cX8_lineMore 3 = .ok (.ldc2_w 150, 3) := by decide +kernel
theorem dX8_lineMore_6 : decode cX8_lineMore 6 = .ok (.invokestatic 63, 3) := by decide +kernel
theorem dX8_lineMore_9 : decode cX8_lineMore 9 = .ok (.ifCond .eq 13, 3) := by decide +kernel
theorem dX8_lineMore_12 : decode cX8_lineMore 12 = .ok (.iload_n 2, 1) := by decide +kernel
theorem dX8_lineMore_13 : decode cX8_lineMore 13 = .ok (.i2l, 1) := by decide +kernel
theorem dX8_lineMore_14 : decode cX8_lineMore 14 = .ok (.lconst 0, 1) := by decide +kernel
theorem dX8_lineMore_15 : decode cX8_lineMore 15 = .ok (.lconst 1, 1) := by decide +kernel
theorem dX8_lineMore_16 : decode cX8_lineMore 16 = .ok (.invokestatic 63, 3) := by decide +kernel
theorem dX8_lineMore_19 : decode cX8_lineMore 19 = .ok (.ifCond .ne 5, 3) := by decide +kernel
theorem dX8_lineMore_22 : decode cX8_lineMore 22 = .ok (.iconst (-1), 1) := by decide +kernel
theorem dX8_lineMore_23 : decode cX8_lineMore 23 = .ok (.ireturn, 1) := by decide +kernel
theorem dX8_lineMore_24 : decode cX8_lineMore 24 = .ok (.aload_n 0, 1) := by decide +kernel
theorem dX8_lineMore_25 : decode cX8_lineMore 25 = .ok (.getfield 7, 3) := by decide +kernel
theorem dX8_lineMore_28 : decode cX8_lineMore 28 = .ok (.iconst 0, 1) := by decide +kernel
theorem dX8_lineMore_29 : decode cX8_lineMore 29 = .ok (.iaload, 1) := by decide +kernel
theorem dX8_lineMore_30 : decode cX8_lineMore 30 = .ok (.istore_n 3, 1) := by decide +kernel
theorem dX8_lineMore_31 : decode cX8_lineMore 31 = .ok (.iload_n 3, 1) := by decide +kernel
theorem dX8_lineMore_32 : decode cX8_lineMore 32 = .ok (.bipush 12, 2) := by decide +kernel
theorem dX8_lineMore_34 : decode cX8_lineMore 34 = .ok (.if_icmp .ne 6, 3) := by decide +kernel
theorem dX8_lineMore_37 : decode cX8_lineMore 37 = .ok (.bipush (-3), 2) := by decide +kernel
theorem dX8_lineMore_39 : decode cX8_lineMore 39 = .ok (.ireturn, 1) := by decide +kernel
theorem dX8_lineMore_40 : decode cX8_lineMore 40 = .ok (.iconst 0, 1) := by decide +kernel
theorem dX8_lineMore_41 : decode cX8_lineMore 41 = .ok (.istore 4, 2) := by decide +kernel
theorem dX8_lineMore_43 : decode cX8_lineMore 43 = .ok (.iload 4, 2) := by decide +kernel
theorem dX8_lineMore_45 : decode cX8_lineMore 45 = .ok (.bipush 15, 2) := by decide +kernel
theorem dX8_lineMore_47 : decode cX8_lineMore 47 = .ok (.if_icmp .ge 25, 3) := by decide +kernel
theorem dX8_lineMore_50 : decode cX8_lineMore 50 = .ok (.aload_n 0, 1) := by decide +kernel
theorem dX8_lineMore_51 : decode cX8_lineMore 51 = .ok (.getfield 7, 3) := by decide +kernel
theorem dX8_lineMore_54 : decode cX8_lineMore 54 = .ok (.bipush 9, 2) := by decide +kernel
theorem dX8_lineMore_56 : decode cX8_lineMore 56 = .ok (.bipush 15, 2) := by decide +kernel
theorem dX8_lineMore_58 : decode cX8_lineMore 58 = .ok (.iload_n 3, 1) := by decide +kernel
theorem dX8_lineMore_59 : decode cX8_lineMore 59 = .ok (.imul, 1) := by decide +kernel
theorem dX8_lineMore_60 : decode cX8_lineMore 60 = .ok (.iadd, 1) := by decide +kernel
theorem dX8_lineMore_61 : decode cX8_lineMore 61 = .ok (.iload 4, 2) := by decide +kernel
theorem dX8_lineMore_63 : decode cX8_lineMore 63 = .ok (.iadd, 1) := by decide +kernel
theorem dX8_lineMore_64 : decode cX8_lineMore 64 = .ok (.iconst 0, 1) := by decide +kernel
theorem dX8_lineMore_65 : decode cX8_lineMore 65 = .ok (.iastore, 1) := by decide +kernel
theorem dX8_lineMore_66 : decode cX8_lineMore 66 = .ok (.iinc 4 1, 3) := by decide +kernel
theorem dX8_lineMore_69 : decode cX8_lineMore 69 = .ok (.goto (-26), 3) := by decide +kernel
theorem dX8_lineMore_72 : decode cX8_lineMore 72 = .ok (.aload_n 0, 1) := by decide +kernel
theorem dX8_lineMore_73 : decode cX8_lineMore 73 = .ok (.getfield 7, 3) := by decide +kernel
theorem dX8_lineMore_76 : decode cX8_lineMore 76 = .ok (.bipush 9, 2) := by decide +kernel
theorem dX8_lineMore_78 : decode cX8_lineMore 78 = .ok (.bipush 15, 2) := by decide +kernel
theorem dX8_lineMore_80 : decode cX8_lineMore 80 = .ok (.iload_n 3, 1) := by decide +kernel
theorem dX8_lineMore_81 : decode cX8_lineMore 81 = .ok (.imul, 1) := by decide +kernel
theorem dX8_lineMore_82 : decode cX8_lineMore 82 = .ok (.iadd, 1) := by decide +kernel
theorem dX8_lineMore_83 : decode cX8_lineMore 83 = .ok (.iconst 0, 1) := by decide +kernel
theorem dX8_lineMore_84 : decode cX8_lineMore 84 = .ok (.iadd, 1) := by decide +kernel
theorem dX8_lineMore_85 : decode cX8_lineMore 85 = .ok (.iload_n 1, 1) := by decide +kernel
theorem dX8_lineMore_86 : decode cX8_lineMore 86 = .ok (.iastore, 1) := by decide +kernel
theorem dX8_lineMore_87 : decode cX8_lineMore 87 = .ok (.aload_n 0, 1) := by decide +kernel
theorem dX8_lineMore_88 : decode cX8_lineMore 88 = .ok (.getfield 7, 3) := by decide +kernel
theorem dX8_lineMore_91 : decode cX8_lineMore 91 = .ok (.bipush 9, 2) := by decide +kernel
theorem dX8_lineMore_93 : decode cX8_lineMore 93 = .ok (.bipush 15, 2) := by decide +kernel
theorem dX8_lineMore_95 : decode cX8_lineMore 95 = .ok (.iload_n 3, 1) := by decide +kernel
theorem dX8_lineMore_96 : decode cX8_lineMore 96 = .ok (.imul, 1) := by decide +kernel
theorem dX8_lineMore_97 : decode cX8_lineMore 97 = .ok (.iadd, 1) := by decide +kernel
theorem dX8_lineMore_98 : decode cX8_lineMore 98 = .ok (.iconst 1, 1) := by decide +kernel
theorem dX8_lineMore_99 : decode cX8_lineMore 99 = .ok (.iadd, 1) := by decide +kernel
theorem dX8_lineMore_100 : decode cX8_lineMore 100 = .ok (.iload_n 2, 1) := by decide +kernel
theorem dX8_lineMore_101 : decode cX8_lineMore 101 = .ok (.iastore, 1) := by decide +kernel
theorem dX8_lineMore_102 : decode cX8_lineMore 102 = .ok (.aload_n 0, 1) := by decide +kernel
theorem dX8_lineMore_103 : decode cX8_lineMore 103 = .ok (.getfield 7, 3) := by decide +kernel
theorem dX8_lineMore_106 : decode cX8_lineMore 106 = .ok (.iconst 0, 1) := by decide +kernel
theorem dX8_lineMore_107 : decode cX8_lineMore 107 = .ok (.dup2, 1) := by decide +kernel
theorem dX8_lineMore_108 : decode cX8_lineMore 108 = .ok (.iaload, 1) := by decide +kernel
theorem dX8_lineMore_109 : decode cX8_lineMore 109 = .ok (.iconst 1, 1) := by decide +kernel
theorem dX8_lineMore_110 : decode cX8_lineMore 110 = .ok (.iadd, 1) := by decide +kernel
theorem dX8_lineMore_111 : decode cX8_lineMore 111 = .ok (.iastore, 1) := by decide +kernel
theorem dX8_lineMore_112 : decode cX8_lineMore 112 = .ok (.iload_n 3, 1) := by decide +kernel
theorem dX8_lineMore_113 : decode cX8_lineMore 113 = .ok (.ireturn, 1) := by decide +kernel
theorem dX8_wordMore_0 : decode cX8_wordMore 0 = .ok (.iload_n 1, 1) := by decide +kernel
theorem dX8_wordMore_1 : decode cX8_wordMore 1 = .ok (.i2l, 1) := by decide +kernel
theorem dX8_wordMore_2 : decode cX8_wordMore 2 = .ok (.lconst 1, 1) := by decide +kernel
theorem dX8_wordMore_3 : decode cX8_wordMore 3 = .ok (.ldc2_w 194, 3) := by decide +kernel
theorem dX8_wordMore_6 : decode cX8_wordMore 6 = .ok (.invokestatic 63, 3) := by decide +kernel
theorem dX8_wordMore_9 : decode cX8_wordMore 9 = .ok (.ifCond .eq 15, 3) := by decide +kernel
theorem dX8_wordMore_12 : decode cX8_wordMore 12 = .ok (.iload_n 2, 1) := by decide +kernel
theorem dX8_wordMore_13 : decode cX8_wordMore 13 = .ok (.i2l, 1) := by decide +kernel
theorem dX8_wordMore_14 : decode cX8_wordMore 14 = .ok (.lconst 0, 1) := by decide +kernel
theorem dX8_wordMore_15 : decode cX8_wordMore 15 = .ok (.ldc2_w 150, 3) := by decide +kernel
theorem dX8_wordMore_18 : decode cX8_wordMore 18 = .ok (.invokestatic 63, 3) := by decide +kernel
theorem dX8_wordMore_21 : decode cX8_wordMore 21 = .ok (.ifCond .ne 5, 3) := by decide +kernel
theorem dX8_wordMore_24 : decode cX8_wordMore 24 = .ok (.iconst (-1), 1) := by decide +kernel
theorem dX8_wordMore_25 : decode cX8_wordMore 25 = .ok (.ireturn, 1) := by decide +kernel
theorem dX8_wordMore_26 : decode cX8_wordMore 26 = .ok (.aload_n 0, 1) := by decide +kernel
theorem dX8_wordMore_27 : decode cX8_wordMore 27 = .ok (.getfield 7, 3) := by decide +kernel
theorem dX8_wordMore_30 : decode cX8_wordMore 30 = .ok (.iconst 0, 1) := by decide +kernel
theorem dX8_wordMore_31 : decode cX8_wordMore 31 = .ok (.iaload, 1) := by decide +kernel
theorem dX8_wordMore_32 : decode cX8_wordMore 32 = .ok (.iconst 1, 1) := by decide +kernel
theorem dX8_wordMore_33 : decode cX8_wordMore 33 = .ok (.isub, 1) := by decide +kernel
theorem dX8_wordMore_34 : decode cX8_wordMore 34 = .ok (.istore_n 3, 1) := by decide +kernel
theorem dX8_wordMore_35 : decode cX8_wordMore 35 = .ok (.iload_n 3, 1) := by decide +kernel
theorem dX8_wordMore_36 : decode cX8_wordMore 36 = .ok (.ifCond .ge 6, 3) := by decide +kernel
theorem dX8_wordMore_39 : decode cX8_wordMore 39 = .ok (.bipush (-4), 2) := by decide +kernel
theorem dX8_wordMore_41 : decode cX8_wordMore 41 = .ok (.ireturn, 1) := by decide +kernel
theorem dX8_wordMore_42 : decode cX8_wordMore 42 = .ok (.aload_n 0, 1) := by decide +kernel
theorem dX8_wordMore_43 : decode cX8_wordMore 43 = .ok (.iload_n 3, 1) := by decide +kernel
theorem dX8_wordMore_44 : decode cX8_wordMore 44 = .ok (.invokevirtual 85, 3) := by decide +kernel
theorem dX8_wordMore_47 : decode cX8_wordMore 47 = .ok (.istore 4, 2) := by decide +kernel
theorem dX8_wordMore_49 : decode cX8_wordMore 49 = .ok (.iload 4, 2) := by decide +kernel
theorem dX8_wordMore_51 : decode cX8_wordMore 51 = .ok (.bipush 6, 2) := by decide +kernel
theorem dX8_wordMore_53 : decode cX8_wordMore 53 = .ok (.if_icmp .ne 6, 3) := by decide +kernel
theorem dX8_wordMore_56 : decode cX8_wordMore 56 = .ok (.bipush (-3), 2) := by decide +kernel
theorem dX8_wordMore_58 : decode cX8_wordMore 58 = .ok (.ireturn, 1) := by decide +kernel
theorem dX8_wordMore_59 : decode cX8_wordMore 59 = .ok (.aload_n 0, 1) := by decide +kernel
theorem dX8_wordMore_60 : decode cX8_wordMore 60 = .ok (.getfield 7, 3) := by decide +kernel
theorem dX8_wordMore_63 : decode cX8_wordMore 63 = .ok (.bipush 9, 2) := by decide +kernel
theorem dX8_wordMore_65 : decode cX8_wordMore 65 = .ok (.bipush 15, 2) := by decide +kernel
theorem dX8_wordMore_67 : decode cX8_wordMore 67 = .ok (.iload_n 3, 1) := by decide +kernel
theorem dX8_wordMore_68 : decode cX8_wordMore 68 = .ok (.imul, 1) := by decide +kernel
theorem dX8_wordMore_69 : decode cX8_wordMore 69 = .ok (.iadd, 1) := by decide +kernel
theorem dX8_wordMore_70 : decode cX8_wordMore 70 = .ok (.iconst 3, 1) := by decide +kernel
theorem dX8_wordMore_71 : decode cX8_wordMore 71 = .ok (.iadd, 1) := by decide +kernel
theorem dX8_wordMore_72 : decode cX8_wordMore 72 = .ok (.iload 4, 2) := by decide +kernel
theorem dX8_wordMore_74 : decode cX8_wordMore 74 = .ok (.iadd, 1) := by decide +kernel
theorem dX8_wordMore_75 : decode cX8_wordMore 75 = .ok (.iload_n 1, 1) := by decide +kernel
theorem dX8_wordMore_76 : decode cX8_wordMore 76 = .ok (.iastore, 1) := by decide +kernel
theorem dX8_wordMore_77 : decode cX8_wordMore 77 = .ok (.aload_n 0, 1) := by decide +kernel
theorem dX8_wordMore_78 : decode cX8_wordMore 78 = .ok (.getfield 7, 3) := by decide +kernel
theorem dX8_wordMore_81 : decode cX8_wordMore 81 = .ok (.bipush 9, 2) := by decide +kernel
theorem dX8_wordMore_83 : decode cX8_wordMore 83 = .ok (.bipush 15, 2) := by decide +kernel
theorem dX8_wordMore_85 : decode cX8_wordMore 85 = .ok (.iload_n 3, 1) := by decide +kernel
theorem dX8_wordMore_86 : decode cX8_wordMore 86 = .ok (.imul, 1) := by decide +kernel
theorem dX8_wordMore_87 : decode cX8_wordMore 87 = .ok (.iadd, 1) := by decide +kernel
theorem dX8_wordMore_88 : decode cX8_wordMore 88 = .ok (.bipush 9, 2) := by decide +kernel
theorem dX8_wordMore_90 : decode cX8_wordMore 90 = .ok (.iadd, 1) := by decide +kernel
theorem dX8_wordMore_91 : decode cX8_wordMore 91 = .ok (.iload 4, 2) := by decide +kernel
theorem dX8_wordMore_93 : decode cX8_wordMore 93 = .ok (.iadd, 1) := by decide +kernel
theorem dX8_wordMore_94 : decode cX8_wordMore 94 = .ok (.iload_n 2, 1) := by decide +kernel
theorem dX8_wordMore_95 : decode cX8_wordMore 95 = .ok (.iastore, 1) := by decide +kernel
theorem dX8_wordMore_96 : decode cX8_wordMore 96 = .ok (.aload_n 0, 1) := by decide +kernel
theorem dX8_wordMore_97 : decode cX8_wordMore 97 = .ok (.getfield 7, 3) := by decide +kernel
theorem dX8_wordMore_100 : decode cX8_wordMore 100 = .ok (.bipush 9, 2) := by decide +kernel
theorem dX8_wordMore_102 : decode cX8_wordMore 102 = .ok (.bipush 15, 2) := by decide +kernel
theorem dX8_wordMore_104 : decode cX8_wordMore 104 = .ok (.iload_n 3, 1) := by decide +kernel
theorem dX8_wordMore_105 : decode cX8_wordMore 105 = .ok (.imul, 1) := by decide +kernel
theorem dX8_wordMore_106 : decode cX8_wordMore 106 = .ok (.iadd, 1) := by decide +kernel
theorem dX8_wordMore_107 : decode cX8_wordMore 107 = .ok (.iconst 2, 1) := by decide +kernel
theorem dX8_wordMore_108 : decode cX8_wordMore 108 = .ok (.iadd, 1) := by decide +kernel
theorem dX8_wordMore_109 : decode cX8_wordMore 109 = .ok (.iload 4, 2) := by decide +kernel
theorem dX8_wordMore_111 : decode cX8_wordMore 111 = .ok (.iconst 1, 1) := by decide +kernel
theorem dX8_wordMore_112 : decode cX8_wordMore 112 = .ok (.iadd, 1) := by decide +kernel
theorem dX8_wordMore_113 : decode cX8_wordMore 113 = .ok (.iastore, 1) := by decide +kernel
theorem dX8_wordMore_114 : decode cX8_wordMore 114 = .ok (.iload 4, 2) := by decide +kernel
theorem dX8_wordMore_116 : decode cX8_wordMore 116 = .ok (.iconst 1, 1) := by decide +kernel
theorem dX8_wordMore_117 : decode cX8_wordMore 117 = .ok (.iadd, 1) := by decide +kernel
theorem dX8_wordMore_118 : decode cX8_wordMore 118 = .ok (.ireturn, 1) := by decide +kernel
theorem dX8_lineLess_0 : decode cX8_lineLess 0 = .ok (.aload_n 0, 1) := by decide +kernel
theorem dX8_lineLess_1 : decode cX8_lineLess 1 = .ok (.getfield 7, 3) := by decide +kernel
theorem dX8_lineLess_4 : decode cX8_lineLess 4 = .ok (.iconst 0, 1) := by decide +kernel
theorem dX8_lineLess_5 : decode cX8_lineLess 5 = .ok (.iaload, 1) := by decide +kernel
theorem dX8_lineLess_6 : decode cX8_lineLess 6 = .ok (.ifCond .ne 6, 3) := by decide +kernel
theorem dX8_lineLess_9 : decode cX8_lineLess 9 = .ok (.bipush (-4), 2) := by decide +kernel
theorem dX8_lineLess_11 : decode cX8_lineLess 11 = .ok (.ireturn, 1) := by decide +kernel
theorem dX8_lineLess_12 : decode cX8_lineLess 12 = .ok (.aload_n 0, 1) := by decide +kernel
theorem dX8_lineLess_13 : decode cX8_lineLess 13 = .ok (.getfield 7, 3) := by decide +kernel
theorem dX8_lineLess_16 : decode cX8_lineLess 16 = .ok (.iconst 0, 1) := by decide +kernel
theorem dX8_lineLess_17 : decode cX8_lineLess 17 = .ok (.dup2, 1) := by decide +kernel
theorem dX8_lineLess_18 : decode cX8_lineLess 18 = .ok (.iaload, 1) := by decide +kernel
theorem dX8_lineLess_19 : decode cX8_lineLess 19 = .ok (.iconst 1, 1) := by decide +kernel
theorem dX8_lineLess_20 : decode cX8_lineLess 20 = .ok (.isub, 1) := by decide +kernel
theorem dX8_lineLess_21 : decode cX8_lineLess 21 = .ok (.iastore, 1) := by decide +kernel
theorem dX8_lineLess_22 : decode cX8_lineLess 22 = .ok (.aload_n 0, 1) := by decide +kernel
theorem dX8_lineLess_23 : decode cX8_lineLess 23 = .ok (.getfield 7, 3) := by decide +kernel
theorem dX8_lineLess_26 : decode cX8_lineLess 26 = .ok (.iconst 0, 1) := by decide +kernel
theorem dX8_lineLess_27 : decode cX8_lineLess 27 = .ok (.iaload, 1) := by decide +kernel
theorem dX8_lineLess_28 : decode cX8_lineLess 28 = .ok (.ireturn, 1) := by decide +kernel
theorem dX8_rhymes_0 : decode cX8_rhymes 0 = .ok (.aload_n 0, 1) := by decide +kernel
theorem dX8_rhymes_1 : decode cX8_rhymes 1 = .ok (.iload_n 1, 1) := by decide +kernel
theorem dX8_rhymes_2 : decode cX8_rhymes 2 = .ok (.invokevirtual 144, 3) := by decide +kernel
theorem dX8_rhymes_5 : decode cX8_rhymes 5 = .ok (.ifCond .eq 15, 3) := by decide +kernel
theorem dX8_rhymes_8 : decode cX8_rhymes 8 = .ok (.iload_n 2, 1) := by decide +kernel
theorem dX8_rhymes_9 : decode cX8_rhymes 9 = .ok (.i2l, 1) := by decide +kernel
theorem dX8_rhymes_10 : decode cX8_rhymes 10 = .ok (.lconst 0, 1) := by decide +kernel
theorem dX8_rhymes_11 : decode cX8_rhymes 11 = .ok (.ldc2_w 150, 3) := by decide +kernel
theorem dX8_rhymes_14 : decode cX8_rhymes 14 = .ok (.invokestatic 63, 3) := by decide +kernel
theorem dX8_rhymes_17 : decode cX8_rhymes 17 = .ok (.ifCond .ne 5, 3) := by decide +kernel
theorem dX8_rhymes_20 : decode cX8_rhymes 20 = .ok (.iconst (-1), 1) := by decide +kernel
theorem dX8_rhymes_21 : decode cX8_rhymes 21 = .ok (.ireturn, 1) := by decide +kernel
theorem dX8_rhymes_22 : decode cX8_rhymes 22 = .ok (.aload_n 0, 1) := by decide +kernel
theorem dX8_rhymes_23 : decode cX8_rhymes 23 = .ok (.iload_n 1, 1) := by decide +kernel
theorem dX8_rhymes_24 : decode cX8_rhymes 24 = .ok (.iconst 0, 1) := by decide +kernel
theorem dX8_rhymes_25 : decode cX8_rhymes 25 = .ok (.invokevirtual 67, 3) := by decide +kernel
theorem dX8_rhymes_28 : decode cX8_rhymes 28 = .ok (.istore_n 3, 1) := by decide +kernel
theorem dX8_rhymes_29 : decode cX8_rhymes 29 = .ok (.aload_n 0, 1) := by decide +kernel
theorem dX8_rhymes_30 : decode cX8_rhymes 30 = .ok (.getfield 7, 3) := by decide +kernel
theorem dX8_rhymes_33 : decode cX8_rhymes 33 = .ok (.bipush 9, 2) := by decide +kernel
theorem dX8_rhymes_35 : decode cX8_rhymes 35 = .ok (.bipush 15, 2) := by decide +kernel
theorem dX8_rhymes_37 : decode cX8_rhymes 37 = .ok (.iload_n 1, 1) := by decide +kernel
theorem dX8_rhymes_38 : decode cX8_rhymes 38 = .ok (.imul, 1) := by decide +kernel
theorem dX8_rhymes_39 : decode cX8_rhymes 39 = .ok (.iadd, 1) := by decide +kernel
theorem dX8_rhymes_40 : decode cX8_rhymes 40 = .ok (.iconst 0, 1) := by decide +kernel
theorem dX8_rhymes_41 : decode cX8_rhymes 41 = .ok (.iadd, 1) := by decide +kernel
theorem dX8_rhymes_42 : decode cX8_rhymes 42 = .ok (.iload_n 2, 1) := by decide +kernel
theorem dX8_rhymes_43 : decode cX8_rhymes 43 = .ok (.iastore, 1) := by decide +kernel
theorem dX8_rhymes_44 : decode cX8_rhymes 44 = .ok (.iload_n 3, 1) := by decide +kernel
theorem dX8_rhymes_45 : decode cX8_rhymes 45 = .ok (.iload_n 2, 1) := by decide +kernel
theorem dX8_rhymes_46 : decode cX8_rhymes 46 = .ok (.if_icmp .ne 8, 3) := by decide +kernel
theorem dX8_rhymes_49 : decode cX8_rhymes 49 = .ok (.bipush (-2), 2) := by decide +kernel
theorem dX8_rhymes_51 : decode cX8_rhymes 51 = .ok (.goto 4, 3) := by decide +kernel
theorem dX8_rhymes_54 : decode cX8_rhymes 54 = .ok (.iload_n 3, 1) := by decide +kernel
theorem dX8_rhymes_55 : decode cX8_rhymes 55 = .ok (.ireturn, 1) := by decide +kernel
theorem dX8_isFit_0 : decode cX8_isFit 0 = .ok (.iload_n 0, 1) := by decide +kernel
theorem dX8_isFit_1 : decode cX8_isFit 1 = .ok (.tableswitch 107 0 6 #[43, 55, 65, 75, 87, 97, 97], 43) := by decide +kernel
theorem dX8_isFit_44 : decode cX8_isFit 44 = .ok (.iload_n 1, 1) := by decide +kernel
theorem dX8_isFit_45 : decode cX8_isFit 45 = .ok (.i2l, 1) := by decide +kernel
theorem dX8_isFit_46 : decode cX8_isFit 46 = .ok (.ldc2_w 152, 3) := by decide +kernel
theorem dX8_isFit_49 : decode cX8_isFit 49 = .ok (.ldc2_w 196, 3) := by decide +kernel
theorem dX8_isFit_52 : decode cX8_isFit 52 = .ok (.invokestatic 63, 3) := by decide +kernel
theorem dX8_isFit_55 : decode cX8_isFit 55 = .ok (.ireturn, 1) := by decide +kernel
theorem dX8_isFit_56 : decode cX8_isFit 56 = .ok (.iload_n 1, 1) := by decide +kernel
theorem dX8_isFit_57 : decode cX8_isFit 57 = .ok (.i2l, 1) := by decide +kernel
theorem dX8_isFit_58 : decode cX8_isFit 58 = .ok (.lconst 0, 1) := by decide +kernel
theorem dX8_isFit_59 : decode cX8_isFit 59 = .ok (.ldc2_w 198, 3) := by decide +kernel
theorem dX8_isFit_62 : decode cX8_isFit 62 = .ok (.invokestatic 63, 3) := by decide +kernel
theorem dX8_isFit_65 : decode cX8_isFit 65 = .ok (.ireturn, 1) := by decide +kernel
theorem dX8_isFit_66 : decode cX8_isFit 66 = .ok (.iload_n 1, 1) := by decide +kernel
theorem dX8_isFit_67 : decode cX8_isFit 67 = .ok (.i2l, 1) := by decide +kernel
theorem dX8_isFit_68 : decode cX8_isFit 68 = .ok (.lconst 0, 1) := by decide +kernel
theorem dX8_isFit_69 : decode cX8_isFit 69 = .ok (.ldc2_w 194, 3) := by decide +kernel
theorem dX8_isFit_72 : decode cX8_isFit 72 = .ok (.invokestatic 63, 3) := by decide +kernel
theorem dX8_isFit_75 : decode cX8_isFit 75 = .ok (.ireturn, 1) := by decide +kernel
theorem dX8_isFit_76 : decode cX8_isFit 76 = .ok (.iload_n 1, 1) := by decide +kernel
theorem dX8_isFit_77 : decode cX8_isFit 77 = .ok (.i2l, 1) := by decide +kernel
theorem dX8_isFit_78 : decode cX8_isFit 78 = .ok (.ldc2_w 139, 3) := by decide +kernel
theorem dX8_isFit_81 : decode cX8_isFit 81 = .ok (.ldc2_w 200, 3) := by decide +kernel
theorem dX8_isFit_84 : decode cX8_isFit 84 = .ok (.invokestatic 63, 3) := by decide +kernel
theorem dX8_isFit_87 : decode cX8_isFit 87 = .ok (.ireturn, 1) := by decide +kernel
theorem dX8_isFit_88 : decode cX8_isFit 88 = .ok (.iload_n 1, 1) := by decide +kernel
theorem dX8_isFit_89 : decode cX8_isFit 89 = .ok (.i2l, 1) := by decide +kernel
theorem dX8_isFit_90 : decode cX8_isFit 90 = .ok (.lconst 1, 1) := by decide +kernel
theorem dX8_isFit_91 : decode cX8_isFit 91 = .ok (.ldc2_w 150, 3) := by decide +kernel
theorem dX8_isFit_94 : decode cX8_isFit 94 = .ok (.invokestatic 63, 3) := by decide +kernel
theorem dX8_isFit_97 : decode cX8_isFit 97 = .ok (.ireturn, 1) := by decide +kernel
theorem dX8_isFit_98 : decode cX8_isFit 98 = .ok (.iload_n 1, 1) := by decide +kernel
theorem dX8_isFit_99 : decode cX8_isFit 99 = .ok (.i2l, 1) := by decide +kernel
theorem dX8_isFit_100 : decode cX8_isFit 100 = .ok (.lconst 0, 1) := by decide +kernel
theorem dX8_isFit_101 : decode cX8_isFit 101 = .ok (.ldc2_w 139, 3) := by decide +kernel
theorem dX8_isFit_104 : decode cX8_isFit 104 = .ok (.invokestatic 63, 3) := by decide +kernel
theorem dX8_isFit_107 : decode cX8_isFit 107 = .ok (.ireturn, 1) := by decide +kernel
theorem dX8_isFit_108 : decode cX8_isFit 108 = .ok (.iconst 0, 1) := by decide +kernel
theorem dX8_isFit_109 : decode cX8_isFit 109 = .ok (.ireturn, 1) := by decide +kernel
theorem dX8_tells_0 : decode cX8_tells 0 = .ok (.iload_n 1, 1) := by decide +kernel
theorem dX8_tells_1 : decode cX8_tells 1 = .ok (.iload_n 2, 1) := by decide +kernel
theorem dX8_tells_2 : decode cX8_tells 2 = .ok (.invokestatic 202, 3) := by decide +kernel
theorem dX8_tells_5 : decode cX8_tells 5 = .ok (.ifCond .ne 5, 3) := by decide +kernel
theorem dX8_tells_8 : decode cX8_tells 8 = .ok (.iconst (-1), 1) := by decide +kernel
theorem dX8_tells_9 : decode cX8_tells 9 = .ok (.ireturn, 1) := by decide +kernel
theorem dX8_tells_10 : decode cX8_tells 10 = .ok (.aload_n 0, 1) := by decide +kernel
theorem dX8_tells_11 : decode cX8_tells 11 = .ok (.getfield 7, 3) := by decide +kernel
theorem dX8_tells_14 : decode cX8_tells 14 = .ok (.iconst 2, 1) := by decide +kernel
theorem dX8_tells_15 : decode cX8_tells 15 = .ok (.iload_n 1, 1) := by decide +kernel
theorem dX8_tells_16 : decode cX8_tells 16 = .ok (.iadd, 1) := by decide +kernel
theorem dX8_tells_17 : decode cX8_tells 17 = .ok (.iaload, 1) := by decide +kernel
theorem dX8_tells_18 : decode cX8_tells 18 = .ok (.istore_n 3, 1) := by decide +kernel
theorem dX8_tells_19 : decode cX8_tells 19 = .ok (.aload_n 0, 1) := by decide +kernel
theorem dX8_tells_20 : decode cX8_tells 20 = .ok (.getfield 7, 3) := by decide +kernel
theorem dX8_tells_23 : decode cX8_tells 23 = .ok (.iconst 2, 1) := by decide +kernel
theorem dX8_tells_24 : decode cX8_tells 24 = .ok (.iload_n 1, 1) := by decide +kernel
theorem dX8_tells_25 : decode cX8_tells 25 = .ok (.iadd, 1) := by decide +kernel
theorem dX8_tells_26 : decode cX8_tells 26 = .ok (.iload_n 2, 1) := by decide +kernel
theorem dX8_tells_27 : decode cX8_tells 27 = .ok (.iastore, 1) := by decide +kernel
theorem dX8_tells_28 : decode cX8_tells 28 = .ok (.iload_n 3, 1) := by decide +kernel
theorem dX8_tells_29 : decode cX8_tells 29 = .ok (.iload_n 2, 1) := by decide +kernel
theorem dX8_tells_30 : decode cX8_tells 30 = .ok (.if_icmp .ne 8, 3) := by decide +kernel
theorem dX8_tells_33 : decode cX8_tells 33 = .ok (.bipush (-2), 2) := by decide +kernel
theorem dX8_tells_35 : decode cX8_tells 35 = .ok (.goto 4, 3) := by decide +kernel
theorem dX8_tells_38 : decode cX8_tells 38 = .ok (.iload_n 3, 1) := by decide +kernel
theorem dX8_tells_39 : decode cX8_tells 39 = .ok (.ireturn, 1) := by decide +kernel
theorem dX8_line_0 : decode cX8_line 0 = .ok (.aload_n 0, 1) := by decide +kernel
theorem dX8_line_1 : decode cX8_line 1 = .ok (.invokevirtual 206, 3) := by decide +kernel
theorem dX8_line_4 : decode cX8_line 4 = .ok (.aload_n 0, 1) := by decide +kernel
theorem dX8_line_5 : decode cX8_line 5 = .ok (.aload_n 0, 1) := by decide +kernel
theorem dX8_line_6 : decode cX8_line 6 = .ok (.iload_n 1, 1) := by decide +kernel
theorem dX8_line_7 : decode cX8_line 7 = .ok (.iload_n 2, 1) := by decide +kernel
theorem dX8_line_8 : decode cX8_line 8 = .ok (.invokevirtual 209, 3) := by decide +kernel
theorem dX8_line_11 : decode cX8_line 11 = .ok (.invokevirtual 212, 3) := by decide +kernel
theorem dX8_line_14 : decode cX8_line 14 = .ok (.ireturn, 1) := by decide +kernel
theorem dX8_word_0 : decode cX8_word 0 = .ok (.aload_n 0, 1) := by decide +kernel
theorem dX8_word_1 : decode cX8_word 1 = .ok (.invokevirtual 206, 3) := by decide +kernel
theorem dX8_word_4 : decode cX8_word 4 = .ok (.aload_n 0, 1) := by decide +kernel
theorem dX8_word_5 : decode cX8_word 5 = .ok (.aload_n 0, 1) := by decide +kernel
theorem dX8_word_6 : decode cX8_word 6 = .ok (.iload_n 1, 1) := by decide +kernel
theorem dX8_word_7 : decode cX8_word 7 = .ok (.iload_n 2, 1) := by decide +kernel
theorem dX8_word_8 : decode cX8_word 8 = .ok (.invokevirtual 215, 3) := by decide +kernel
theorem dX8_word_11 : decode cX8_word 11 = .ok (.invokevirtual 212, 3) := by decide +kernel
theorem dX8_word_14 : decode cX8_word 14 = .ok (.ireturn, 1) := by decide +kernel
theorem dX8_drop_0 : decode cX8_drop 0 = .ok (.aload_n 0, 1) := by decide +kernel
theorem dX8_drop_1 : decode cX8_drop 1 = .ok (.invokevirtual 206, 3) := by decide +kernel
theorem dX8_drop_4 : decode cX8_drop 4 = .ok (.aload_n 0, 1) := by decide +kernel
theorem dX8_drop_5 : decode cX8_drop 5 = .ok (.aload_n 0, 1) := by decide +kernel
theorem dX8_drop_6 : decode cX8_drop 6 = .ok (.invokevirtual 218, 3) := by decide +kernel
theorem dX8_drop_9 : decode cX8_drop 9 = .ok (.invokevirtual 212, 3) := by decide +kernel
theorem dX8_drop_12 : decode cX8_drop 12 = .ok (.ireturn, 1) := by decide +kernel
theorem dX8_rhyme_0 : decode cX8_rhyme 0 = .ok (.aload_n 0, 1) := by decide +kernel
theorem dX8_rhyme_1 : decode cX8_rhyme 1 = .ok (.invokevirtual 206, 3) := by decide +kernel
theorem dX8_rhyme_4 : decode cX8_rhyme 4 = .ok (.aload_n 0, 1) := by decide +kernel
theorem dX8_rhyme_5 : decode cX8_rhyme 5 = .ok (.aload_n 0, 1) := by decide +kernel
theorem dX8_rhyme_6 : decode cX8_rhyme 6 = .ok (.iload_n 1, 1) := by decide +kernel
theorem dX8_rhyme_7 : decode cX8_rhyme 7 = .ok (.iload_n 2, 1) := by decide +kernel
theorem dX8_rhyme_8 : decode cX8_rhyme 8 = .ok (.invokevirtual 221, 3) := by decide +kernel
theorem dX8_rhyme_11 : decode cX8_rhyme 11 = .ok (.invokevirtual 212, 3) := by decide +kernel
theorem dX8_rhyme_14 : decode cX8_rhyme 14 = .ok (.ireturn, 1) := by decide +kernel
theorem dX8_tell_0 : decode cX8_tell 0 = .ok (.aload_n 0, 1) := by decide +kernel
theorem dX8_tell_1 : decode cX8_tell 1 = .ok (.invokevirtual 206, 3) := by decide +kernel
theorem dX8_tell_4 : decode cX8_tell 4 = .ok (.aload_n 0, 1) := by decide +kernel
theorem dX8_tell_5 : decode cX8_tell 5 = .ok (.aload_n 0, 1) := by decide +kernel
theorem dX8_tell_6 : decode cX8_tell 6 = .ok (.iload_n 1, 1) := by decide +kernel
theorem dX8_tell_7 : decode cX8_tell 7 = .ok (.iload_n 2, 1) := by decide +kernel
theorem dX8_tell_8 : decode cX8_tell 8 = .ok (.invokevirtual 224, 3) := by decide +kernel
theorem dX8_tell_11 : decode cX8_tell 11 = .ok (.invokevirtual 212, 3) := by decide +kernel
theorem dX8_tell_14 : decode cX8_tell 14 = .ok (.ireturn, 1) := by decide +kernel
theorem dX8_type_0 : decode cX8_type 0 = .ok (.iload_n 1, 1) := by decide +kernel
theorem dX8_type_1 : decode cX8_type 1 = .ok (.i2l, 1) := by decide +kernel
theorem dX8_type_2 : decode cX8_type 2 = .ok (.ldc2_w 227, 3) := by decide +kernel
theorem dX8_type_5 : decode cX8_type 5 = .ok (.ldc2_w 229, 3) := by decide +kernel
theorem dX8_type_8 : decode cX8_type 8 = .ok (.invokestatic 63, 3) := by decide +kernel
theorem dX8_type_11 : decode cX8_type 11 = .ok (.ifCond .ne 5, 3) := by decide +kernel
theorem dX8_type_14 : decode cX8_type 14 = .ok (.iconst (-1), 1) := by decide +kernel
theorem dX8_type_15 : decode cX8_type 15 = .ok (.ireturn, 1) := by decide +kernel
theorem dX8_type_16 : decode cX8_type 16 = .ok (.aload_n 0, 1) := by decide +kernel
theorem dX8_type_17 : decode cX8_type 17 = .ok (.getfield 231, 3) := by decide +kernel
theorem dX8_type_20 : decode cX8_type 20 = .ok (.bipush 90, 2) := by decide +kernel
theorem dX8_type_22 : decode cX8_type 22 = .ok (.if_icmp .ne 6, 3) := by decide +kernel
theorem dX8_type_25 : decode cX8_type 25 = .ok (.bipush (-3), 2) := by decide +kernel
theorem dX8_type_27 : decode cX8_type 27 = .ok (.ireturn, 1) := by decide +kernel
theorem dX8_type_28 : decode cX8_type 28 = .ok (.aload_n 0, 1) := by decide +kernel
theorem dX8_type_29 : decode cX8_type 29 = .ok (.getfield 26, 3) := by decide +kernel
theorem dX8_type_32 : decode cX8_type 32 = .ok (.aload_n 0, 1) := by decide +kernel
theorem dX8_type_33 : decode cX8_type 33 = .ok (.getfield 231, 3) := by decide +kernel
theorem dX8_type_36 : decode cX8_type 36 = .ok (.iload_n 1, 1) := by decide +kernel
theorem dX8_type_37 : decode cX8_type 37 = .ok (.iastore, 1) := by decide +kernel
theorem dX8_type_38 : decode cX8_type 38 = .ok (.aload_n 0, 1) := by decide +kernel
theorem dX8_type_39 : decode cX8_type 39 = .ok (.dup, 1) := by decide +kernel
theorem dX8_type_40 : decode cX8_type 40 = .ok (.getfield 231, 3) := by decide +kernel
theorem dX8_type_43 : decode cX8_type 43 = .ok (.iconst 1, 1) := by decide +kernel
theorem dX8_type_44 : decode cX8_type 44 = .ok (.iadd, 1) := by decide +kernel
theorem dX8_type_45 : decode cX8_type 45 = .ok (.putfield 231, 3) := by decide +kernel
theorem dX8_type_48 : decode cX8_type 48 = .ok (.aload_n 0, 1) := by decide +kernel
theorem dX8_type_49 : decode cX8_type 49 = .ok (.getfield 231, 3) := by decide +kernel
theorem dX8_type_52 : decode cX8_type 52 = .ok (.ireturn, 1) := by decide +kernel
theorem dX8_here_0 : decode cX8_here 0 = .ok (.aload_n 0, 1) := by decide +kernel
theorem dX8_here_1 : decode cX8_here 1 = .ok (.getfield 234, 3) := by decide +kernel
theorem dX8_here_4 : decode cX8_here 4 = .ok (.aload_n 0, 1) := by decide +kernel
theorem dX8_here_5 : decode cX8_here 5 = .ok (.getfield 231, 3) := by decide +kernel
theorem dX8_here_8 : decode cX8_here 8 = .ok (.if_icmp .ge 30, 3) := by decide +kernel
theorem dX8_here_11 : decode cX8_here 11 = .ok (.aload_n 0, 1) := by decide +kernel
theorem dX8_here_12 : decode cX8_here 12 = .ok (.getfield 26, 3) := by decide +kernel
theorem dX8_here_15 : decode cX8_here 15 = .ok (.aload_n 0, 1) := by decide +kernel
theorem dX8_here_16 : decode cX8_here 16 = .ok (.getfield 234, 3) := by decide +kernel
theorem dX8_here_19 : decode cX8_here 19 = .ok (.iaload, 1) := by decide +kernel
theorem dX8_here_20 : decode cX8_here 20 = .ok (.bipush 32, 2) := by decide +kernel
theorem dX8_here_22 : decode cX8_here 22 = .ok (.if_icmp .ne 16, 3) := by decide +kernel
theorem dX8_here_25 : decode cX8_here 25 = .ok (.aload_n 0, 1) := by decide +kernel
theorem dX8_here_26 : decode cX8_here 26 = .ok (.dup, 1) := by decide +kernel
theorem dX8_here_27 : decode cX8_here 27 = .ok (.getfield 234, 3) := by decide +kernel
theorem dX8_here_30 : decode cX8_here 30 = .ok (.iconst 1, 1) := by decide +kernel
theorem dX8_here_31 : decode cX8_here 31 = .ok (.iadd, 1) := by decide +kernel
theorem dX8_here_32 : decode cX8_here 32 = .ok (.putfield 234, 3) := by decide +kernel
theorem dX8_here_35 : decode cX8_here 35 = .ok (.goto (-35), 3) := by decide +kernel
theorem dX8_here_38 : decode cX8_here 38 = .ok (.aload_n 0, 1) := by decide +kernel
theorem dX8_here_39 : decode cX8_here 39 = .ok (.getfield 234, 3) := by decide +kernel
theorem dX8_here_42 : decode cX8_here 42 = .ok (.aload_n 0, 1) := by decide +kernel
theorem dX8_here_43 : decode cX8_here 43 = .ok (.getfield 231, 3) := by decide +kernel
theorem dX8_here_46 : decode cX8_here 46 = .ok (.if_icmp .ge 15, 3) := by decide +kernel
theorem dX8_here_49 : decode cX8_here 49 = .ok (.aload_n 0, 1) := by decide +kernel
theorem dX8_here_50 : decode cX8_here 50 = .ok (.getfield 26, 3) := by decide +kernel
theorem dX8_here_53 : decode cX8_here 53 = .ok (.aload_n 0, 1) := by decide +kernel
theorem dX8_here_54 : decode cX8_here 54 = .ok (.getfield 234, 3) := by decide +kernel
theorem dX8_here_57 : decode cX8_here 57 = .ok (.iaload, 1) := by decide +kernel
theorem dX8_here_58 : decode cX8_here 58 = .ok (.goto 4, 3) := by decide +kernel
theorem dX8_here_61 : decode cX8_here 61 = .ok (.iconst 0, 1) := by decide +kernel
theorem dX8_here_62 : decode cX8_here 62 = .ok (.ireturn, 1) := by decide +kernel
theorem dX8_pauseOf_0 : decode cX8_pauseOf 0 = .ok (.iload_n 0, 1) := by decide +kernel
theorem dX8_pauseOf_1 : decode cX8_pauseOf 1 = .ok (.bipush 44, 2) := by decide +kernel
theorem dX8_pauseOf_3 : decode cX8_pauseOf 3 = .ok (.if_icmp .ne 7, 3) := by decide +kernel
theorem dX8_pauseOf_6 : decode cX8_pauseOf 6 = .ok (.iconst 1, 1) := by decide +kernel
theorem dX8_pauseOf_7 : decode cX8_pauseOf 7 = .ok (.goto 24, 3) := by decide +kernel
theorem dX8_pauseOf_10 : decode cX8_pauseOf 10 = .ok (.iload_n 0, 1) := by decide +kernel
theorem dX8_pauseOf_11 : decode cX8_pauseOf 11 = .ok (.bipush 46, 2) := by decide +kernel
theorem dX8_pauseOf_13 : decode cX8_pauseOf 13 = .ok (.if_icmp .ne 7, 3) := by decide +kernel
theorem dX8_pauseOf_16 : decode cX8_pauseOf 16 = .ok (.iconst 2, 1) := by decide +kernel
theorem dX8_pauseOf_17 : decode cX8_pauseOf 17 = .ok (.goto 14, 3) := by decide +kernel
theorem dX8_pauseOf_20 : decode cX8_pauseOf 20 = .ok (.iload_n 0, 1) := by decide +kernel
theorem dX8_pauseOf_21 : decode cX8_pauseOf 21 = .ok (.bipush 33, 2) := by decide +kernel
theorem dX8_pauseOf_23 : decode cX8_pauseOf 23 = .ok (.if_icmp .ne 7, 3) := by decide +kernel
theorem dX8_pauseOf_26 : decode cX8_pauseOf 26 = .ok (.iconst 3, 1) := by decide +kernel
theorem dX8_pauseOf_27 : decode cX8_pauseOf 27 = .ok (.goto 4, 3) := by decide +kernel
theorem dX8_pauseOf_30 : decode cX8_pauseOf 30 = .ok (.iconst 0, 1) := by decide +kernel
theorem dX8_pauseOf_31 : decode cX8_pauseOf 31 = .ok (.ireturn, 1) := by decide +kernel
theorem dX8_readWords_0 : decode cX8_readWords 0 = .ok (.iconst 0, 1) := by decide +kernel
theorem dX8_readWords_1 : decode cX8_readWords 1 = .ok (.istore_n 2, 1) := by decide +kernel
theorem dX8_readWords_2 : decode cX8_readWords 2 = .ok (.aload_n 0, 1) := by decide +kernel
theorem dX8_readWords_3 : decode cX8_readWords 3 = .ok (.invokevirtual 237, 3) := by decide +kernel
theorem dX8_readWords_6 : decode cX8_readWords 6 = .ok (.i2l, 1) := by decide +kernel
theorem dX8_readWords_7 : decode cX8_readWords 7 = .ok (.ldc2_w 240, 3) := by decide +kernel
theorem dX8_readWords_10 : decode cX8_readWords 10 = .ok (.ldc2_w 242, 3) := by decide +kernel
theorem dX8_readWords_13 : decode cX8_readWords 13 = .ok (.invokestatic 63, 3) := by decide +kernel
theorem dX8_readWords_16 : decode cX8_readWords 16 = .ok (.ifCond .eq 80, 3) := by decide +kernel
theorem dX8_readWords_19 : decode cX8_readWords 19 = .ok (.iload_n 2, 1) := by decide +kernel
theorem dX8_readWords_20 : decode cX8_readWords 20 = .ok (.bipush 6, 2) := by decide +kernel
theorem dX8_readWords_22 : decode cX8_readWords 22 = .ok (.if_icmp .ge 74, 3) := by decide +kernel
theorem dX8_readWords_25 : decode cX8_readWords 25 = .ok (.aload_n 0, 1) := by decide +kernel
theorem dX8_readWords_26 : decode cX8_readWords 26 = .ok (.getfield 60, 3) := by decide +kernel
theorem dX8_readWords_29 : decode cX8_readWords 29 = .ok (.iload_n 1, 1) := by decide +kernel
theorem dX8_readWords_30 : decode cX8_readWords 30 = .ok (.iconst 3, 1) := by decide +kernel
theorem dX8_readWords_31 : decode cX8_readWords 31 = .ok (.iadd, 1) := by decide +kernel
theorem dX8_readWords_32 : decode cX8_readWords 32 = .ok (.iload_n 2, 1) := by decide +kernel
theorem dX8_readWords_33 : decode cX8_readWords 33 = .ok (.iadd, 1) := by decide +kernel
theorem dX8_readWords_34 : decode cX8_readWords 34 = .ok (.aload_n 0, 1) := by decide +kernel
theorem dX8_readWords_35 : decode cX8_readWords 35 = .ok (.invokevirtual 237, 3) := by decide +kernel
theorem dX8_readWords_38 : decode cX8_readWords 38 = .ok (.bipush 48, 2) := by decide +kernel
theorem dX8_readWords_40 : decode cX8_readWords 40 = .ok (.isub, 1) := by decide +kernel
theorem dX8_readWords_41 : decode cX8_readWords 41 = .ok (.iastore, 1) := by decide +kernel
theorem dX8_readWords_42 : decode cX8_readWords 42 = .ok (.aload_n 0, 1) := by decide +kernel
theorem dX8_readWords_43 : decode cX8_readWords 43 = .ok (.dup, 1) := by decide +kernel
theorem dX8_readWords_44 : decode cX8_readWords 44 = .ok (.getfield 234, 3) := by decide +kernel
theorem dX8_readWords_47 : decode cX8_readWords 47 = .ok (.iconst 1, 1) := by decide +kernel
theorem dX8_readWords_48 : decode cX8_readWords 48 = .ok (.iadd, 1) := by decide +kernel
theorem dX8_readWords_49 : decode cX8_readWords 49 = .ok (.putfield 234, 3) := by decide +kernel
theorem dX8_readWords_52 : decode cX8_readWords 52 = .ok (.aload_n 0, 1) := by decide +kernel
theorem dX8_readWords_53 : decode cX8_readWords 53 = .ok (.invokevirtual 237, 3) := by decide +kernel
theorem dX8_readWords_56 : decode cX8_readWords 56 = .ok (.invokestatic 244, 3) := by decide +kernel
theorem dX8_readWords_59 : decode cX8_readWords 59 = .ok (.istore_n 3, 1) := by decide +kernel
theorem dX8_readWords_60 : decode cX8_readWords 60 = .ok (.aload_n 0, 1) := by decide +kernel
theorem dX8_readWords_61 : decode cX8_readWords 61 = .ok (.getfield 60, 3) := by decide +kernel
theorem dX8_readWords_64 : decode cX8_readWords 64 = .ok (.iload_n 1, 1) := by decide +kernel
theorem dX8_readWords_65 : decode cX8_readWords 65 = .ok (.bipush 9, 2) := by decide +kernel
theorem dX8_readWords_67 : decode cX8_readWords 67 = .ok (.iadd, 1) := by decide +kernel
theorem dX8_readWords_68 : decode cX8_readWords 68 = .ok (.iload_n 2, 1) := by decide +kernel
theorem dX8_readWords_69 : decode cX8_readWords 69 = .ok (.iadd, 1) := by decide +kernel
theorem dX8_readWords_70 : decode cX8_readWords 70 = .ok (.iload_n 3, 1) := by decide +kernel
theorem dX8_readWords_71 : decode cX8_readWords 71 = .ok (.iastore, 1) := by decide +kernel
theorem dX8_readWords_72 : decode cX8_readWords 72 = .ok (.aload_n 0, 1) := by decide +kernel
theorem dX8_readWords_73 : decode cX8_readWords 73 = .ok (.dup, 1) := by decide +kernel
theorem dX8_readWords_74 : decode cX8_readWords 74 = .ok (.getfield 234, 3) := by decide +kernel
theorem dX8_readWords_77 : decode cX8_readWords 77 = .ok (.iload_n 3, 1) := by decide +kernel
theorem dX8_readWords_78 : decode cX8_readWords 78 = .ok (.ifCond .le 7, 3) := by decide +kernel
theorem dX8_readWords_81 : decode cX8_readWords 81 = .ok (.iconst 1, 1) := by decide +kernel
theorem dX8_readWords_82 : decode cX8_readWords 82 = .ok (.goto 4, 3) := by decide +kernel
theorem dX8_readWords_85 : decode cX8_readWords 85 = .ok (.iconst 0, 1) := by decide +kernel
theorem dX8_readWords_86 : decode cX8_readWords 86 = .ok (.iadd, 1) := by decide +kernel
theorem dX8_readWords_87 : decode cX8_readWords 87 = .ok (.putfield 234, 3) := by decide +kernel
theorem dX8_readWords_90 : decode cX8_readWords 90 = .ok (.iinc 2 1, 3) := by decide +kernel
theorem dX8_readWords_93 : decode cX8_readWords 93 = .ok (.goto (-91), 3) := by decide +kernel
theorem dX8_readWords_96 : decode cX8_readWords 96 = .ok (.aload_n 0, 1) := by decide +kernel
theorem dX8_readWords_97 : decode cX8_readWords 97 = .ok (.getfield 60, 3) := by decide +kernel
theorem dX8_readWords_100 : decode cX8_readWords 100 = .ok (.iload_n 1, 1) := by decide +kernel
theorem dX8_readWords_101 : decode cX8_readWords 101 = .ok (.iconst 2, 1) := by decide +kernel
theorem dX8_readWords_102 : decode cX8_readWords 102 = .ok (.iadd, 1) := by decide +kernel
theorem dX8_readWords_103 : decode cX8_readWords 103 = .ok (.iload_n 2, 1) := by decide +kernel
theorem dX8_readWords_104 : decode cX8_readWords 104 = .ok (.iastore, 1) := by decide +kernel
theorem dX8_readWords_105 : decode cX8_readWords 105 = .ok (.return_, 1) := by decide +kernel
theorem dX8_readLines_0 : decode cX8_readLines 0 = .ok (.aload_n 0, 1) := by decide +kernel
theorem dX8_readLines_1 : decode cX8_readLines 1 = .ok (.iconst 0, 1) := by decide +kernel
theorem dX8_readLines_2 : decode cX8_readLines 2 = .ok (.putfield 234, 3) := by decide +kernel
theorem dX8_readLines_5 : decode cX8_readLines 5 = .ok (.aload_n 0, 1) := by decide +kernel
theorem dX8_readLines_6 : decode cX8_readLines 6 = .ok (.iconst 0, 1) := by decide +kernel
theorem dX8_readLines_7 : decode cX8_readLines 7 = .ok (.putfield 247, 3) := by decide +kernel
theorem dX8_readLines_10 : decode cX8_readLines 10 = .ok (.iconst 0, 1) := by decide +kernel
theorem dX8_readLines_11 : decode cX8_readLines 11 = .ok (.istore_n 1, 1) := by decide +kernel
theorem dX8_readLines_12 : decode cX8_readLines 12 = .ok (.aload_n 0, 1) := by decide +kernel
theorem dX8_readLines_13 : decode cX8_readLines 13 = .ok (.invokevirtual 237, 3) := by decide +kernel
theorem dX8_readLines_16 : decode cX8_readLines 16 = .ok (.ifCond .ne 7, 3) := by decide +kernel
theorem dX8_readLines_19 : decode cX8_readLines 19 = .ok (.iload_n 1, 1) := by decide +kernel
theorem dX8_readLines_20 : decode cX8_readLines 20 = .ok (.ifCond .eq 161, 3) := by decide +kernel
theorem dX8_readLines_23 : decode cX8_readLines 23 = .ok (.aload_n 0, 1) := by decide +kernel
theorem dX8_readLines_24 : decode cX8_readLines 24 = .ok (.invokevirtual 237, 3) := by decide +kernel
theorem dX8_readLines_27 : decode cX8_readLines 27 = .ok (.istore_n 2, 1) := by decide +kernel
theorem dX8_readLines_28 : decode cX8_readLines 28 = .ok (.iload_n 2, 1) := by decide +kernel
theorem dX8_readLines_29 : decode cX8_readLines 29 = .ok (.bipush 124, 2) := by decide +kernel
theorem dX8_readLines_31 : decode cX8_readLines 31 = .ok (.if_icmp .ne 29, 3) := by decide +kernel
theorem dX8_readLines_34 : decode cX8_readLines 34 = .ok (.iload_n 1, 1) := by decide +kernel
theorem dX8_readLines_35 : decode cX8_readLines 35 = .ok (.ifCond .ne 25, 3) := by decide +kernel
theorem dX8_readLines_38 : decode cX8_readLines 38 = .ok (.aload_n 0, 1) := by decide +kernel
theorem dX8_readLines_39 : decode cX8_readLines 39 = .ok (.getfield 247, 3) := by decide +kernel
theorem dX8_readLines_42 : decode cX8_readLines 42 = .ok (.ifCond .le 18, 3) := by decide +kernel
theorem dX8_readLines_45 : decode cX8_readLines 45 = .ok (.iconst 1, 1) := by decide +kernel
theorem dX8_readLines_46 : decode cX8_readLines 46 = .ok (.istore_n 1, 1) := by decide +kernel
theorem dX8_readLines_47 : decode cX8_readLines 47 = .ok (.aload_n 0, 1) := by decide +kernel
theorem dX8_readLines_48 : decode cX8_readLines 48 = .ok (.dup, 1) := by decide +kernel
theorem dX8_readLines_49 : decode cX8_readLines 49 = .ok (.getfield 234, 3) := by decide +kernel
theorem dX8_readLines_52 : decode cX8_readLines 52 = .ok (.iconst 1, 1) := by decide +kernel
theorem dX8_readLines_53 : decode cX8_readLines 53 = .ok (.iadd, 1) := by decide +kernel
theorem dX8_readLines_54 : decode cX8_readLines 54 = .ok (.putfield 234, 3) := by decide +kernel
theorem dX8_readLines_57 : decode cX8_readLines 57 = .ok (.goto 121, 3) := by decide +kernel
theorem dX8_readLines_60 : decode cX8_readLines 60 = .ok (.iload_n 2, 1) := by decide +kernel
theorem dX8_readLines_61 : decode cX8_readLines 61 = .ok (.i2l, 1) := by decide +kernel
theorem dX8_readLines_62 : decode cX8_readLines 62 = .ok (.ldc2_w 250, 3) := by decide +kernel
theorem dX8_readLines_65 : decode cX8_readLines 65 = .ok (.ldc2_w 252, 3) := by decide +kernel
theorem dX8_readLines_68 : decode cX8_readLines 68 = .ok (.invokestatic 63, 3) := by decide +kernel
theorem dX8_readLines_71 : decode cX8_readLines 71 = .ok (.ifCond .eq 105, 3) := by decide +kernel
theorem dX8_readLines_74 : decode cX8_readLines 74 = .ok (.aload_n 0, 1) := by decide +kernel
theorem dX8_readLines_75 : decode cX8_readLines 75 = .ok (.getfield 247, 3) := by decide +kernel
theorem dX8_readLines_78 : decode cX8_readLines 78 = .ok (.bipush 12, 2) := by decide +kernel
theorem dX8_readLines_80 : decode cX8_readLines 80 = .ok (.if_icmp .ge 96, 3) := by decide +kernel
theorem dX8_readLines_83 : decode cX8_readLines 83 = .ok (.bipush 15, 2) := by decide +kernel
theorem dX8_readLines_85 : decode cX8_readLines 85 = .ok (.aload_n 0, 1) := by decide +kernel
theorem dX8_readLines_86 : decode cX8_readLines 86 = .ok (.getfield 247, 3) := by decide +kernel
theorem dX8_readLines_89 : decode cX8_readLines 89 = .ok (.imul, 1) := by decide +kernel
theorem dX8_readLines_90 : decode cX8_readLines 90 = .ok (.istore_n 3, 1) := by decide +kernel
theorem dX8_readLines_91 : decode cX8_readLines 91 = .ok (.iconst 0, 1) := by decide +kernel
theorem dX8_readLines_92 : decode cX8_readLines 92 = .ok (.istore 4, 2) := by decide +kernel
theorem dX8_readLines_94 : decode cX8_readLines 94 = .ok (.iload 4, 2) := by decide +kernel
theorem dX8_readLines_96 : decode cX8_readLines 96 = .ok (.bipush 15, 2) := by decide +kernel
theorem dX8_readLines_98 : decode cX8_readLines 98 = .ok (.if_icmp .ge 19, 3) := by decide +kernel
theorem dX8_readLines_101 : decode cX8_readLines 101 = .ok (.aload_n 0, 1) := by decide +kernel
theorem dX8_readLines_102 : decode cX8_readLines 102 = .ok (.getfield 60, 3) := by decide +kernel
theorem dX8_readLines_105 : decode cX8_readLines 105 = .ok (.iload_n 3, 1) := by decide +kernel
theorem dX8_readLines_106 : decode cX8_readLines 106 = .ok (.iload 4, 2) := by decide +kernel
theorem dX8_readLines_108 : decode cX8_readLines 108 = .ok (.iadd, 1) := by decide +kernel
theorem dX8_readLines_109 : decode cX8_readLines 109 = .ok (.iconst 0, 1) := by decide +kernel
theorem dX8_readLines_110 : decode cX8_readLines 110 = .ok (.iastore, 1) := by decide +kernel
theorem dX8_readLines_111 : decode cX8_readLines 111 = .ok (.iinc 4 1, 3) := by decide +kernel
theorem dX8_readLines_114 : decode cX8_readLines 114 = .ok (.goto (-20), 3) := by decide +kernel
theorem dX8_readLines_117 : decode cX8_readLines 117 = .ok (.aload_n 0, 1) := by decide +kernel
theorem dX8_readLines_118 : decode cX8_readLines 118 = .ok (.getfield 60, 3) := by decide +kernel
theorem dX8_readLines_121 : decode cX8_readLines 121 = .ok (.iload_n 3, 1) := by decide +kernel
theorem dX8_readLines_122 : decode cX8_readLines 122 = .ok (.iconst 0, 1) := by decide +kernel
theorem dX8_readLines_123 : decode cX8_readLines 123 = .ok (.iadd, 1) := by decide +kernel
theorem dX8_readLines_124 : decode cX8_readLines 124 = .ok (.iload_n 2, 1) := by decide +kernel
theorem dX8_readLines_125 : decode cX8_readLines 125 = .ok (.bipush 65, 2) := by decide +kernel
theorem dX8_readLines_127 : decode cX8_readLines 127 = .ok (.isub, 1) := by decide +kernel
theorem dX8_readLines_128 : decode cX8_readLines 128 = .ok (.iastore, 1) := by decide +kernel
theorem dX8_readLines_129 : decode cX8_readLines 129 = .ok (.aload_n 0, 1) := by decide +kernel
theorem dX8_readLines_130 : decode cX8_readLines 130 = .ok (.getfield 60, 3) := by decide +kernel
theorem dX8_readLines_133 : decode cX8_readLines 133 = .ok (.iload_n 3, 1) := by decide +kernel
theorem dX8_readLines_134 : decode cX8_readLines 134 = .ok (.iconst 1, 1) := by decide +kernel
theorem dX8_readLines_135 : decode cX8_readLines 135 = .ok (.iadd, 1) := by decide +kernel
theorem dX8_readLines_136 : decode cX8_readLines 136 = .ok (.iload_n 1, 1) := by decide +kernel
theorem dX8_readLines_137 : decode cX8_readLines 137 = .ok (.ifCond .eq 7, 3) := by decide +kernel
theorem dX8_readLines_140 : decode cX8_readLines 140 = .ok (.iconst 1, 1) := by decide +kernel
theorem dX8_readLines_141 : decode cX8_readLines 141 = .ok (.goto 4, 3) := by decide +kernel
theorem dX8_readLines_144 : decode cX8_readLines 144 = .ok (.iconst 0, 1) := by decide +kernel
theorem dX8_readLines_145 : decode cX8_readLines 145 = .ok (.iastore, 1) := by decide +kernel
theorem dX8_readLines_146 : decode cX8_readLines 146 = .ok (.aload_n 0, 1) := by decide +kernel
theorem dX8_readLines_147 : decode cX8_readLines 147 = .ok (.dup, 1) := by decide +kernel
theorem dX8_readLines_148 : decode cX8_readLines 148 = .ok (.getfield 234, 3) := by decide +kernel
theorem dX8_readLines_151 : decode cX8_readLines 151 = .ok (.iconst 1, 1) := by decide +kernel
theorem dX8_readLines_152 : decode cX8_readLines 152 = .ok (.iadd, 1) := by decide +kernel
theorem dX8_readLines_153 : decode cX8_readLines 153 = .ok (.putfield 234, 3) := by decide +kernel
theorem dX8_readLines_156 : decode cX8_readLines 156 = .ok (.aload_n 0, 1) := by decide +kernel
theorem dX8_readLines_157 : decode cX8_readLines 157 = .ok (.iload_n 3, 1) := by decide +kernel
theorem dX8_readLines_158 : decode cX8_readLines 158 = .ok (.invokevirtual 254, 3) := by decide +kernel
theorem dX8_readLines_161 : decode cX8_readLines 161 = .ok (.aload_n 0, 1) := by decide +kernel
theorem dX8_readLines_162 : decode cX8_readLines 162 = .ok (.dup, 1) := by decide +kernel
theorem dX8_readLines_163 : decode cX8_readLines 163 = .ok (.getfield 247, 3) := by decide +kernel
theorem dX8_readLines_166 : decode cX8_readLines 166 = .ok (.iconst 1, 1) := by decide +kernel
theorem dX8_readLines_167 : decode cX8_readLines 167 = .ok (.iadd, 1) := by decide +kernel
theorem dX8_readLines_168 : decode cX8_readLines 168 = .ok (.putfield 247, 3) := by decide +kernel
theorem dX8_readLines_171 : decode cX8_readLines 171 = .ok (.iconst 0, 1) := by decide +kernel
theorem dX8_readLines_172 : decode cX8_readLines 172 = .ok (.istore_n 1, 1) := by decide +kernel
theorem dX8_readLines_173 : decode cX8_readLines 173 = .ok (.goto 5, 3) := by decide +kernel
theorem dX8_readLines_176 : decode cX8_readLines 176 = .ok (.iconst 0, 1) := by decide +kernel
theorem dX8_readLines_177 : decode cX8_readLines 177 = .ok (.ireturn, 1) := by decide +kernel
theorem dX8_readLines_178 : decode cX8_readLines 178 = .ok (.goto (-166), 3) := by decide +kernel
theorem dX8_readLines_181 : decode cX8_readLines 181 = .ok (.iconst 1, 1) := by decide +kernel
theorem dX8_readLines_182 : decode cX8_readLines 182 = .ok (.ireturn, 1) := by decide +kernel
theorem dX8_read_0 : decode cX8_read 0 = .ok (.aload_n 0, 1) := by decide +kernel
theorem dX8_read_1 : decode cX8_read 1 = .ok (.invokevirtual 258, 3) := by decide +kernel
theorem dX8_read_4 : decode cX8_read 4 = .ok (.istore_n 1, 1) := by decide +kernel
theorem dX8_read_5 : decode cX8_read 5 = .ok (.aload_n 0, 1) := by decide +kernel
theorem dX8_read_6 : decode cX8_read 6 = .ok (.iconst 0, 1) := by decide +kernel
theorem dX8_read_7 : decode cX8_read 7 = .ok (.putfield 231, 3) := by decide +kernel
theorem dX8_read_10 : decode cX8_read 10 = .ok (.iload_n 1, 1) := by decide +kernel
theorem dX8_read_11 : decode cX8_read 11 = .ok (.ifCond .ne 11, 3) := by decide +kernel
theorem dX8_read_14 : decode cX8_read 14 = .ok (.bipush (-20), 2) := by decide +kernel
theorem dX8_read_16 : decode cX8_read 16 = .ok (.aload_n 0, 1) := by decide +kernel
theorem dX8_read_17 : decode cX8_read 17 = .ok (.getfield 234, 3) := by decide +kernel
theorem dX8_read_20 : decode cX8_read 20 = .ok (.isub, 1) := by decide +kernel
theorem dX8_read_21 : decode cX8_read 21 = .ok (.ireturn, 1) := by decide +kernel
theorem dX8_read_22 : decode cX8_read 22 = .ok (.aload_n 0, 1) := by decide +kernel
theorem dX8_read_23 : decode cX8_read 23 = .ok (.invokevirtual 206, 3) := by decide +kernel
theorem dX8_read_26 : decode cX8_read 26 = .ok (.aload_n 0, 1) := by decide +kernel
theorem dX8_read_27 : decode cX8_read 27 = .ok (.invokevirtual 191, 3) := by decide +kernel
theorem dX8_read_30 : decode cX8_read 30 = .ok (.aload_n 0, 1) := by decide +kernel
theorem dX8_read_31 : decode cX8_read 31 = .ok (.getfield 7, 3) := by decide +kernel
theorem dX8_read_34 : decode cX8_read 34 = .ok (.iconst 0, 1) := by decide +kernel
theorem dX8_read_35 : decode cX8_read 35 = .ok (.aload_n 0, 1) := by decide +kernel
theorem dX8_read_36 : decode cX8_read 36 = .ok (.getfield 247, 3) := by decide +kernel
theorem dX8_read_39 : decode cX8_read 39 = .ok (.iastore, 1) := by decide +kernel
theorem dX8_read_40 : decode cX8_read 40 = .ok (.iconst 0, 1) := by decide +kernel
theorem dX8_read_41 : decode cX8_read 41 = .ok (.istore_n 2, 1) := by decide +kernel
theorem dX8_read_42 : decode cX8_read 42 = .ok (.iload_n 2, 1) := by decide +kernel
theorem dX8_read_43 : decode cX8_read 43 = .ok (.bipush 15, 2) := by decide +kernel
theorem dX8_read_45 : decode cX8_read 45 = .ok (.aload_n 0, 1) := by decide +kernel
theorem dX8_read_46 : decode cX8_read 46 = .ok (.getfield 247, 3) := by decide +kernel
theorem dX8_read_49 : decode cX8_read 49 = .ok (.imul, 1) := by decide +kernel
theorem dX8_read_50 : decode cX8_read 50 = .ok (.if_icmp .ge 24, 3) := by decide +kernel
theorem dX8_read_53 : decode cX8_read 53 = .ok (.aload_n 0, 1) := by decide +kernel
theorem dX8_read_54 : decode cX8_read 54 = .ok (.getfield 7, 3) := by decide +kernel
theorem dX8_read_57 : decode cX8_read 57 = .ok (.bipush 9, 2) := by decide +kernel
theorem dX8_read_59 : decode cX8_read 59 = .ok (.iload_n 2, 1) := by decide +kernel
theorem dX8_read_60 : decode cX8_read 60 = .ok (.iadd, 1) := by decide +kernel
theorem dX8_read_61 : decode cX8_read 61 = .ok (.aload_n 0, 1) := by decide +kernel
theorem dX8_read_62 : decode cX8_read 62 = .ok (.getfield 60, 3) := by decide +kernel
theorem dX8_read_65 : decode cX8_read 65 = .ok (.iload_n 2, 1) := by decide +kernel
theorem dX8_read_66 : decode cX8_read 66 = .ok (.iaload, 1) := by decide +kernel
theorem dX8_read_67 : decode cX8_read 67 = .ok (.iastore, 1) := by decide +kernel
theorem dX8_read_68 : decode cX8_read 68 = .ok (.iinc 2 1, 3) := by decide +kernel
theorem dX8_read_71 : decode cX8_read 71 = .ok (.goto (-29), 3) := by decide +kernel
theorem dX8_read_74 : decode cX8_read 74 = .ok (.aload_n 0, 1) := by decide +kernel
theorem dX8_read_75 : decode cX8_read 75 = .ok (.getfield 247, 3) := by decide +kernel
theorem dX8_read_78 : decode cX8_read 78 = .ok (.ireturn, 1) := by decide +kernel
theorem dX8_turn_0 : decode cX8_turn 0 = .ok (.iload_n 1, 1) := by decide +kernel
theorem dX8_turn_1 : decode cX8_turn 1 = .ok (.bipush 8, 2) := by decide +kernel
theorem dX8_turn_3 : decode cX8_turn 3 = .ok (.idiv, 1) := by decide +kernel
theorem dX8_turn_4 : decode cX8_turn 4 = .ok (.istore_n 2, 1) := by decide +kernel
theorem dX8_turn_5 : decode cX8_turn 5 = .ok (.iload_n 1, 1) := by decide +kernel
theorem dX8_turn_6 : decode cX8_turn 6 = .ok (.bipush 8, 2) := by decide +kernel
theorem dX8_turn_8 : decode cX8_turn 8 = .ok (.irem, 1) := by decide +kernel
theorem dX8_turn_9 : decode cX8_turn 9 = .ok (.tableswitch 96 0 7 #[47, 47, 96, 96, 96, 60, 74, 83], 47) := by decide +kernel
theorem dX8_turn_56 : decode cX8_turn 56 = .ok (.aload_n 0, 1) := by decide +kernel
theorem dX8_turn_57 : decode cX8_turn 57 = .ok (.iload_n 2, 1) := by decide +kernel
theorem dX8_turn_58 : decode cX8_turn 58 = .ok (.iconst 4, 1) := by decide +kernel
theorem dX8_turn_59 : decode cX8_turn 59 = .ok (.irem, 1) := by decide +kernel
theorem dX8_turn_60 : decode cX8_turn 60 = .ok (.iload_n 2, 1) := by decide +kernel
theorem dX8_turn_61 : decode cX8_turn 61 = .ok (.iconst 4, 1) := by decide +kernel
theorem dX8_turn_62 : decode cX8_turn 62 = .ok (.idiv, 1) := by decide +kernel
theorem dX8_turn_63 : decode cX8_turn 63 = .ok (.iconst 2, 1) := by decide +kernel
theorem dX8_turn_64 : decode cX8_turn 64 = .ok (.irem, 1) := by decide +kernel
theorem dX8_turn_65 : decode cX8_turn 65 = .ok (.invokevirtual 209, 3) := by decide +kernel
theorem dX8_turn_68 : decode cX8_turn 68 = .ok (.ireturn, 1) := by decide +kernel
theorem dX8_turn_69 : decode cX8_turn 69 = .ok (.aload_n 0, 1) := by decide +kernel
theorem dX8_turn_70 : decode cX8_turn 70 = .ok (.iload_n 2, 1) := by decide +kernel
theorem dX8_turn_71 : decode cX8_turn 71 = .ok (.iconst 4, 1) := by decide +kernel
theorem dX8_turn_72 : decode cX8_turn 72 = .ok (.idiv, 1) := by decide +kernel
theorem dX8_turn_73 : decode cX8_turn 73 = .ok (.bipush 12, 2) := by decide +kernel
theorem dX8_turn_75 : decode cX8_turn 75 = .ok (.irem, 1) := by decide +kernel
theorem dX8_turn_76 : decode cX8_turn 76 = .ok (.iload_n 2, 1) := by decide +kernel
theorem dX8_turn_77 : decode cX8_turn 77 = .ok (.iconst 4, 1) := by decide +kernel
theorem dX8_turn_78 : decode cX8_turn 78 = .ok (.irem, 1) := by decide +kernel
theorem dX8_turn_79 : decode cX8_turn 79 = .ok (.invokevirtual 221, 3) := by decide +kernel
theorem dX8_turn_82 : decode cX8_turn 82 = .ok (.ireturn, 1) := by decide +kernel
theorem dX8_turn_83 : decode cX8_turn 83 = .ok (.aload_n 0, 1) := by decide +kernel
theorem dX8_turn_84 : decode cX8_turn 84 = .ok (.iconst 5, 1) := by decide +kernel
theorem dX8_turn_85 : decode cX8_turn 85 = .ok (.iload_n 2, 1) := by decide +kernel
theorem dX8_turn_86 : decode cX8_turn 86 = .ok (.iconst 3, 1) := by decide +kernel
theorem dX8_turn_87 : decode cX8_turn 87 = .ok (.irem, 1) := by decide +kernel
theorem dX8_turn_88 : decode cX8_turn 88 = .ok (.invokevirtual 224, 3) := by decide +kernel
theorem dX8_turn_91 : decode cX8_turn 91 = .ok (.ireturn, 1) := by decide +kernel
theorem dX8_turn_92 : decode cX8_turn 92 = .ok (.aload_n 0, 1) := by decide +kernel
theorem dX8_turn_93 : decode cX8_turn 93 = .ok (.iconst 0, 1) := by decide +kernel
theorem dX8_turn_94 : decode cX8_turn 94 = .ok (.iload_n 2, 1) := by decide +kernel
theorem dX8_turn_95 : decode cX8_turn 95 = .ok (.bipush 35, 2) := by decide +kernel
theorem dX8_turn_97 : decode cX8_turn 97 = .ok (.irem, 1) := by decide +kernel
theorem dX8_turn_98 : decode cX8_turn 98 = .ok (.bipush 6, 2) := by decide +kernel
theorem dX8_turn_100 : decode cX8_turn 100 = .ok (.iadd, 1) := by decide +kernel
theorem dX8_turn_101 : decode cX8_turn 101 = .ok (.invokevirtual 224, 3) := by decide +kernel
theorem dX8_turn_104 : decode cX8_turn 104 = .ok (.ireturn, 1) := by decide +kernel
theorem dX8_turn_105 : decode cX8_turn 105 = .ok (.aload_n 0, 1) := by decide +kernel
theorem dX8_turn_106 : decode cX8_turn 106 = .ok (.iload_n 2, 1) := by decide +kernel
theorem dX8_turn_107 : decode cX8_turn 107 = .ok (.bipush 9, 2) := by decide +kernel
theorem dX8_turn_109 : decode cX8_turn 109 = .ok (.irem, 1) := by decide +kernel
theorem dX8_turn_110 : decode cX8_turn 110 = .ok (.iconst 1, 1) := by decide +kernel
theorem dX8_turn_111 : decode cX8_turn 111 = .ok (.iadd, 1) := by decide +kernel
theorem dX8_turn_112 : decode cX8_turn 112 = .ok (.iload_n 2, 1) := by decide +kernel
theorem dX8_turn_113 : decode cX8_turn 113 = .ok (.bipush 9, 2) := by decide +kernel
theorem dX8_turn_115 : decode cX8_turn 115 = .ok (.idiv, 1) := by decide +kernel
theorem dX8_turn_116 : decode cX8_turn 116 = .ok (.iconst 4, 1) := by decide +kernel
theorem dX8_turn_117 : decode cX8_turn 117 = .ok (.irem, 1) := by decide +kernel
theorem dX8_turn_118 : decode cX8_turn 118 = .ok (.invokevirtual 215, 3) := by decide +kernel
theorem dX8_turn_121 : decode cX8_turn 121 = .ok (.ireturn, 1) := by decide +kernel
theorem dX8_drift_0 : decode cX8_drift 0 = .ok (.iload_n 1, 1) := by decide +kernel
theorem dX8_drift_1 : decode cX8_drift 1 = .ok (.i2l, 1) := by decide +kernel
theorem dX8_drift_2 : decode cX8_drift 2 = .ok (.lconst 1, 1) := by decide +kernel
theorem dX8_drift_3 : decode cX8_drift 3 = .ok (.ldc2_w 196, 3) := by decide +kernel
theorem dX8_drift_6 : decode cX8_drift 6 = .ok (.invokestatic 63, 3) := by decide +kernel
theorem dX8_drift_9 : decode cX8_drift 9 = .ok (.ifCond .ne 5, 3) := by decide +kernel
theorem dX8_drift_12 : decode cX8_drift 12 = .ok (.iconst (-1), 1) := by decide +kernel
theorem dX8_drift_13 : decode cX8_drift 13 = .ok (.ireturn, 1) := by decide +kernel
theorem dX8_drift_14 : decode cX8_drift 14 = .ok (.iconst 0, 1) := by decide +kernel
theorem dX8_drift_15 : decode cX8_drift 15 = .ok (.istore_n 2, 1) := by decide +kernel
theorem dX8_drift_16 : decode cX8_drift 16 = .ok (.iload_n 2, 1) := by decide +kernel
theorem dX8_drift_17 : decode cX8_drift 17 = .ok (.iload_n 1, 1) := by decide +kernel
theorem dX8_drift_18 : decode cX8_drift 18 = .ok (.if_icmp .ge 58, 3) := by decide +kernel
theorem dX8_drift_21 : decode cX8_drift 21 = .ok (.aload_n 0, 1) := by decide +kernel
theorem dX8_drift_22 : decode cX8_drift 22 = .ok (.invokevirtual 206, 3) := by decide +kernel
theorem dX8_drift_25 : decode cX8_drift 25 = .ok (.aload_n 0, 1) := by decide +kernel
theorem dX8_drift_26 : decode cX8_drift 26 = .ok (.invokevirtual 191, 3) := by decide +kernel
theorem dX8_drift_29 : decode cX8_drift 29 = .ok (.aload_n 0, 1) := by decide +kernel
theorem dX8_drift_30 : decode cX8_drift 30 = .ok (.getfield 7, 3) := by decide +kernel
theorem dX8_drift_33 : decode cX8_drift 33 = .ok (.iconst 1, 1) := by decide +kernel
theorem dX8_drift_34 : decode cX8_drift 34 = .ok (.aload_n 0, 1) := by decide +kernel
theorem dX8_drift_35 : decode cX8_drift 35 = .ok (.getfield 7, 3) := by decide +kernel
theorem dX8_drift_38 : decode cX8_drift 38 = .ok (.iconst 1, 1) := by decide +kernel
theorem dX8_drift_39 : decode cX8_drift 39 = .ok (.iaload, 1) := by decide +kernel
theorem dX8_drift_40 : decode cX8_drift 40 = .ok (.i2l, 1) := by decide +kernel
theorem dX8_drift_41 : decode cX8_drift 41 = .ok (.ldc2_w 262, 3) := by decide +kernel
theorem dX8_drift_44 : decode cX8_drift 44 = .ok (.lmul, 1) := by decide +kernel
theorem dX8_drift_45 : decode cX8_drift 45 = .ok (.ldc2_w 264, 3) := by decide +kernel
theorem dX8_drift_48 : decode cX8_drift 48 = .ok (.ladd, 1) := by decide +kernel
theorem dX8_drift_49 : decode cX8_drift 49 = .ok (.ldc2_w 266, 3) := by decide +kernel
theorem dX8_drift_52 : decode cX8_drift 52 = .ok (.land, 1) := by decide +kernel
theorem dX8_drift_53 : decode cX8_drift 53 = .ok (.l2i, 1) := by decide +kernel
theorem dX8_drift_54 : decode cX8_drift 54 = .ok (.iastore, 1) := by decide +kernel
theorem dX8_drift_55 : decode cX8_drift 55 = .ok (.aload_n 0, 1) := by decide +kernel
theorem dX8_drift_56 : decode cX8_drift 56 = .ok (.aload_n 0, 1) := by decide +kernel
theorem dX8_drift_57 : decode cX8_drift 57 = .ok (.getfield 7, 3) := by decide +kernel
theorem dX8_drift_60 : decode cX8_drift 60 = .ok (.iconst 1, 1) := by decide +kernel
theorem dX8_drift_61 : decode cX8_drift 61 = .ok (.iaload, 1) := by decide +kernel
theorem dX8_drift_62 : decode cX8_drift 62 = .ok (.ldc_w 268, 3) := by decide +kernel
theorem dX8_drift_65 : decode cX8_drift 65 = .ok (.idiv, 1) := by decide +kernel
theorem dX8_drift_66 : decode cX8_drift 66 = .ok (.invokevirtual 269, 3) := by decide +kernel
theorem dX8_drift_69 : decode cX8_drift 69 = .ok (.istore_n 3, 1) := by decide +kernel
theorem dX8_drift_70 : decode cX8_drift 70 = .ok (.iinc 2 1, 3) := by decide +kernel
theorem dX8_drift_73 : decode cX8_drift 73 = .ok (.goto (-57), 3) := by decide +kernel
theorem dX8_drift_76 : decode cX8_drift 76 = .ok (.aload_n 0, 1) := by decide +kernel
theorem dX8_drift_77 : decode cX8_drift 77 = .ok (.getfield 7, 3) := by decide +kernel
theorem dX8_drift_80 : decode cX8_drift 80 = .ok (.iconst 0, 1) := by decide +kernel
theorem dX8_drift_81 : decode cX8_drift 81 = .ok (.iaload, 1) := by decide +kernel
theorem dX8_drift_82 : decode cX8_drift 82 = .ok (.ireturn, 1) := by decide +kernel
theorem dX8_undo_0 : decode cX8_undo 0 = .ok (.aload_n 0, 1) := by decide +kernel
theorem dX8_undo_1 : decode cX8_undo 1 = .ok (.getfield 161, 3) := by decide +kernel
theorem dX8_undo_4 : decode cX8_undo 4 = .ok (.ifCond .ne 6, 3) := by decide +kernel
theorem dX8_undo_7 : decode cX8_undo 7 = .ok (.bipush (-4), 2) := by decide +kernel
theorem dX8_undo_9 : decode cX8_undo 9 = .ok (.ireturn, 1) := by decide +kernel
theorem dX8_undo_10 : decode cX8_undo 10 = .ok (.aload_n 0, 1) := by decide +kernel
theorem dX8_undo_11 : decode cX8_undo 11 = .ok (.dup, 1) := by decide +kernel
theorem dX8_undo_12 : decode cX8_undo 12 = .ok (.getfield 161, 3) := by decide +kernel
theorem dX8_undo_15 : decode cX8_undo 15 = .ok (.iconst 1, 1) := by decide +kernel
theorem dX8_undo_16 : decode cX8_undo 16 = .ok (.isub, 1) := by decide +kernel
theorem dX8_undo_17 : decode cX8_undo 17 = .ok (.putfield 161, 3) := by decide +kernel
theorem dX8_undo_20 : decode cX8_undo 20 = .ok (.iconst 0, 1) := by decide +kernel
theorem dX8_undo_21 : decode cX8_undo 21 = .ok (.istore_n 1, 1) := by decide +kernel
theorem dX8_undo_22 : decode cX8_undo 22 = .ok (.iload_n 1, 1) := by decide +kernel
theorem dX8_undo_23 : decode cX8_undo 23 = .ok (.sipush 189, 3) := by decide +kernel
theorem dX8_undo_26 : decode cX8_undo 26 = .ok (.if_icmp .ge 30, 3) := by decide +kernel
theorem dX8_undo_29 : decode cX8_undo 29 = .ok (.aload_n 0, 1) := by decide +kernel
theorem dX8_undo_30 : decode cX8_undo 30 = .ok (.getfield 7, 3) := by decide +kernel
theorem dX8_undo_33 : decode cX8_undo 33 = .ok (.iload_n 1, 1) := by decide +kernel
theorem dX8_undo_34 : decode cX8_undo 34 = .ok (.aload_n 0, 1) := by decide +kernel
theorem dX8_undo_35 : decode cX8_undo 35 = .ok (.getfield 13, 3) := by decide +kernel
theorem dX8_undo_38 : decode cX8_undo 38 = .ok (.sipush 189, 3) := by decide +kernel
theorem dX8_undo_41 : decode cX8_undo 41 = .ok (.aload_n 0, 1) := by decide +kernel
theorem dX8_undo_42 : decode cX8_undo 42 = .ok (.getfield 161, 3) := by decide +kernel
theorem dX8_undo_45 : decode cX8_undo 45 = .ok (.imul, 1) := by decide +kernel
theorem dX8_undo_46 : decode cX8_undo 46 = .ok (.iload_n 1, 1) := by decide +kernel
theorem dX8_undo_47 : decode cX8_undo 47 = .ok (.iadd, 1) := by decide +kernel
theorem dX8_undo_48 : decode cX8_undo 48 = .ok (.iaload, 1) := by decide +kernel
theorem dX8_undo_49 : decode cX8_undo 49 = .ok (.iastore, 1) := by decide +kernel
theorem dX8_undo_50 : decode cX8_undo 50 = .ok (.iinc 1 1, 3) := by decide +kernel
theorem dX8_undo_53 : decode cX8_undo 53 = .ok (.goto (-31), 3) := by decide +kernel
theorem dX8_undo_56 : decode cX8_undo 56 = .ok (.aload_n 0, 1) := by decide +kernel
theorem dX8_undo_57 : decode cX8_undo 57 = .ok (.getfield 161, 3) := by decide +kernel
theorem dX8_undo_60 : decode cX8_undo 60 = .ok (.ireturn, 1) := by decide +kernel
theorem dX8_seed_0 : decode cX8_seed 0 = .ok (.iload_n 1, 1) := by decide +kernel
theorem dX8_seed_1 : decode cX8_seed 1 = .ok (.ifCond .ge 5, 3) := by decide +kernel
theorem dX8_seed_4 : decode cX8_seed 4 = .ok (.iconst (-1), 1) := by decide +kernel
theorem dX8_seed_5 : decode cX8_seed 5 = .ok (.ireturn, 1) := by decide +kernel
theorem dX8_seed_6 : decode cX8_seed 6 = .ok (.aload_n 0, 1) := by decide +kernel
theorem dX8_seed_7 : decode cX8_seed 7 = .ok (.getfield 7, 3) := by decide +kernel
theorem dX8_seed_10 : decode cX8_seed 10 = .ok (.iconst 1, 1) := by decide +kernel
theorem dX8_seed_11 : decode cX8_seed 11 = .ok (.iaload, 1) := by decide +kernel
theorem dX8_seed_12 : decode cX8_seed 12 = .ok (.istore_n 2, 1) := by decide +kernel
theorem dX8_seed_13 : decode cX8_seed 13 = .ok (.aload_n 0, 1) := by decide +kernel
theorem dX8_seed_14 : decode cX8_seed 14 = .ok (.getfield 7, 3) := by decide +kernel
theorem dX8_seed_17 : decode cX8_seed 17 = .ok (.iconst 1, 1) := by decide +kernel
theorem dX8_seed_18 : decode cX8_seed 18 = .ok (.iload_n 1, 1) := by decide +kernel
theorem dX8_seed_19 : decode cX8_seed 19 = .ok (.iastore, 1) := by decide +kernel
theorem dX8_seed_20 : decode cX8_seed 20 = .ok (.iload_n 2, 1) := by decide +kernel
theorem dX8_seed_21 : decode cX8_seed 21 = .ok (.ireturn, 1) := by decide +kernel
theorem dX8_image_0 : decode cX8_image 0 = .ok (.iconst 0, 1) := by decide +kernel
theorem dX8_image_1 : decode cX8_image 1 = .ok (.istore_n 1, 1) := by decide +kernel
theorem dX8_image_2 : decode cX8_image 2 = .ok (.iload_n 1, 1) := by decide +kernel
theorem dX8_image_3 : decode cX8_image 3 = .ok (.sipush 189, 3) := by decide +kernel
theorem dX8_image_6 : decode cX8_image 6 = .ok (.if_icmp .ge 21, 3) := by decide +kernel
theorem dX8_image_9 : decode cX8_image 9 = .ok (.aload_n 0, 1) := by decide +kernel
theorem dX8_image_10 : decode cX8_image 10 = .ok (.getfield 16, 3) := by decide +kernel
theorem dX8_image_13 : decode cX8_image 13 = .ok (.iload_n 1, 1) := by decide +kernel
theorem dX8_image_14 : decode cX8_image 14 = .ok (.aload_n 0, 1) := by decide +kernel
theorem dX8_image_15 : decode cX8_image 15 = .ok (.getfield 7, 3) := by decide +kernel
theorem dX8_image_18 : decode cX8_image 18 = .ok (.iload_n 1, 1) := by decide +kernel
theorem dX8_image_19 : decode cX8_image 19 = .ok (.iaload, 1) := by decide +kernel
theorem dX8_image_20 : decode cX8_image 20 = .ok (.iastore, 1) := by decide +kernel
theorem dX8_image_21 : decode cX8_image 21 = .ok (.iinc 1 1, 3) := by decide +kernel
theorem dX8_image_24 : decode cX8_image 24 = .ok (.goto (-22), 3) := by decide +kernel
theorem dX8_image_27 : decode cX8_image 27 = .ok (.iconst 0, 1) := by decide +kernel
theorem dX8_image_28 : decode cX8_image 28 = .ok (.istore_n 1, 1) := by decide +kernel
theorem dX8_image_29 : decode cX8_image 29 = .ok (.iload_n 1, 1) := by decide +kernel
theorem dX8_image_30 : decode cX8_image 30 = .ok (.sipush 1134, 3) := by decide +kernel
theorem dX8_image_33 : decode cX8_image 33 = .ok (.if_icmp .ge 21, 3) := by decide +kernel
theorem dX8_image_36 : decode cX8_image 36 = .ok (.aload_n 0, 1) := by decide +kernel
theorem dX8_image_37 : decode cX8_image 37 = .ok (.getfield 19, 3) := by decide +kernel
theorem dX8_image_40 : decode cX8_image 40 = .ok (.iload_n 1, 1) := by decide +kernel
theorem dX8_image_41 : decode cX8_image 41 = .ok (.aload_n 0, 1) := by decide +kernel
theorem dX8_image_42 : decode cX8_image 42 = .ok (.getfield 13, 3) := by decide +kernel
theorem dX8_image_45 : decode cX8_image 45 = .ok (.iload_n 1, 1) := by decide +kernel
theorem dX8_image_46 : decode cX8_image 46 = .ok (.iaload, 1) := by decide +kernel
theorem dX8_image_47 : decode cX8_image 47 = .ok (.iastore, 1) := by decide +kernel
theorem dX8_image_48 : decode cX8_image 48 = .ok (.iinc 1 1, 3) := by decide +kernel
theorem dX8_image_51 : decode cX8_image 51 = .ok (.goto (-22), 3) := by decide +kernel
theorem dX8_image_54 : decode cX8_image 54 = .ok (.aload_n 0, 1) := by decide +kernel
theorem dX8_image_55 : decode cX8_image 55 = .ok (.aload_n 0, 1) := by decide +kernel
theorem dX8_image_56 : decode cX8_image 56 = .ok (.getfield 161, 3) := by decide +kernel
theorem dX8_image_59 : decode cX8_image 59 = .ok (.putfield 22, 3) := by decide +kernel
theorem dX8_image_62 : decode cX8_image 62 = .ok (.iconst 1, 1) := by decide +kernel
theorem dX8_image_63 : decode cX8_image 63 = .ok (.ireturn, 1) := by decide +kernel
theorem dX8_restore_0 : decode cX8_restore 0 = .ok (.aload_n 0, 1) := by decide +kernel
theorem dX8_restore_1 : decode cX8_restore 1 = .ok (.getfield 22, 3) := by decide +kernel
theorem dX8_restore_4 : decode cX8_restore 4 = .ok (.ifCond .ge 6, 3) := by decide +kernel
theorem dX8_restore_7 : decode cX8_restore 7 = .ok (.bipush (-4), 2) := by decide +kernel
theorem dX8_restore_9 : decode cX8_restore 9 = .ok (.ireturn, 1) := by decide +kernel
theorem dX8_restore_10 : decode cX8_restore 10 = .ok (.iconst 0, 1) := by decide +kernel
theorem dX8_restore_11 : decode cX8_restore 11 = .ok (.istore_n 1, 1) := by decide +kernel
theorem dX8_restore_12 : decode cX8_restore 12 = .ok (.iload_n 1, 1) := by decide +kernel
theorem dX8_restore_13 : decode cX8_restore 13 = .ok (.sipush 189, 3) := by decide +kernel
theorem dX8_restore_16 : decode cX8_restore 16 = .ok (.if_icmp .ge 21, 3) := by decide +kernel
theorem dX8_restore_19 : decode cX8_restore 19 = .ok (.aload_n 0, 1) := by decide +kernel
theorem dX8_restore_20 : decode cX8_restore 20 = .ok (.getfield 7, 3) := by decide +kernel
theorem dX8_restore_23 : decode cX8_restore 23 = .ok (.iload_n 1, 1) := by decide +kernel
theorem dX8_restore_24 : decode cX8_restore 24 = .ok (.aload_n 0, 1) := by decide +kernel
theorem dX8_restore_25 : decode cX8_restore 25 = .ok (.getfield 16, 3) := by decide +kernel
theorem dX8_restore_28 : decode cX8_restore 28 = .ok (.iload_n 1, 1) := by decide +kernel
theorem dX8_restore_29 : decode cX8_restore 29 = .ok (.iaload, 1) := by decide +kernel
theorem dX8_restore_30 : decode cX8_restore 30 = .ok (.iastore, 1) := by decide +kernel
theorem dX8_restore_31 : decode cX8_restore 31 = .ok (.iinc 1 1, 3) := by decide +kernel
theorem dX8_restore_34 : decode cX8_restore 34 = .ok (.goto (-22), 3) := by decide +kernel
theorem dX8_restore_37 : decode cX8_restore 37 = .ok (.iconst 0, 1) := by decide +kernel
theorem dX8_restore_38 : decode cX8_restore 38 = .ok (.istore_n 1, 1) := by decide +kernel
theorem dX8_restore_39 : decode cX8_restore 39 = .ok (.iload_n 1, 1) := by decide +kernel
theorem dX8_restore_40 : decode cX8_restore 40 = .ok (.sipush 1134, 3) := by decide +kernel
theorem dX8_restore_43 : decode cX8_restore 43 = .ok (.if_icmp .ge 21, 3) := by decide +kernel
theorem dX8_restore_46 : decode cX8_restore 46 = .ok (.aload_n 0, 1) := by decide +kernel
theorem dX8_restore_47 : decode cX8_restore 47 = .ok (.getfield 13, 3) := by decide +kernel
theorem dX8_restore_50 : decode cX8_restore 50 = .ok (.iload_n 1, 1) := by decide +kernel
theorem dX8_restore_51 : decode cX8_restore 51 = .ok (.aload_n 0, 1) := by decide +kernel
theorem dX8_restore_52 : decode cX8_restore 52 = .ok (.getfield 19, 3) := by decide +kernel
theorem dX8_restore_55 : decode cX8_restore 55 = .ok (.iload_n 1, 1) := by decide +kernel
theorem dX8_restore_56 : decode cX8_restore 56 = .ok (.iaload, 1) := by decide +kernel
theorem dX8_restore_57 : decode cX8_restore 57 = .ok (.iastore, 1) := by decide +kernel
theorem dX8_restore_58 : decode cX8_restore 58 = .ok (.iinc 1 1, 3) := by decide +kernel
theorem dX8_restore_61 : decode cX8_restore 61 = .ok (.goto (-22), 3) := by decide +kernel
theorem dX8_restore_64 : decode cX8_restore 64 = .ok (.aload_n 0, 1) := by decide +kernel
theorem dX8_restore_65 : decode cX8_restore 65 = .ok (.aload_n 0, 1) := by decide +kernel
theorem dX8_restore_66 : decode cX8_restore 66 = .ok (.getfield 22, 3) := by decide +kernel
theorem dX8_restore_69 : decode cX8_restore 69 = .ok (.putfield 161, 3) := by decide +kernel
theorem dX8_restore_72 : decode cX8_restore 72 = .ok (.iconst 1, 1) := by decide +kernel
theorem dX8_restore_73 : decode cX8_restore 73 = .ok (.ireturn, 1) := by decide +kernel
theorem dX8_isSheet_0 : decode cX8_isSheet 0 = .ok (.iload_n 0, 1) := by decide +kernel
theorem dX8_isSheet_1 : decode cX8_isSheet 1 = .ok (.i2l, 1) := by decide +kernel
theorem dX8_isSheet_2 : decode cX8_isSheet 2 = .ok (.lconst 0, 1) := by decide +kernel
theorem dX8_isSheet_3 : decode cX8_isSheet 3 = .ok (.ldc2_w 150, 3) := by decide +kernel
theorem dX8_isSheet_6 : decode cX8_isSheet 6 = .ok (.invokestatic 63, 3) := by decide +kernel
theorem dX8_isSheet_9 : decode cX8_isSheet 9 = .ok (.ireturn, 1) := by decide +kernel
theorem dX8_cut_0 : decode cX8_cut 0 = .ok (.iload_n 0, 1) := by decide +kernel
theorem dX8_cut_1 : decode cX8_cut 1 = .ok (.ifCond .ne 10, 3) := by decide +kernel
theorem dX8_cut_4 : decode cX8_cut 4 = .ok (.lload_n 1, 1) := by decide +kernel
theorem dX8_cut_5 : decode cX8_cut 5 = .ok (.l2i, 1) := by decide +kernel
theorem dX8_cut_6 : decode cX8_cut 6 = .ok (.i2b, 1) := by decide +kernel
theorem dX8_cut_7 : decode cX8_cut 7 = .ok (.i2l, 1) := by decide +kernel
theorem dX8_cut_8 : decode cX8_cut 8 = .ok (.goto 27, 3) := by decide +kernel
theorem dX8_cut_11 : decode cX8_cut 11 = .ok (.iload_n 0, 1) := by decide +kernel
theorem dX8_cut_12 : decode cX8_cut 12 = .ok (.iconst 1, 1) := by decide +kernel
theorem dX8_cut_13 : decode cX8_cut 13 = .ok (.if_icmp .ne 10, 3) := by decide +kernel
theorem dX8_cut_16 : decode cX8_cut 16 = .ok (.lload_n 1, 1) := by decide +kernel
theorem dX8_cut_17 : decode cX8_cut 17 = .ok (.l2i, 1) := by decide +kernel
theorem dX8_cut_18 : decode cX8_cut 18 = .ok (.i2s, 1) := by decide +kernel
theorem dX8_cut_19 : decode cX8_cut 19 = .ok (.i2l, 1) := by decide +kernel
theorem dX8_cut_20 : decode cX8_cut 20 = .ok (.goto 15, 3) := by decide +kernel
theorem dX8_cut_23 : decode cX8_cut 23 = .ok (.iload_n 0, 1) := by decide +kernel
theorem dX8_cut_24 : decode cX8_cut 24 = .ok (.iconst 2, 1) := by decide +kernel
theorem dX8_cut_25 : decode cX8_cut 25 = .ok (.if_icmp .ne 9, 3) := by decide +kernel
theorem dX8_cut_28 : decode cX8_cut 28 = .ok (.lload_n 1, 1) := by decide +kernel
theorem dX8_cut_29 : decode cX8_cut 29 = .ok (.l2i, 1) := by decide +kernel
theorem dX8_cut_30 : decode cX8_cut 30 = .ok (.i2l, 1) := by decide +kernel
theorem dX8_cut_31 : decode cX8_cut 31 = .ok (.goto 4, 3) := by decide +kernel
theorem dX8_cut_34 : decode cX8_cut 34 = .ok (.lload_n 1, 1) := by decide +kernel
theorem dX8_cut_35 : decode cX8_cut 35 = .ok (.lreturn, 1) := by decide +kernel
theorem dX8_found_0 : decode cX8_found 0 = .ok (.aload_n 0, 1) := by decide +kernel
theorem dX8_found_1 : decode cX8_found 1 = .ok (.getfield 29, 3) := by decide +kernel
theorem dX8_found_4 : decode cX8_found 4 = .ok (.iload_n 1, 1) := by decide +kernel
theorem dX8_found_5 : decode cX8_found 5 = .ok (.iaload, 1) := by decide +kernel
theorem dX8_found_6 : decode cX8_found 6 = .ok (.ifCond .ge 6, 3) := by decide +kernel
theorem dX8_found_9 : decode cX8_found 9 = .ok (.bipush (-11), 2) := by decide +kernel
theorem dX8_found_11 : decode cX8_found 11 = .ok (.ireturn, 1) := by decide +kernel
theorem dX8_found_12 : decode cX8_found 12 = .ok (.aload_n 0, 1) := by decide +kernel
theorem dX8_found_13 : decode cX8_found 13 = .ok (.getfield 29, 3) := by decide +kernel
theorem dX8_found_16 : decode cX8_found 16 = .ok (.iload_n 1, 1) := by decide +kernel
theorem dX8_found_17 : decode cX8_found 17 = .ok (.iaload, 1) := by decide +kernel
theorem dX8_found_18 : decode cX8_found 18 = .ok (.iload_n 2, 1) := by decide +kernel
theorem dX8_found_19 : decode cX8_found 19 = .ok (.if_icmp .eq 6, 3) := by decide +kernel
theorem dX8_found_22 : decode cX8_found 22 = .ok (.bipush (-12), 2) := by decide +kernel
theorem dX8_found_24 : decode cX8_found 24 = .ok (.ireturn, 1) := by decide +kernel
theorem dX8_found_25 : decode cX8_found 25 = .ok (.iload_n 3, 1) := by decide +kernel
theorem dX8_found_26 : decode cX8_found 26 = .ok (.ifCond .lt 16, 3) := by decide +kernel
theorem dX8_found_29 : decode cX8_found 29 = .ok (.iload 4, 2) := by decide +kernel
theorem dX8_found_31 : decode cX8_found 31 = .ok (.aload_n 0, 1) := by decide +kernel
theorem dX8_found_32 : decode cX8_found 32 = .ok (.getfield 32, 3) := by decide +kernel
theorem dX8_found_35 : decode cX8_found 35 = .ok (.iload_n 1, 1) := by decide +kernel
theorem dX8_found_36 : decode cX8_found 36 = .ok (.iaload, 1) := by decide +kernel
theorem dX8_found_37 : decode cX8_found 37 = .ok (.iload_n 3, 1) := by decide +kernel
theorem dX8_found_38 : decode cX8_found 38 = .ok (.isub, 1) := by decide +kernel
theorem dX8_found_39 : decode cX8_found 39 = .ok (.if_icmp .le 8, 3) := by decide +kernel
theorem dX8_found_42 : decode cX8_found 42 = .ok (.bipush (-13), 2) := by decide +kernel
theorem dX8_found_44 : decode cX8_found 44 = .ok (.goto 4, 3) := by decide +kernel
theorem dX8_found_47 : decode cX8_found 47 = .ok (.iconst 0, 1) := by decide +kernel
theorem dX8_found_48 : decode cX8_found 48 = .ok (.ireturn, 1) := by decide +kernel
theorem dX8_cuts_0 : decode cX8_cuts 0 = .ok (.iload_n 1, 1) := by decide +kernel
theorem dX8_cuts_1 : decode cX8_cuts 1 = .ok (.invokestatic 272, 3) := by decide +kernel
theorem dX8_cuts_4 : decode cX8_cuts 4 = .ok (.ifCond .eq 28, 3) := by decide +kernel
theorem dX8_cuts_7 : decode cX8_cuts 7 = .ok (.iload_n 2, 1) := by decide +kernel
theorem dX8_cuts_8 : decode cX8_cuts 8 = .ok (.i2l, 1) := by decide +kernel
theorem dX8_cuts_9 : decode cX8_cuts 9 = .ok (.lconst 0, 1) := by decide +kernel
theorem dX8_cuts_10 : decode cX8_cuts 10 = .ok (.ldc2_w 150, 3) := by decide +kernel
theorem dX8_cuts_13 : decode cX8_cuts 13 = .ok (.invokestatic 63, 3) := by decide +kernel
theorem dX8_cuts_16 : decode cX8_cuts 16 = .ok (.ifCond .eq 16, 3) := by decide +kernel
theorem dX8_cuts_19 : decode cX8_cuts 19 = .ok (.iload 4, 2) := by decide +kernel
theorem dX8_cuts_21 : decode cX8_cuts 21 = .ok (.i2l, 1) := by decide +kernel
theorem dX8_cuts_22 : decode cX8_cuts 22 = .ok (.lconst 1, 1) := by decide +kernel
theorem dX8_cuts_23 : decode cX8_cuts 23 = .ok (.ldc2_w 275, 3) := by decide +kernel
theorem dX8_cuts_26 : decode cX8_cuts 26 = .ok (.invokestatic 63, 3) := by decide +kernel
theorem dX8_cuts_29 : decode cX8_cuts 29 = .ok (.ifCond .ne 5, 3) := by decide +kernel
theorem dX8_cuts_32 : decode cX8_cuts 32 = .ok (.iconst (-1), 1) := by decide +kernel
theorem dX8_cuts_33 : decode cX8_cuts 33 = .ok (.ireturn, 1) := by decide +kernel
theorem dX8_cuts_34 : decode cX8_cuts 34 = .ok (.aload_n 0, 1) := by decide +kernel
theorem dX8_cuts_35 : decode cX8_cuts 35 = .ok (.iload_n 1, 1) := by decide +kernel
theorem dX8_cuts_36 : decode cX8_cuts 36 = .ok (.iload_n 2, 1) := by decide +kernel
theorem dX8_cuts_37 : decode cX8_cuts 37 = .ok (.iload_n 3, 1) := by decide +kernel
theorem dX8_cuts_38 : decode cX8_cuts 38 = .ok (.iload 4, 2) := by decide +kernel
theorem dX8_cuts_40 : decode cX8_cuts 40 = .ok (.invokevirtual 277, 3) := by decide +kernel
theorem dX8_cuts_43 : decode cX8_cuts 43 = .ok (.istore 5, 2) := by decide +kernel
theorem dX8_cuts_45 : decode cX8_cuts 45 = .ok (.iload 5, 2) := by decide +kernel
theorem dX8_cuts_47 : decode cX8_cuts 47 = .ok (.ifCond .ge 6, 3) := by decide +kernel
theorem dX8_cuts_50 : decode cX8_cuts 50 = .ok (.iload 5, 2) := by decide +kernel
theorem dX8_cuts_52 : decode cX8_cuts 52 = .ok (.ireturn, 1) := by decide +kernel
theorem dX8_cuts_53 : decode cX8_cuts 53 = .ok (.lconst 0, 1) := by decide +kernel
theorem dX8_cuts_54 : decode cX8_cuts 54 = .ok (.lstore 6, 2) := by decide +kernel
theorem dX8_cuts_56 : decode cX8_cuts 56 = .ok (.iconst 0, 1) := by decide +kernel
theorem dX8_cuts_57 : decode cX8_cuts 57 = .ok (.istore 8, 2) := by decide +kernel
theorem dX8_cuts_59 : decode cX8_cuts 59 = .ok (.iload 8, 2) := by decide +kernel
theorem dX8_cuts_61 : decode cX8_cuts 61 = .ok (.iload 4, 2) := by decide +kernel
theorem dX8_cuts_63 : decode cX8_cuts 63 = .ok (.if_icmp .ge 47, 3) := by decide +kernel
theorem dX8_cuts_66 : decode cX8_cuts 66 = .ok (.aload_n 0, 1) := by decide +kernel
theorem dX8_cuts_67 : decode cX8_cuts 67 = .ok (.getfield 35, 3) := by decide +kernel
theorem dX8_cuts_70 : decode cX8_cuts 70 = .ok (.bipush 24, 2) := by decide +kernel
theorem dX8_cuts_72 : decode cX8_cuts 72 = .ok (.iload_n 1, 1) := by decide +kernel
theorem dX8_cuts_73 : decode cX8_cuts 73 = .ok (.imul, 1) := by decide +kernel
theorem dX8_cuts_74 : decode cX8_cuts 74 = .ok (.iload_n 3, 1) := by decide +kernel
theorem dX8_cuts_75 : decode cX8_cuts 75 = .ok (.iadd, 1) := by decide +kernel
theorem dX8_cuts_76 : decode cX8_cuts 76 = .ok (.iload 8, 2) := by decide +kernel
theorem dX8_cuts_78 : decode cX8_cuts 78 = .ok (.iadd, 1) := by decide +kernel
theorem dX8_cuts_79 : decode cX8_cuts 79 = .ok (.laload, 1) := by decide +kernel
theorem dX8_cuts_80 : decode cX8_cuts 80 = .ok (.lstore 9, 2) := by decide +kernel
theorem dX8_cuts_82 : decode cX8_cuts 82 = .ok (.lload 9, 2) := by decide +kernel
theorem dX8_cuts_84 : decode cX8_cuts 84 = .ok (.lconst 1, 1) := by decide +kernel
theorem dX8_cuts_85 : decode cX8_cuts 85 = .ok (.ldc2_w 275, 3) := by decide +kernel
theorem dX8_cuts_88 : decode cX8_cuts 88 = .ok (.invokestatic 63, 3) := by decide +kernel
theorem dX8_cuts_91 : decode cX8_cuts 91 = .ok (.ifCond .ne 6, 3) := by decide +kernel
theorem dX8_cuts_94 : decode cX8_cuts 94 = .ok (.bipush (-2), 2) := by decide +kernel
theorem dX8_cuts_96 : decode cX8_cuts 96 = .ok (.ireturn, 1) := by decide +kernel
theorem dX8_cuts_97 : decode cX8_cuts 97 = .ok (.lload 6, 2) := by decide +kernel
theorem dX8_cuts_99 : decode cX8_cuts 99 = .ok (.lload 9, 2) := by decide +kernel
theorem dX8_cuts_101 : decode cX8_cuts 101 = .ok (.ladd, 1) := by decide +kernel
theorem dX8_cuts_102 : decode cX8_cuts 102 = .ok (.lstore 6, 2) := by decide +kernel
theorem dX8_cuts_104 : decode cX8_cuts 104 = .ok (.iinc 8 1, 3) := by decide +kernel
theorem dX8_cuts_107 : decode cX8_cuts 107 = .ok (.goto (-48), 3) := by decide +kernel
theorem dX8_cuts_110 : decode cX8_cuts 110 = .ok (.lload 6, 2) := by decide +kernel
theorem dX8_cuts_112 : decode cX8_cuts 112 = .ok (.aload_n 0, 1) := by decide +kernel
theorem dX8_cuts_113 : decode cX8_cuts 113 = .ok (.getfield 7, 3) := by decide +kernel
theorem dX8_cuts_116 : decode cX8_cuts 116 = .ok (.iconst 0, 1) := by decide +kernel
theorem dX8_cuts_117 : decode cX8_cuts 117 = .ok (.iaload, 1) := by decide +kernel
theorem dX8_cuts_118 : decode cX8_cuts 118 = .ok (.i2l, 1) := by decide +kernel
theorem dX8_cuts_119 : decode cX8_cuts 119 = .ok (.lcmp, 1) := by decide +kernel
theorem dX8_cuts_120 : decode cX8_cuts 120 = .ok (.ifCond .eq 6, 3) := by decide +kernel
theorem dX8_cuts_123 : decode cX8_cuts 123 = .ok (.bipush (-2), 2) := by decide +kernel
theorem dX8_cuts_125 : decode cX8_cuts 125 = .ok (.ireturn, 1) := by decide +kernel
theorem dX8_cuts_126 : decode cX8_cuts 126 = .ok (.aload_n 0, 1) := by decide +kernel
theorem dX8_cuts_127 : decode cX8_cuts 127 = .ok (.invokevirtual 127, 3) := by decide +kernel
theorem dX8_cuts_130 : decode cX8_cuts 130 = .ok (.iconst 0, 1) := by decide +kernel
theorem dX8_cuts_131 : decode cX8_cuts 131 = .ok (.istore 8, 2) := by decide +kernel
theorem dX8_cuts_133 : decode cX8_cuts 133 = .ok (.iconst 0, 1) := by decide +kernel
theorem dX8_cuts_134 : decode cX8_cuts 134 = .ok (.istore 9, 2) := by decide +kernel
theorem dX8_cuts_136 : decode cX8_cuts 136 = .ok (.iconst 0, 1) := by decide +kernel
theorem dX8_cuts_137 : decode cX8_cuts 137 = .ok (.istore 10, 2) := by decide +kernel
theorem dX8_cuts_139 : decode cX8_cuts 139 = .ok (.iload 10, 2) := by decide +kernel
theorem dX8_cuts_141 : decode cX8_cuts 141 = .ok (.iload 4, 2) := by decide +kernel
theorem dX8_cuts_143 : decode cX8_cuts 143 = .ok (.if_icmp .ge 70, 3) := by decide +kernel
theorem dX8_cuts_146 : decode cX8_cuts 146 = .ok (.iload 8, 2) := by decide +kernel
theorem dX8_cuts_148 : decode cX8_cuts 148 = .ok (.aload_n 0, 1) := by decide +kernel
theorem dX8_cuts_149 : decode cX8_cuts 149 = .ok (.getfield 35, 3) := by decide +kernel
theorem dX8_cuts_152 : decode cX8_cuts 152 = .ok (.bipush 24, 2) := by decide +kernel
theorem dX8_cuts_154 : decode cX8_cuts 154 = .ok (.iload_n 1, 1) := by decide +kernel
theorem dX8_cuts_155 : decode cX8_cuts 155 = .ok (.imul, 1) := by decide +kernel
theorem dX8_cuts_156 : decode cX8_cuts 156 = .ok (.iload_n 3, 1) := by decide +kernel
theorem dX8_cuts_157 : decode cX8_cuts 157 = .ok (.iadd, 1) := by decide +kernel
theorem dX8_cuts_158 : decode cX8_cuts 158 = .ok (.iload 10, 2) := by decide +kernel
theorem dX8_cuts_160 : decode cX8_cuts 160 = .ok (.iadd, 1) := by decide +kernel
theorem dX8_cuts_161 : decode cX8_cuts 161 = .ok (.laload, 1) := by decide +kernel
theorem dX8_cuts_162 : decode cX8_cuts 162 = .ok (.l2i, 1) := by decide +kernel
theorem dX8_cuts_163 : decode cX8_cuts 163 = .ok (.iadd, 1) := by decide +kernel
theorem dX8_cuts_164 : decode cX8_cuts 164 = .ok (.istore 11, 2) := by decide +kernel
theorem dX8_cuts_166 : decode cX8_cuts 166 = .ok (.aload_n 0, 1) := by decide +kernel
theorem dX8_cuts_167 : decode cX8_cuts 167 = .ok (.getfield 111, 3) := by decide +kernel
theorem dX8_cuts_170 : decode cX8_cuts 170 = .ok (.ifCond .eq 14, 3) := by decide +kernel
theorem dX8_cuts_173 : decode cX8_cuts 173 = .ok (.aload_n 0, 1) := by decide +kernel
theorem dX8_cuts_174 : decode cX8_cuts 174 = .ok (.iload 8, 2) := by decide +kernel
theorem dX8_cuts_176 : decode cX8_cuts 176 = .ok (.iload 11, 2) := by decide +kernel
theorem dX8_cuts_178 : decode cX8_cuts 178 = .ok (.invokevirtual 130, 3) := by decide +kernel
theorem dX8_cuts_181 : decode cX8_cuts 181 = .ok (.goto 5, 3) := by decide +kernel
theorem dX8_cuts_184 : decode cX8_cuts 184 = .ok (.bipush (-4), 2) := by decide +kernel
theorem dX8_cuts_186 : decode cX8_cuts 186 = .ok (.istore 12, 2) := by decide +kernel
theorem dX8_cuts_188 : decode cX8_cuts 188 = .ok (.iload 12, 2) := by decide +kernel
theorem dX8_cuts_190 : decode cX8_cuts 190 = .ok (.ifCond .ge 6, 3) := by decide +kernel
theorem dX8_cuts_193 : decode cX8_cuts 193 = .ok (.bipush (-4), 2) := by decide +kernel
theorem dX8_cuts_195 : decode cX8_cuts 195 = .ok (.ireturn, 1) := by decide +kernel
theorem dX8_cuts_196 : decode cX8_cuts 196 = .ok (.iload 9, 2) := by decide +kernel
theorem dX8_cuts_198 : decode cX8_cuts 198 = .ok (.iload 12, 2) := by decide +kernel
theorem dX8_cuts_200 : decode cX8_cuts 200 = .ok (.iadd, 1) := by decide +kernel
theorem dX8_cuts_201 : decode cX8_cuts 201 = .ok (.istore 9, 2) := by decide +kernel
theorem dX8_cuts_203 : decode cX8_cuts 203 = .ok (.iload 11, 2) := by decide +kernel
theorem dX8_cuts_205 : decode cX8_cuts 205 = .ok (.istore 8, 2) := by decide +kernel
theorem dX8_cuts_207 : decode cX8_cuts 207 = .ok (.iinc 10 1, 3) := by decide +kernel
theorem dX8_cuts_210 : decode cX8_cuts 210 = .ok (.goto (-71), 3) := by decide +kernel
theorem dX8_cuts_213 : decode cX8_cuts 213 = .ok (.iload 9, 2) := by decide +kernel
theorem dX8_cuts_215 : decode cX8_cuts 215 = .ok (.ireturn, 1) := by decide +kernel
theorem dX8_film_0 : decode cX8_film 0 = .ok (.iload_n 1, 1) := by decide +kernel
theorem dX8_film_1 : decode cX8_film 1 = .ok (.invokestatic 272, 3) := by decide +kernel
theorem dX8_film_4 : decode cX8_film 4 = .ok (.ifCond .eq 15, 3) := by decide +kernel
theorem dX8_film_7 : decode cX8_film 7 = .ok (.iload_n 2, 1) := by decide +kernel
theorem dX8_film_8 : decode cX8_film 8 = .ok (.i2l, 1) := by decide +kernel
theorem dX8_film_9 : decode cX8_film 9 = .ok (.lconst 0, 1) := by decide +kernel
theorem dX8_film_10 : decode cX8_film 10 = .ok (.ldc2_w 150, 3) := by decide +kernel
theorem dX8_film_13 : decode cX8_film 13 = .ok (.invokestatic 63, 3) := by decide +kernel
theorem dX8_film_16 : decode cX8_film 16 = .ok (.ifCond .ne 5, 3) := by decide +kernel
theorem dX8_film_19 : decode cX8_film 19 = .ok (.iconst (-1), 1) := by decide +kernel
theorem dX8_film_20 : decode cX8_film 20 = .ok (.ireturn, 1) := by decide +kernel
theorem dX8_film_21 : decode cX8_film 21 = .ok (.aload_n 0, 1) := by decide +kernel
theorem dX8_film_22 : decode cX8_film 22 = .ok (.iload_n 1, 1) := by decide +kernel
theorem dX8_film_23 : decode cX8_film 23 = .ok (.iload_n 2, 1) := by decide +kernel
theorem dX8_film_24 : decode cX8_film 24 = .ok (.iload_n 3, 1) := by decide +kernel
theorem dX8_film_25 : decode cX8_film 25 = .ok (.aload_n 0, 1) := by decide +kernel
theorem dX8_film_26 : decode cX8_film 26 = .ok (.getfield 7, 3) := by decide +kernel
theorem dX8_film_29 : decode cX8_film 29 = .ok (.iconst 0, 1) := by decide +kernel
theorem dX8_film_30 : decode cX8_film 30 = .ok (.iaload, 1) := by decide +kernel
theorem dX8_film_31 : decode cX8_film 31 = .ok (.invokevirtual 277, 3) := by decide +kernel
theorem dX8_film_34 : decode cX8_film 34 = .ok (.istore 4, 2) := by decide +kernel
theorem dX8_film_36 : decode cX8_film 36 = .ok (.iload 4, 2) := by decide +kernel
theorem dX8_film_38 : decode cX8_film 38 = .ok (.ifCond .ge 6, 3) := by decide +kernel
theorem dX8_film_41 : decode cX8_film 41 = .ok (.iload 4, 2) := by decide +kernel
theorem dX8_film_43 : decode cX8_film 43 = .ok (.ireturn, 1) := by decide +kernel
theorem dX8_film_44 : decode cX8_film 44 = .ok (.iconst 0, 1) := by decide +kernel
theorem dX8_film_45 : decode cX8_film 45 = .ok (.istore 5, 2) := by decide +kernel
theorem dX8_film_47 : decode cX8_film 47 = .ok (.iload 5, 2) := by decide +kernel
theorem dX8_film_49 : decode cX8_film 49 = .ok (.aload_n 0, 1) := by decide +kernel
theorem dX8_film_50 : decode cX8_film 50 = .ok (.getfield 7, 3) := by decide +kernel
theorem dX8_film_53 : decode cX8_film 53 = .ok (.iconst 0, 1) := by decide +kernel
theorem dX8_film_54 : decode cX8_film 54 = .ok (.iaload, 1) := by decide +kernel
theorem dX8_film_55 : decode cX8_film 55 = .ok (.if_icmp .ge 34, 3) := by decide +kernel
theorem dX8_film_58 : decode cX8_film 58 = .ok (.aload_n 0, 1) := by decide +kernel
theorem dX8_film_59 : decode cX8_film 59 = .ok (.getfield 35, 3) := by decide +kernel
theorem dX8_film_62 : decode cX8_film 62 = .ok (.bipush 24, 2) := by decide +kernel
theorem dX8_film_64 : decode cX8_film 64 = .ok (.iload_n 1, 1) := by decide +kernel
theorem dX8_film_65 : decode cX8_film 65 = .ok (.imul, 1) := by decide +kernel
theorem dX8_film_66 : decode cX8_film 66 = .ok (.iload_n 3, 1) := by decide +kernel
theorem dX8_film_67 : decode cX8_film 67 = .ok (.iadd, 1) := by decide +kernel
theorem dX8_film_68 : decode cX8_film 68 = .ok (.iload 5, 2) := by decide +kernel
theorem dX8_film_70 : decode cX8_film 70 = .ok (.iadd, 1) := by decide +kernel
theorem dX8_film_71 : decode cX8_film 71 = .ok (.iload_n 2, 1) := by decide +kernel
theorem dX8_film_72 : decode cX8_film 72 = .ok (.aload_n 0, 1) := by decide +kernel
theorem dX8_film_73 : decode cX8_film 73 = .ok (.iload 5, 2) := by decide +kernel
theorem dX8_film_75 : decode cX8_film 75 = .ok (.invokevirtual 115, 3) := by decide +kernel
theorem dX8_film_78 : decode cX8_film 78 = .ok (.i2l, 1) := by decide +kernel
theorem dX8_film_79 : decode cX8_film 79 = .ok (.invokestatic 281, 3) := by decide +kernel
theorem dX8_film_82 : decode cX8_film 82 = .ok (.lastore, 1) := by decide +kernel
theorem dX8_film_83 : decode cX8_film 83 = .ok (.iinc 5 1, 3) := by decide +kernel
theorem dX8_film_86 : decode cX8_film 86 = .ok (.goto (-39), 3) := by decide +kernel
theorem dX8_film_89 : decode cX8_film 89 = .ok (.aload_n 0, 1) := by decide +kernel
theorem dX8_film_90 : decode cX8_film 90 = .ok (.getfield 7, 3) := by decide +kernel
theorem dX8_film_93 : decode cX8_film 93 = .ok (.iconst 0, 1) := by decide +kernel
theorem dX8_film_94 : decode cX8_film 94 = .ok (.iaload, 1) := by decide +kernel
theorem dX8_film_95 : decode cX8_film 95 = .ok (.ireturn, 1) := by decide +kernel
theorem dX8_sheet_0 : decode cX8_sheet 0 = .ok (.iload_n 1, 1) := by decide +kernel
theorem dX8_sheet_1 : decode cX8_sheet 1 = .ok (.invokestatic 272, 3) := by decide +kernel
theorem dX8_sheet_4 : decode cX8_sheet 4 = .ok (.ifCond .eq 21, 3) := by decide +kernel
theorem dX8_sheet_7 : decode cX8_sheet 7 = .ok (.iload_n 2, 1) := by decide +kernel
theorem dX8_sheet_8 : decode cX8_sheet 8 = .ok (.i2l, 1) := by decide +kernel
theorem dX8_sheet_9 : decode cX8_sheet 9 = .ok (.lconst 0, 1) := by decide +kernel
theorem dX8_sheet_10 : decode cX8_sheet 10 = .ok (.ldc2_w 150, 3) := by decide +kernel
theorem dX8_sheet_13 : decode cX8_sheet 13 = .ok (.invokestatic 63, 3) := by decide +kernel
theorem dX8_sheet_16 : decode cX8_sheet 16 = .ok (.ifCond .eq 9, 3) := by decide +kernel
theorem dX8_sheet_19 : decode cX8_sheet 19 = .ok (.iload_n 3, 1) := by decide +kernel
theorem dX8_sheet_20 : decode cX8_sheet 20 = .ok (.bipush 24, 2) := by decide +kernel
theorem dX8_sheet_22 : decode cX8_sheet 22 = .ok (.if_icmp .le 5, 3) := by decide +kernel
theorem dX8_sheet_25 : decode cX8_sheet 25 = .ok (.iconst (-1), 1) := by decide +kernel
theorem dX8_sheet_26 : decode cX8_sheet 26 = .ok (.ireturn, 1) := by decide +kernel
theorem dX8_sheet_27 : decode cX8_sheet 27 = .ok (.iload_n 3, 1) := by decide +kernel
theorem dX8_sheet_28 : decode cX8_sheet 28 = .ok (.ifCond .ge 6, 3) := by decide +kernel
theorem dX8_sheet_31 : decode cX8_sheet 31 = .ok (.bipush (-14), 2) := by decide +kernel
theorem dX8_sheet_33 : decode cX8_sheet 33 = .ok (.ireturn, 1) := by decide +kernel
theorem dX8_sheet_34 : decode cX8_sheet 34 = .ok (.aload_n 0, 1) := by decide +kernel
theorem dX8_sheet_35 : decode cX8_sheet 35 = .ok (.getfield 29, 3) := by decide +kernel
theorem dX8_sheet_38 : decode cX8_sheet 38 = .ok (.iload_n 1, 1) := by decide +kernel
theorem dX8_sheet_39 : decode cX8_sheet 39 = .ok (.iload_n 2, 1) := by decide +kernel
theorem dX8_sheet_40 : decode cX8_sheet 40 = .ok (.iastore, 1) := by decide +kernel
theorem dX8_sheet_41 : decode cX8_sheet 41 = .ok (.aload_n 0, 1) := by decide +kernel
theorem dX8_sheet_42 : decode cX8_sheet 42 = .ok (.getfield 32, 3) := by decide +kernel
theorem dX8_sheet_45 : decode cX8_sheet 45 = .ok (.iload_n 1, 1) := by decide +kernel
theorem dX8_sheet_46 : decode cX8_sheet 46 = .ok (.iload_n 3, 1) := by decide +kernel
theorem dX8_sheet_47 : decode cX8_sheet 47 = .ok (.iastore, 1) := by decide +kernel
theorem dX8_sheet_48 : decode cX8_sheet 48 = .ok (.iconst 0, 1) := by decide +kernel
theorem dX8_sheet_49 : decode cX8_sheet 49 = .ok (.istore 4, 2) := by decide +kernel
theorem dX8_sheet_51 : decode cX8_sheet 51 = .ok (.iload 4, 2) := by decide +kernel
theorem dX8_sheet_53 : decode cX8_sheet 53 = .ok (.bipush 24, 2) := by decide +kernel
theorem dX8_sheet_55 : decode cX8_sheet 55 = .ok (.if_icmp .ge 22, 3) := by decide +kernel
theorem dX8_sheet_58 : decode cX8_sheet 58 = .ok (.aload_n 0, 1) := by decide +kernel
theorem dX8_sheet_59 : decode cX8_sheet 59 = .ok (.getfield 35, 3) := by decide +kernel
theorem dX8_sheet_62 : decode cX8_sheet 62 = .ok (.bipush 24, 2) := by decide +kernel
theorem dX8_sheet_64 : decode cX8_sheet 64 = .ok (.iload_n 1, 1) := by decide +kernel
theorem dX8_sheet_65 : decode cX8_sheet 65 = .ok (.imul, 1) := by decide +kernel
theorem dX8_sheet_66 : decode cX8_sheet 66 = .ok (.iload 4, 2) := by decide +kernel
theorem dX8_sheet_68 : decode cX8_sheet 68 = .ok (.iadd, 1) := by decide +kernel
theorem dX8_sheet_69 : decode cX8_sheet 69 = .ok (.lconst 0, 1) := by decide +kernel
theorem dX8_sheet_70 : decode cX8_sheet 70 = .ok (.lastore, 1) := by decide +kernel
theorem dX8_sheet_71 : decode cX8_sheet 71 = .ok (.iinc 4 1, 3) := by decide +kernel
theorem dX8_sheet_74 : decode cX8_sheet 74 = .ok (.goto (-23), 3) := by decide +kernel
theorem dX8_sheet_77 : decode cX8_sheet 77 = .ok (.iload_n 3, 1) := by decide +kernel
theorem dX8_sheet_78 : decode cX8_sheet 78 = .ok (.ireturn, 1) := by decide +kernel
theorem dX8_lift_0 : decode cX8_lift 0 = .ok (.iload_n 1, 1) := by decide +kernel
theorem dX8_lift_1 : decode cX8_lift 1 = .ok (.invokestatic 272, 3) := by decide +kernel
theorem dX8_lift_4 : decode cX8_lift 4 = .ok (.ifCond .ne 5, 3) := by decide +kernel
theorem dX8_lift_7 : decode cX8_lift 7 = .ok (.iconst (-1), 1) := by decide +kernel
theorem dX8_lift_8 : decode cX8_lift 8 = .ok (.ireturn, 1) := by decide +kernel
theorem dX8_lift_9 : decode cX8_lift 9 = .ok (.aload_n 0, 1) := by decide +kernel
theorem dX8_lift_10 : decode cX8_lift 10 = .ok (.getfield 29, 3) := by decide +kernel
theorem dX8_lift_13 : decode cX8_lift 13 = .ok (.iload_n 1, 1) := by decide +kernel
theorem dX8_lift_14 : decode cX8_lift 14 = .ok (.iaload, 1) := by decide +kernel
theorem dX8_lift_15 : decode cX8_lift 15 = .ok (.ifCond .ge 6, 3) := by decide +kernel
theorem dX8_lift_18 : decode cX8_lift 18 = .ok (.bipush (-11), 2) := by decide +kernel
theorem dX8_lift_20 : decode cX8_lift 20 = .ok (.ireturn, 1) := by decide +kernel
theorem dX8_lift_21 : decode cX8_lift 21 = .ok (.aload_n 0, 1) := by decide +kernel
theorem dX8_lift_22 : decode cX8_lift 22 = .ok (.getfield 29, 3) := by decide +kernel
theorem dX8_lift_25 : decode cX8_lift 25 = .ok (.iload_n 1, 1) := by decide +kernel
theorem dX8_lift_26 : decode cX8_lift 26 = .ok (.iconst (-1), 1) := by decide +kernel
theorem dX8_lift_27 : decode cX8_lift 27 = .ok (.iastore, 1) := by decide +kernel
theorem dX8_lift_28 : decode cX8_lift 28 = .ok (.aload_n 0, 1) := by decide +kernel
theorem dX8_lift_29 : decode cX8_lift 29 = .ok (.getfield 32, 3) := by decide +kernel
theorem dX8_lift_32 : decode cX8_lift 32 = .ok (.iload_n 1, 1) := by decide +kernel
theorem dX8_lift_33 : decode cX8_lift 33 = .ok (.iaload, 1) := by decide +kernel
theorem dX8_lift_34 : decode cX8_lift 34 = .ok (.ireturn, 1) := by decide +kernel
theorem dX8_item_0 : decode cX8_item 0 = .ok (.iload_n 1, 1) := by decide +kernel
theorem dX8_item_1 : decode cX8_item 1 = .ok (.invokestatic 272, 3) := by decide +kernel
theorem dX8_item_4 : decode cX8_item 4 = .ok (.ifCond .eq 15, 3) := by decide +kernel
theorem dX8_item_7 : decode cX8_item 7 = .ok (.iload_n 2, 1) := by decide +kernel
theorem dX8_item_8 : decode cX8_item 8 = .ok (.i2l, 1) := by decide +kernel
theorem dX8_item_9 : decode cX8_item 9 = .ok (.lconst 0, 1) := by decide +kernel
theorem dX8_item_10 : decode cX8_item 10 = .ok (.ldc2_w 150, 3) := by decide +kernel
theorem dX8_item_13 : decode cX8_item 13 = .ok (.invokestatic 63, 3) := by decide +kernel
theorem dX8_item_16 : decode cX8_item 16 = .ok (.ifCond .ne 5, 3) := by decide +kernel
theorem dX8_item_19 : decode cX8_item 19 = .ok (.iconst (-1), 1) := by decide +kernel
theorem dX8_item_20 : decode cX8_item 20 = .ok (.ireturn, 1) := by decide +kernel
theorem dX8_item_21 : decode cX8_item 21 = .ok (.aload_n 0, 1) := by decide +kernel
theorem dX8_item_22 : decode cX8_item 22 = .ok (.iload_n 1, 1) := by decide +kernel
theorem dX8_item_23 : decode cX8_item 23 = .ok (.iload_n 2, 1) := by decide +kernel
theorem dX8_item_24 : decode cX8_item 24 = .ok (.iload_n 3, 1) := by decide +kernel
theorem dX8_item_25 : decode cX8_item 25 = .ok (.iconst 1, 1) := by decide +kernel
theorem dX8_item_26 : decode cX8_item 26 = .ok (.invokevirtual 277, 3) := by decide +kernel
theorem dX8_item_29 : decode cX8_item 29 = .ok (.istore 6, 2) := by decide +kernel
theorem dX8_item_31 : decode cX8_item 31 = .ok (.iload 6, 2) := by decide +kernel
theorem dX8_item_33 : decode cX8_item 33 = .ok (.ifCond .ge 6, 3) := by decide +kernel
theorem dX8_item_36 : decode cX8_item 36 = .ok (.iload 6, 2) := by decide +kernel
theorem dX8_item_38 : decode cX8_item 38 = .ok (.ireturn, 1) := by decide +kernel
theorem dX8_item_39 : decode cX8_item 39 = .ok (.aload_n 0, 1) := by decide +kernel
theorem dX8_item_40 : decode cX8_item 40 = .ok (.getfield 35, 3) := by decide +kernel
theorem dX8_item_43 : decode cX8_item 43 = .ok (.bipush 24, 2) := by decide +kernel
theorem dX8_item_45 : decode cX8_item 45 = .ok (.iload_n 1, 1) := by decide +kernel
theorem dX8_item_46 : decode cX8_item 46 = .ok (.imul, 1) := by decide +kernel
theorem dX8_item_47 : decode cX8_item 47 = .ok (.iload_n 3, 1) := by decide +kernel
theorem dX8_item_48 : decode cX8_item 48 = .ok (.iadd, 1) := by decide +kernel
theorem dX8_item_49 : decode cX8_item 49 = .ok (.iload_n 2, 1) := by decide +kernel
theorem dX8_item_50 : decode cX8_item 50 = .ok (.lload 4, 2) := by decide +kernel
theorem dX8_item_52 : decode cX8_item 52 = .ok (.invokestatic 281, 3) := by decide +kernel
theorem dX8_item_55 : decode cX8_item 55 = .ok (.lastore, 1) := by decide +kernel
theorem dX8_item_56 : decode cX8_item 56 = .ok (.iconst 1, 1) := by decide +kernel
theorem dX8_item_57 : decode cX8_item 57 = .ok (.ireturn, 1) := by decide +kernel
theorem dX8_copy_0 : decode cX8_copy 0 = .ok (.iload_n 1, 1) := by decide +kernel
theorem dX8_copy_1 : decode cX8_copy 1 = .ok (.invokestatic 272, 3) := by decide +kernel
theorem dX8_copy_4 : decode cX8_copy 4 = .ok (.ifCond .eq 10, 3) := by decide +kernel
theorem dX8_copy_7 : decode cX8_copy 7 = .ok (.iload_n 3, 1) := by decide +kernel
theorem dX8_copy_8 : decode cX8_copy 8 = .ok (.invokestatic 272, 3) := by decide +kernel
theorem dX8_copy_11 : decode cX8_copy 11 = .ok (.ifCond .ne 5, 3) := by decide +kernel
theorem dX8_copy_14 : decode cX8_copy 14 = .ok (.iconst (-1), 1) := by decide +kernel
theorem dX8_copy_15 : decode cX8_copy 15 = .ok (.ireturn, 1) := by decide +kernel
theorem dX8_copy_16 : decode cX8_copy 16 = .ok (.aload_n 0, 1) := by decide +kernel
theorem dX8_copy_17 : decode cX8_copy 17 = .ok (.getfield 29, 3) := by decide +kernel
theorem dX8_copy_20 : decode cX8_copy 20 = .ok (.iload_n 1, 1) := by decide +kernel
theorem dX8_copy_21 : decode cX8_copy 21 = .ok (.iaload, 1) := by decide +kernel
theorem dX8_copy_22 : decode cX8_copy 22 = .ok (.ifCond .lt 12, 3) := by decide +kernel
theorem dX8_copy_25 : decode cX8_copy 25 = .ok (.aload_n 0, 1) := by decide +kernel
theorem dX8_copy_26 : decode cX8_copy 26 = .ok (.getfield 29, 3) := by decide +kernel
theorem dX8_copy_29 : decode cX8_copy 29 = .ok (.iload_n 3, 1) := by decide +kernel
theorem dX8_copy_30 : decode cX8_copy 30 = .ok (.iaload, 1) := by decide +kernel
theorem dX8_copy_31 : decode cX8_copy 31 = .ok (.ifCond .ge 6, 3) := by decide +kernel
theorem dX8_copy_34 : decode cX8_copy 34 = .ok (.bipush (-11), 2) := by decide +kernel
theorem dX8_copy_36 : decode cX8_copy 36 = .ok (.ireturn, 1) := by decide +kernel
theorem dX8_copy_37 : decode cX8_copy 37 = .ok (.aload_n 0, 1) := by decide +kernel
theorem dX8_copy_38 : decode cX8_copy 38 = .ok (.getfield 29, 3) := by decide +kernel
theorem dX8_copy_41 : decode cX8_copy 41 = .ok (.iload_n 1, 1) := by decide +kernel
theorem dX8_copy_42 : decode cX8_copy 42 = .ok (.iaload, 1) := by decide +kernel
theorem dX8_copy_43 : decode cX8_copy 43 = .ok (.aload_n 0, 1) := by decide +kernel
theorem dX8_copy_44 : decode cX8_copy 44 = .ok (.getfield 29, 3) := by decide +kernel
theorem dX8_copy_47 : decode cX8_copy 47 = .ok (.iload_n 3, 1) := by decide +kernel
theorem dX8_copy_48 : decode cX8_copy 48 = .ok (.iaload, 1) := by decide +kernel
theorem dX8_copy_49 : decode cX8_copy 49 = .ok (.if_icmp .eq 6, 3) := by decide +kernel
theorem dX8_copy_52 : decode cX8_copy 52 = .ok (.bipush (-12), 2) := by decide +kernel
theorem dX8_copy_54 : decode cX8_copy 54 = .ok (.ireturn, 1) := by decide +kernel
theorem dX8_copy_55 : decode cX8_copy 55 = .ok (.iload 5, 2) := by decide +kernel
theorem dX8_copy_57 : decode cX8_copy 57 = .ok (.ifCond .lt 39, 3) := by decide +kernel
theorem dX8_copy_60 : decode cX8_copy 60 = .ok (.iload_n 2, 1) := by decide +kernel
theorem dX8_copy_61 : decode cX8_copy 61 = .ok (.ifCond .lt 35, 3) := by decide +kernel
theorem dX8_copy_64 : decode cX8_copy 64 = .ok (.iload 4, 2) := by decide +kernel
theorem dX8_copy_66 : decode cX8_copy 66 = .ok (.ifCond .lt 30, 3) := by decide +kernel
theorem dX8_copy_69 : decode cX8_copy 69 = .ok (.iload 5, 2) := by decide +kernel
theorem dX8_copy_71 : decode cX8_copy 71 = .ok (.aload_n 0, 1) := by decide +kernel
theorem dX8_copy_72 : decode cX8_copy 72 = .ok (.getfield 32, 3) := by decide +kernel
theorem dX8_copy_75 : decode cX8_copy 75 = .ok (.iload_n 1, 1) := by decide +kernel
theorem dX8_copy_76 : decode cX8_copy 76 = .ok (.iaload, 1) := by decide +kernel
theorem dX8_copy_77 : decode cX8_copy 77 = .ok (.iload_n 2, 1) := by decide +kernel
theorem dX8_copy_78 : decode cX8_copy 78 = .ok (.isub, 1) := by decide +kernel
theorem dX8_copy_79 : decode cX8_copy 79 = .ok (.if_icmp .gt 17, 3) := by decide +kernel
theorem dX8_copy_82 : decode cX8_copy 82 = .ok (.iload 5, 2) := by decide +kernel
theorem dX8_copy_84 : decode cX8_copy 84 = .ok (.aload_n 0, 1) := by decide +kernel
theorem dX8_copy_85 : decode cX8_copy 85 = .ok (.getfield 32, 3) := by decide +kernel
theorem dX8_copy_88 : decode cX8_copy 88 = .ok (.iload_n 3, 1) := by decide +kernel
theorem dX8_copy_89 : decode cX8_copy 89 = .ok (.iaload, 1) := by decide +kernel
theorem dX8_copy_90 : decode cX8_copy 90 = .ok (.iload 4, 2) := by decide +kernel
theorem dX8_copy_92 : decode cX8_copy 92 = .ok (.isub, 1) := by decide +kernel
theorem dX8_copy_93 : decode cX8_copy 93 = .ok (.if_icmp .le 6, 3) := by decide +kernel
theorem dX8_copy_96 : decode cX8_copy 96 = .ok (.bipush (-13), 2) := by decide +kernel
theorem dX8_copy_98 : decode cX8_copy 98 = .ok (.ireturn, 1) := by decide +kernel
theorem dX8_copy_99 : decode cX8_copy 99 = .ok (.iconst 0, 1) := by decide +kernel
theorem dX8_copy_100 : decode cX8_copy 100 = .ok (.istore 6, 2) := by decide +kernel
theorem dX8_copy_102 : decode cX8_copy 102 = .ok (.iload 6, 2) := by decide +kernel
theorem dX8_copy_104 : decode cX8_copy 104 = .ok (.iload 5, 2) := by decide +kernel
theorem dX8_copy_106 : decode cX8_copy 106 = .ok (.if_icmp .ge 30, 3) := by decide +kernel
theorem dX8_copy_109 : decode cX8_copy 109 = .ok (.aload_n 0, 1) := by decide +kernel
theorem dX8_copy_110 : decode cX8_copy 110 = .ok (.getfield 39, 3) := by decide +kernel
theorem dX8_copy_113 : decode cX8_copy 113 = .ok (.iload 6, 2) := by decide +kernel
theorem dX8_copy_115 : decode cX8_copy 115 = .ok (.aload_n 0, 1) := by decide +kernel
theorem dX8_copy_116 : decode cX8_copy 116 = .ok (.getfield 35, 3) := by decide +kernel
theorem dX8_copy_119 : decode cX8_copy 119 = .ok (.bipush 24, 2) := by decide +kernel
theorem dX8_copy_121 : decode cX8_copy 121 = .ok (.iload_n 1, 1) := by decide +kernel
theorem dX8_copy_122 : decode cX8_copy 122 = .ok (.imul, 1) := by decide +kernel
theorem dX8_copy_123 : decode cX8_copy 123 = .ok (.iload_n 2, 1) := by decide +kernel
theorem dX8_copy_124 : decode cX8_copy 124 = .ok (.iadd, 1) := by decide +kernel
theorem dX8_copy_125 : decode cX8_copy 125 = .ok (.iload 6, 2) := by decide +kernel
theorem dX8_copy_127 : decode cX8_copy 127 = .ok (.iadd, 1) := by decide +kernel
theorem dX8_copy_128 : decode cX8_copy 128 = .ok (.laload, 1) := by decide +kernel
theorem dX8_copy_129 : decode cX8_copy 129 = .ok (.lastore, 1) := by decide +kernel
theorem dX8_copy_130 : decode cX8_copy 130 = .ok (.iinc 6 1, 3) := by decide +kernel
theorem dX8_copy_133 : decode cX8_copy 133 = .ok (.goto (-31), 3) := by decide +kernel
theorem dX8_copy_136 : decode cX8_copy 136 = .ok (.iconst 0, 1) := by decide +kernel
theorem dX8_copy_137 : decode cX8_copy 137 = .ok (.istore 6, 2) := by decide +kernel
theorem dX8_copy_139 : decode cX8_copy 139 = .ok (.iload 6, 2) := by decide +kernel
theorem dX8_copy_141 : decode cX8_copy 141 = .ok (.iload 5, 2) := by decide +kernel
theorem dX8_copy_143 : decode cX8_copy 143 = .ok (.if_icmp .ge 31, 3) := by decide +kernel
theorem dX8_copy_146 : decode cX8_copy 146 = .ok (.aload_n 0, 1) := by decide +kernel
theorem dX8_copy_147 : decode cX8_copy 147 = .ok (.getfield 35, 3) := by decide +kernel
theorem dX8_copy_150 : decode cX8_copy 150 = .ok (.bipush 24, 2) := by decide +kernel
theorem dX8_copy_152 : decode cX8_copy 152 = .ok (.iload_n 3, 1) := by decide +kernel
theorem dX8_copy_153 : decode cX8_copy 153 = .ok (.imul, 1) := by decide +kernel
theorem dX8_copy_154 : decode cX8_copy 154 = .ok (.iload 4, 2) := by decide +kernel
theorem dX8_copy_156 : decode cX8_copy 156 = .ok (.iadd, 1) := by decide +kernel
theorem dX8_copy_157 : decode cX8_copy 157 = .ok (.iload 6, 2) := by decide +kernel
theorem dX8_copy_159 : decode cX8_copy 159 = .ok (.iadd, 1) := by decide +kernel
theorem dX8_copy_160 : decode cX8_copy 160 = .ok (.aload_n 0, 1) := by decide +kernel
theorem dX8_copy_161 : decode cX8_copy 161 = .ok (.getfield 39, 3) := by decide +kernel
theorem dX8_copy_164 : decode cX8_copy 164 = .ok (.iload 6, 2) := by decide +kernel
theorem dX8_copy_166 : decode cX8_copy 166 = .ok (.laload, 1) := by decide +kernel
theorem dX8_copy_167 : decode cX8_copy 167 = .ok (.lastore, 1) := by decide +kernel
theorem dX8_copy_168 : decode cX8_copy 168 = .ok (.iinc 6 1, 3) := by decide +kernel
theorem dX8_copy_171 : decode cX8_copy 171 = .ok (.goto (-32), 3) := by decide +kernel
theorem dX8_copy_174 : decode cX8_copy 174 = .ok (.iload 5, 2) := by decide +kernel
theorem dX8_copy_176 : decode cX8_copy 176 = .ok (.ireturn, 1) := by decide +kernel
