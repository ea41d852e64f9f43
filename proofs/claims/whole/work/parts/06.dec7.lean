theorem dX7_init_0 : decode cX7_init 0 = .ok (.aload_n 0, 1) := by decide +kernel
theorem dX7_init_1 : decode cX7_init 1 = .ok (.invokespecial 1, 3) := by decide +kernel
theorem dX7_init_4 : decode cX7_init 4 = .ok (.aload_n 0, 1) := by decide +kernel
theorem dX7_init_5 : decode cX7_init 5 = .ok (.new 7, 3) := by decide +kernel
theorem dX7_init_8 : decode cX7_init 8 = .ok (.dup, 1) := by decide +kernel
theorem dX7_init_9 : decode cX7_init 9 = .ok (.invokespecial 9, 3) := by decide +kernel
theorem dX7_init_12 : decode cX7_init 12 = .ok (.putfield 10, 3) := by decide +kernel
theorem dX7_init_15 : decode cX7_init 15 = .ok (.aload_n 0, 1) := by decide +kernel
theorem dX7_init_16 : decode cX7_init 16 = .ok (.new 7, 3) := by decide +kernel
theorem dX7_init_19 : decode cX7_init 19 = .ok (.dup, 1) := by decide +kernel
theorem dX7_init_20 : decode cX7_init 20 = .ok (.invokespecial 9, 3) := by decide +kernel
theorem dX7_init_23 : decode cX7_init 23 = .ok (.putfield 16, 3) := by decide +kernel
theorem dX7_init_26 : decode cX7_init 26 = .ok (.aload_n 0, 1) := by decide +kernel
theorem dX7_init_27 : decode cX7_init 27 = .ok (.new 19, 3) := by decide +kernel
theorem dX7_init_30 : decode cX7_init 30 = .ok (.dup, 1) := by decide +kernel
theorem dX7_init_31 : decode cX7_init 31 = .ok (.invokespecial 21, 3) := by decide +kernel
theorem dX7_init_34 : decode cX7_init 34 = .ok (.putfield 22, 3) := by decide +kernel
theorem dX7_init_37 : decode cX7_init 37 = .ok (.aload_n 0, 1) := by decide +kernel
theorem dX7_init_38 : decode cX7_init 38 = .ok (.new 7, 3) := by decide +kernel
theorem dX7_init_41 : decode cX7_init 41 = .ok (.dup, 1) := by decide +kernel
theorem dX7_init_42 : decode cX7_init 42 = .ok (.invokespecial 9, 3) := by decide +kernel
theorem dX7_init_45 : decode cX7_init 45 = .ok (.putfield 26, 3) := by decide +kernel
theorem dX7_init_48 : decode cX7_init 48 = .ok (.aload_n 0, 1) := by decide +kernel
theorem dX7_init_49 : decode cX7_init 49 = .ok (.new 19, 3) := by decide +kernel
theorem dX7_init_52 : decode cX7_init 52 = .ok (.dup, 1) := by decide +kernel
theorem dX7_init_53 : decode cX7_init 53 = .ok (.invokespecial 21, 3) := by decide +kernel
theorem dX7_init_56 : decode cX7_init 56 = .ok (.putfield 29, 3) := by decide +kernel
theorem dX7_init_59 : decode cX7_init 59 = .ok (.aload_n 0, 1) := by decide +kernel
theorem dX7_init_60 : decode cX7_init 60 = .ok (.iconst 0, 1) := by decide +kernel
theorem dX7_init_61 : decode cX7_init 61 = .ok (.putfield 32, 3) := by decide +kernel
theorem dX7_init_64 : decode cX7_init 64 = .ok (.aload_n 0, 1) := by decide +kernel
theorem dX7_init_65 : decode cX7_init 65 = .ok (.new 36, 3) := by decide +kernel
theorem dX7_init_68 : decode cX7_init 68 = .ok (.dup, 1) := by decide +kernel
theorem dX7_init_69 : decode cX7_init 69 = .ok (.invokespecial 38, 3) := by decide +kernel
theorem dX7_init_72 : decode cX7_init 72 = .ok (.putfield 39, 3) := by decide +kernel
theorem dX7_init_75 : decode cX7_init 75 = .ok (.aload_n 0, 1) := by decide +kernel
theorem dX7_init_76 : decode cX7_init 76 = .ok (.new 43, 3) := by decide +kernel
theorem dX7_init_79 : decode cX7_init 79 = .ok (.dup, 1) := by decide +kernel
theorem dX7_init_80 : decode cX7_init 80 = .ok (.invokespecial 45, 3) := by decide +kernel
theorem dX7_init_83 : decode cX7_init 83 = .ok (.putfield 46, 3) := by decide +kernel
theorem dX7_init_86 : decode cX7_init 86 = .ok (.aload_n 0, 1) := by decide +kernel
theorem dX7_init_87 : decode cX7_init 87 = .ok (.new 50, 3) := by decide +kernel
theorem dX7_init_90 : decode cX7_init 90 = .ok (.dup, 1) := by decide +kernel
theorem dX7_init_91 : decode cX7_init 91 = .ok (.invokespecial 52, 3) := by decide +kernel
theorem dX7_init_94 : decode cX7_init 94 = .ok (.putfield 53, 3) := by decide +kernel
theorem dX7_init_97 : decode cX7_init 97 = .ok (.aload_n 0, 1) := by decide +kernel
theorem dX7_init_98 : decode cX7_init 98 = .ok (.new 57, 3) := by decide +kernel
theorem dX7_init_101 : decode cX7_init 101 = .ok (.dup, 1) := by decide +kernel
theorem dX7_init_102 : decode cX7_init 102 = .ok (.invokespecial 59, 3) := by decide +kernel
theorem dX7_init_105 : decode cX7_init 105 = .ok (.putfield 60, 3) := by decide +kernel
theorem dX7_init_108 : decode cX7_init 108 = .ok (.aload_n 0, 1) := by decide +kernel
theorem dX7_init_109 : decode cX7_init 109 = .ok (.iconst 4, 1) := by decide +kernel
theorem dX7_init_110 : decode cX7_init 110 = .ok (.anewarray 64, 3) := by decide +kernel
theorem dX7_init_113 : decode cX7_init 113 = .ok (.putfield 66, 3) := by decide +kernel
theorem dX7_init_116 : decode cX7_init 116 = .ok (.iconst 0, 1) := by decide +kernel
theorem dX7_init_117 : decode cX7_init 117 = .ok (.istore_n 1, 1) := by decide +kernel
theorem dX7_init_118 : decode cX7_init 118 = .ok (.iload_n 1, 1) := by decide +kernel
theorem dX7_init_119 : decode cX7_init 119 = .ok (.iconst 4, 1) := by decide +kernel
theorem dX7_init_120 : decode cX7_init 120 = .ok (.if_icmp .ge 22, 3) := by decide +kernel
theorem dX7_init_123 : decode cX7_init 123 = .ok (.aload_n 0, 1) := by decide +kernel
theorem dX7_init_124 : decode cX7_init 124 = .ok (.getfield 66, 3) := by decide +kernel
theorem dX7_init_127 : decode cX7_init 127 = .ok (.iload_n 1, 1) := by decide +kernel
theorem dX7_init_128 : decode cX7_init 128 = .ok (.new 64, 3) := by decide +kernel
theorem dX7_init_131 : decode cX7_init 131 = .ok (.dup, 1) := by decide +kernel
theorem dX7_init_132 : decode cX7_init 132 = .ok (.invokespecial 70, 3) := by decide +kernel
theorem dX7_init_135 : decode cX7_init 135 = .ok (.aastore, 1) := by decide +kernel
theorem dX7_init_136 : decode cX7_init 136 = .ok (.iinc 1 1, 3) := by decide +kernel
theorem dX7_init_139 : decode cX7_init 139 = .ok (.goto (-21), 3) := by decide +kernel
theorem dX7_init_142 : decode cX7_init 142 = .ok (.return_, 1) := by decide +kernel
theorem dX7_line_0 : decode cX7_line 0 = .ok (.aload_n 0, 1) := by decide +kernel
theorem dX7_line_1 : decode cX7_line 1 = .ok (.getfield 16, 3) := by decide +kernel
theorem dX7_line_4 : decode cX7_line 4 = .ok (.aload_n 0, 1) := by decide +kernel
theorem dX7_line_5 : decode cX7_line 5 = .ok (.getfield 10, 3) := by decide +kernel
theorem dX7_line_8 : decode cX7_line 8 = .ok (.invokevirtual 71, 3) := by decide +kernel
theorem dX7_line_11 : decode cX7_line 11 = .ok (.aload_n 0, 1) := by decide +kernel
theorem dX7_line_12 : decode cX7_line 12 = .ok (.aload_n 0, 1) := by decide +kernel
theorem dX7_line_13 : decode cX7_line 13 = .ok (.getfield 10, 3) := by decide +kernel
theorem dX7_line_16 : decode cX7_line 16 = .ok (.iload_n 1, 1) := by decide +kernel
theorem dX7_line_17 : decode cX7_line 17 = .ok (.iload_n 2, 1) := by decide +kernel
theorem dX7_line_18 : decode cX7_line 18 = .ok (.invokevirtual 75, 3) := by decide +kernel
theorem dX7_line_21 : decode cX7_line 21 = .ok (.invokevirtual 79, 3) := by decide +kernel
theorem dX7_line_24 : decode cX7_line 24 = .ok (.ireturn, 1) := by decide +kernel
theorem dX7_word_0 : decode cX7_word 0 = .ok (.aload_n 0, 1) := by decide +kernel
theorem dX7_word_1 : decode cX7_word 1 = .ok (.getfield 16, 3) := by decide +kernel
theorem dX7_word_4 : decode cX7_word 4 = .ok (.aload_n 0, 1) := by decide +kernel
theorem dX7_word_5 : decode cX7_word 5 = .ok (.getfield 10, 3) := by decide +kernel
theorem dX7_word_8 : decode cX7_word 8 = .ok (.invokevirtual 71, 3) := by decide +kernel
theorem dX7_word_11 : decode cX7_word 11 = .ok (.aload_n 0, 1) := by decide +kernel
theorem dX7_word_12 : decode cX7_word 12 = .ok (.aload_n 0, 1) := by decide +kernel
theorem dX7_word_13 : decode cX7_word 13 = .ok (.getfield 10, 3) := by decide +kernel
theorem dX7_word_16 : decode cX7_word 16 = .ok (.iload_n 1, 1) := by decide +kernel
theorem dX7_word_17 : decode cX7_word 17 = .ok (.iload_n 2, 1) := by decide +kernel
theorem dX7_word_18 : decode cX7_word 18 = .ok (.invokevirtual 83, 3) := by decide +kernel
theorem dX7_word_21 : decode cX7_word 21 = .ok (.invokevirtual 79, 3) := by decide +kernel
theorem dX7_word_24 : decode cX7_word 24 = .ok (.ireturn, 1) := by decide +kernel
theorem dX7_drop_0 : decode cX7_drop 0 = .ok (.aload_n 0, 1) := by decide +kernel
theorem dX7_drop_1 : decode cX7_drop 1 = .ok (.getfield 16, 3) := by decide +kernel
theorem dX7_drop_4 : decode cX7_drop 4 = .ok (.aload_n 0, 1) := by decide +kernel
theorem dX7_drop_5 : decode cX7_drop 5 = .ok (.getfield 10, 3) := by decide +kernel
theorem dX7_drop_8 : decode cX7_drop 8 = .ok (.invokevirtual 71, 3) := by decide +kernel
theorem dX7_drop_11 : decode cX7_drop 11 = .ok (.aload_n 0, 1) := by decide +kernel
theorem dX7_drop_12 : decode cX7_drop 12 = .ok (.aload_n 0, 1) := by decide +kernel
theorem dX7_drop_13 : decode cX7_drop 13 = .ok (.getfield 10, 3) := by decide +kernel
theorem dX7_drop_16 : decode cX7_drop 16 = .ok (.invokevirtual 86, 3) := by decide +kernel
theorem dX7_drop_19 : decode cX7_drop 19 = .ok (.invokevirtual 79, 3) := by decide +kernel
theorem dX7_drop_22 : decode cX7_drop 22 = .ok (.ireturn, 1) := by decide +kernel
theorem dX7_rhyme_0 : decode cX7_rhyme 0 = .ok (.aload_n 0, 1) := by decide +kernel
theorem dX7_rhyme_1 : decode cX7_rhyme 1 = .ok (.getfield 16, 3) := by decide +kernel
theorem dX7_rhyme_4 : decode cX7_rhyme 4 = .ok (.aload_n 0, 1) := by decide +kernel
theorem dX7_rhyme_5 : decode cX7_rhyme 5 = .ok (.getfield 10, 3) := by decide +kernel
theorem dX7_rhyme_8 : decode cX7_rhyme 8 = .ok (.invokevirtual 71, 3) := by decide +kernel
theorem dX7_rhyme_11 : decode cX7_rhyme 11 = .ok (.aload_n 0, 1) := by decide +kernel
theorem dX7_rhyme_12 : decode cX7_rhyme 12 = .ok (.aload_n 0, 1) := by decide +kernel
theorem dX7_rhyme_13 : decode cX7_rhyme 13 = .ok (.getfield 10, 3) := by decide +kernel
theorem dX7_rhyme_16 : decode cX7_rhyme 16 = .ok (.iload_n 1, 1) := by decide +kernel
theorem dX7_rhyme_17 : decode cX7_rhyme 17 = .ok (.iload_n 2, 1) := by decide +kernel
theorem dX7_rhyme_18 : decode cX7_rhyme 18 = .ok (.invokevirtual 90, 3) := by decide +kernel
theorem dX7_rhyme_21 : decode cX7_rhyme 21 = .ok (.invokevirtual 79, 3) := by decide +kernel
theorem dX7_rhyme_24 : decode cX7_rhyme 24 = .ok (.ireturn, 1) := by decide +kernel
theorem dX7_tell_0 : decode cX7_tell 0 = .ok (.aload_n 0, 1) := by decide +kernel
theorem dX7_tell_1 : decode cX7_tell 1 = .ok (.getfield 16, 3) := by decide +kernel
theorem dX7_tell_4 : decode cX7_tell 4 = .ok (.aload_n 0, 1) := by decide +kernel
theorem dX7_tell_5 : decode cX7_tell 5 = .ok (.getfield 10, 3) := by decide +kernel
theorem dX7_tell_8 : decode cX7_tell 8 = .ok (.invokevirtual 71, 3) := by decide +kernel
theorem dX7_tell_11 : decode cX7_tell 11 = .ok (.aload_n 0, 1) := by decide +kernel
theorem dX7_tell_12 : decode cX7_tell 12 = .ok (.aload_n 0, 1) := by decide +kernel
theorem dX7_tell_13 : decode cX7_tell 13 = .ok (.getfield 10, 3) := by decide +kernel
theorem dX7_tell_16 : decode cX7_tell 16 = .ok (.iload_n 1, 1) := by decide +kernel
theorem dX7_tell_17 : decode cX7_tell 17 = .ok (.iload_n 2, 1) := by decide +kernel
theorem dX7_tell_18 : decode cX7_tell 18 = .ok (.invokevirtual 93, 3) := by decide +kernel
theorem dX7_tell_21 : decode cX7_tell 21 = .ok (.invokevirtual 79, 3) := by decide +kernel
theorem dX7_tell_24 : decode cX7_tell 24 = .ok (.ireturn, 1) := by decide +kernel
theorem dX7_of_0 : decode cX7_of 0 = .ok (.aload_n 0, 1) := by decide +kernel
theorem dX7_of_1 : decode cX7_of 1 = .ok (.getfield 10, 3) := by decide +kernel
theorem dX7_of_4 : decode cX7_of 4 = .ok (.iload_n 1, 1) := by decide +kernel
theorem dX7_of_5 : decode cX7_of 5 = .ok (.invokevirtual 96, 3) := by decide +kernel
theorem dX7_of_8 : decode cX7_of 8 = .ok (.ifCond .ne 5, 3) := by decide +kernel
theorem dX7_of_11 : decode cX7_of 11 = .ok (.iconst (-1), 1) := by decide +kernel
theorem dX7_of_12 : decode cX7_of 12 = .ok (.ireturn, 1) := by decide +kernel
theorem dX7_of_13 : decode cX7_of 13 = .ok (.iload_n 2, 1) := by decide +kernel
theorem dX7_of_14 : decode cX7_of 14 = .ok (.tableswitch 126 0 7 #[46, 55, 72, 81, 90, 99, 108, 117], 46) := by decide +kernel
theorem dX7_of_60 : decode cX7_of 60 = .ok (.aload_n 0, 1) := by decide +kernel
theorem dX7_of_61 : decode cX7_of 61 = .ok (.getfield 10, 3) := by decide +kernel
theorem dX7_of_64 : decode cX7_of 64 = .ok (.iload_n 1, 1) := by decide +kernel
theorem dX7_of_65 : decode cX7_of 65 = .ok (.invokevirtual 100, 3) := by decide +kernel
theorem dX7_of_68 : decode cX7_of 68 = .ok (.ireturn, 1) := by decide +kernel
theorem dX7_of_69 : decode cX7_of 69 = .ok (.aload_n 0, 1) := by decide +kernel
theorem dX7_of_70 : decode cX7_of 70 = .ok (.getfield 10, 3) := by decide +kernel
theorem dX7_of_73 : decode cX7_of 73 = .ok (.iload_n 1, 1) := by decide +kernel
theorem dX7_of_74 : decode cX7_of 74 = .ok (.invokevirtual 103, 3) := by decide +kernel
theorem dX7_of_77 : decode cX7_of 77 = .ok (.ifCond .eq 7, 3) := by decide +kernel
theorem dX7_of_80 : decode cX7_of 80 = .ok (.iconst 1, 1) := by decide +kernel
theorem dX7_of_81 : decode cX7_of 81 = .ok (.goto 4, 3) := by decide +kernel
theorem dX7_of_84 : decode cX7_of 84 = .ok (.iconst 0, 1) := by decide +kernel
theorem dX7_of_85 : decode cX7_of 85 = .ok (.ireturn, 1) := by decide +kernel
theorem dX7_of_86 : decode cX7_of 86 = .ok (.aload_n 0, 1) := by decide +kernel
theorem dX7_of_87 : decode cX7_of 87 = .ok (.getfield 10, 3) := by decide +kernel
theorem dX7_of_90 : decode cX7_of 90 = .ok (.iload_n 1, 1) := by decide +kernel
theorem dX7_of_91 : decode cX7_of 91 = .ok (.invokevirtual 106, 3) := by decide +kernel
theorem dX7_of_94 : decode cX7_of 94 = .ok (.ireturn, 1) := by decide +kernel
theorem dX7_of_95 : decode cX7_of 95 = .ok (.aload_n 0, 1) := by decide +kernel
theorem dX7_of_96 : decode cX7_of 96 = .ok (.getfield 10, 3) := by decide +kernel
theorem dX7_of_99 : decode cX7_of 99 = .ok (.iload_n 1, 1) := by decide +kernel
theorem dX7_of_100 : decode cX7_of 100 = .ok (.invokevirtual 109, 3) := by decide +kernel
theorem dX7_of_103 : decode cX7_of 103 = .ok (.ireturn, 1) := by decide +kernel
theorem dX7_of_104 : decode cX7_of 104 = .ok (.aload_n 0, 1) := by decide +kernel
theorem dX7_of_105 : decode cX7_of 105 = .ok (.getfield 10, 3) := by decide +kernel
theorem dX7_of_108 : decode cX7_of 108 = .ok (.iload_n 1, 1) := by decide +kernel
theorem dX7_of_109 : decode cX7_of 109 = .ok (.invokevirtual 112, 3) := by decide +kernel
theorem dX7_of_112 : decode cX7_of 112 = .ok (.ireturn, 1) := by decide +kernel
theorem dX7_of_113 : decode cX7_of 113 = .ok (.aload_n 0, 1) := by decide +kernel
theorem dX7_of_114 : decode cX7_of 114 = .ok (.iload_n 1, 1) := by decide +kernel
theorem dX7_of_115 : decode cX7_of 115 = .ok (.invokevirtual 115, 3) := by decide +kernel
theorem dX7_of_118 : decode cX7_of 118 = .ok (.getfield 119, 3) := by decide +kernel
theorem dX7_of_121 : decode cX7_of 121 = .ok (.ireturn, 1) := by decide +kernel
theorem dX7_of_122 : decode cX7_of 122 = .ok (.aload_n 0, 1) := by decide +kernel
theorem dX7_of_123 : decode cX7_of 123 = .ok (.iload_n 1, 1) := by decide +kernel
theorem dX7_of_124 : decode cX7_of 124 = .ok (.invokevirtual 115, 3) := by decide +kernel
theorem dX7_of_127 : decode cX7_of 127 = .ok (.getfield 123, 3) := by decide +kernel
theorem dX7_of_130 : decode cX7_of 130 = .ok (.ireturn, 1) := by decide +kernel
theorem dX7_of_131 : decode cX7_of 131 = .ok (.aload_n 0, 1) := by decide +kernel
theorem dX7_of_132 : decode cX7_of 132 = .ok (.invokevirtual 126, 3) := by decide +kernel
theorem dX7_of_135 : decode cX7_of 135 = .ok (.iload_n 1, 1) := by decide +kernel
theorem dX7_of_136 : decode cX7_of 136 = .ok (.invokevirtual 130, 3) := by decide +kernel
theorem dX7_of_139 : decode cX7_of 139 = .ok (.ireturn, 1) := by decide +kernel
theorem dX7_of_140 : decode cX7_of 140 = .ok (.iconst (-1), 1) := by decide +kernel
theorem dX7_of_141 : decode cX7_of 141 = .ok (.ireturn, 1) := by decide +kernel
theorem dX7_said_0 : decode cX7_said 0 = .ok (.aload_n 0, 1) := by decide +kernel
theorem dX7_said_1 : decode cX7_said 1 = .ok (.getfield 10, 3) := by decide +kernel
theorem dX7_said_4 : decode cX7_said 4 = .ok (.iload_n 1, 1) := by decide +kernel
theorem dX7_said_5 : decode cX7_said 5 = .ok (.invokevirtual 96, 3) := by decide +kernel
theorem dX7_said_8 : decode cX7_said 8 = .ok (.ifCond .eq 19, 3) := by decide +kernel
theorem dX7_said_11 : decode cX7_said 11 = .ok (.iload_n 2, 1) := by decide +kernel
theorem dX7_said_12 : decode cX7_said 12 = .ok (.ifCond .lt 15, 3) := by decide +kernel
theorem dX7_said_15 : decode cX7_said 15 = .ok (.iload_n 2, 1) := by decide +kernel
theorem dX7_said_16 : decode cX7_said 16 = .ok (.aload_n 0, 1) := by decide +kernel
theorem dX7_said_17 : decode cX7_said 17 = .ok (.getfield 10, 3) := by decide +kernel
theorem dX7_said_20 : decode cX7_said 20 = .ok (.iload_n 1, 1) := by decide +kernel
theorem dX7_said_21 : decode cX7_said 21 = .ok (.invokevirtual 106, 3) := by decide +kernel
theorem dX7_said_24 : decode cX7_said 24 = .ok (.if_icmp .lt 5, 3) := by decide +kernel
theorem dX7_said_27 : decode cX7_said 27 = .ok (.iconst (-1), 1) := by decide +kernel
theorem dX7_said_28 : decode cX7_said 28 = .ok (.ireturn, 1) := by decide +kernel
theorem dX7_said_29 : decode cX7_said 29 = .ok (.iload_n 3, 1) := by decide +kernel
theorem dX7_said_30 : decode cX7_said 30 = .ok (.tableswitch 70 0 3 #[30, 40, 50, 60], 30) := by decide +kernel
theorem dX7_said_60 : decode cX7_said 60 = .ok (.aload_n 0, 1) := by decide +kernel
theorem dX7_said_61 : decode cX7_said 61 = .ok (.getfield 10, 3) := by decide +kernel
theorem dX7_said_64 : decode cX7_said 64 = .ok (.iload_n 1, 1) := by decide +kernel
theorem dX7_said_65 : decode cX7_said 65 = .ok (.iload_n 2, 1) := by decide +kernel
theorem dX7_said_66 : decode cX7_said 66 = .ok (.invokevirtual 133, 3) := by decide +kernel
theorem dX7_said_69 : decode cX7_said 69 = .ok (.ireturn, 1) := by decide +kernel
theorem dX7_said_70 : decode cX7_said 70 = .ok (.aload_n 0, 1) := by decide +kernel
theorem dX7_said_71 : decode cX7_said 71 = .ok (.getfield 10, 3) := by decide +kernel
theorem dX7_said_74 : decode cX7_said 74 = .ok (.iload_n 1, 1) := by decide +kernel
theorem dX7_said_75 : decode cX7_said 75 = .ok (.iload_n 2, 1) := by decide +kernel
theorem dX7_said_76 : decode cX7_said 76 = .ok (.invokevirtual 136, 3) := by decide +kernel
theorem dX7_said_79 : decode cX7_said 79 = .ok (.ireturn, 1) := by decide +kernel
theorem dX7_said_80 : decode cX7_said 80 = .ok (.aload_n 0, 1) := by decide +kernel
theorem dX7_said_81 : decode cX7_said 81 = .ok (.iload_n 1, 1) := by decide +kernel
theorem dX7_said_82 : decode cX7_said 82 = .ok (.invokevirtual 115, 3) := by decide +kernel
theorem dX7_said_85 : decode cX7_said 85 = .ok (.iload_n 2, 1) := by decide +kernel
theorem dX7_said_86 : decode cX7_said 86 = .ok (.invokevirtual 139, 3) := by decide +kernel
theorem dX7_said_89 : decode cX7_said 89 = .ok (.ireturn, 1) := by decide +kernel
theorem dX7_said_90 : decode cX7_said 90 = .ok (.aload_n 0, 1) := by decide +kernel
theorem dX7_said_91 : decode cX7_said 91 = .ok (.iload_n 1, 1) := by decide +kernel
theorem dX7_said_92 : decode cX7_said 92 = .ok (.invokevirtual 115, 3) := by decide +kernel
theorem dX7_said_95 : decode cX7_said 95 = .ok (.iload_n 2, 1) := by decide +kernel
theorem dX7_said_96 : decode cX7_said 96 = .ok (.invokevirtual 142, 3) := by decide +kernel
theorem dX7_said_99 : decode cX7_said 99 = .ok (.ireturn, 1) := by decide +kernel
theorem dX7_said_100 : decode cX7_said 100 = .ok (.iconst (-1), 1) := by decide +kernel
theorem dX7_said_101 : decode cX7_said 101 = .ok (.ireturn, 1) := by decide +kernel
theorem dX7_count_0 : decode cX7_count 0 = .ok (.iload_n 1, 1) := by decide +kernel
theorem dX7_count_1 : decode cX7_count 1 = .ok (.ifCond .lt 18, 3) := by decide +kernel
theorem dX7_count_4 : decode cX7_count 4 = .ok (.iload_n 1, 1) := by decide +kernel
theorem dX7_count_5 : decode cX7_count 5 = .ok (.bipush 7, 2) := by decide +kernel
theorem dX7_count_7 : decode cX7_count 7 = .ok (.if_icmp .ge 12, 3) := by decide +kernel
theorem dX7_count_10 : decode cX7_count 10 = .ok (.aload_n 0, 1) := by decide +kernel
theorem dX7_count_11 : decode cX7_count 11 = .ok (.getfield 10, 3) := by decide +kernel
theorem dX7_count_14 : decode cX7_count 14 = .ok (.iload_n 1, 1) := by decide +kernel
theorem dX7_count_15 : decode cX7_count 15 = .ok (.invokevirtual 145, 3) := by decide +kernel
theorem dX7_count_18 : decode cX7_count 18 = .ok (.ireturn, 1) := by decide +kernel
theorem dX7_count_19 : decode cX7_count 19 = .ok (.iload_n 1, 1) := by decide +kernel
theorem dX7_count_20 : decode cX7_count 20 = .ok (.tableswitch 85 7 12 #[40, 48, 56, 61, 69, 77], 40) := by decide +kernel
theorem dX7_count_60 : decode cX7_count 60 = .ok (.aload_n 0, 1) := by decide +kernel
theorem dX7_count_61 : decode cX7_count 61 = .ok (.getfield 10, 3) := by decide +kernel
theorem dX7_count_64 : decode cX7_count 64 = .ok (.invokevirtual 148, 3) := by decide +kernel
theorem dX7_count_67 : decode cX7_count 67 = .ok (.ireturn, 1) := by decide +kernel
theorem dX7_count_68 : decode cX7_count 68 = .ok (.aload_n 0, 1) := by decide +kernel
theorem dX7_count_69 : decode cX7_count 69 = .ok (.getfield 10, 3) := by decide +kernel
theorem dX7_count_72 : decode cX7_count 72 = .ok (.invokevirtual 151, 3) := by decide +kernel
theorem dX7_count_75 : decode cX7_count 75 = .ok (.ireturn, 1) := by decide +kernel
theorem dX7_count_76 : decode cX7_count 76 = .ok (.aload_n 0, 1) := by decide +kernel
theorem dX7_count_77 : decode cX7_count 77 = .ok (.invokevirtual 154, 3) := by decide +kernel
theorem dX7_count_80 : decode cX7_count 80 = .ok (.ireturn, 1) := by decide +kernel
theorem dX7_count_81 : decode cX7_count 81 = .ok (.aload_n 0, 1) := by decide +kernel
theorem dX7_count_82 : decode cX7_count 82 = .ok (.invokevirtual 126, 3) := by decide +kernel
theorem dX7_count_85 : decode cX7_count 85 = .ok (.invokevirtual 157, 3) := by decide +kernel
theorem dX7_count_88 : decode cX7_count 88 = .ok (.ireturn, 1) := by decide +kernel
theorem dX7_count_89 : decode cX7_count 89 = .ok (.aload_n 0, 1) := by decide +kernel
theorem dX7_count_90 : decode cX7_count 90 = .ok (.invokevirtual 126, 3) := by decide +kernel
theorem dX7_count_93 : decode cX7_count 93 = .ok (.invokevirtual 160, 3) := by decide +kernel
theorem dX7_count_96 : decode cX7_count 96 = .ok (.ireturn, 1) := by decide +kernel
theorem dX7_count_97 : decode cX7_count 97 = .ok (.aload_n 0, 1) := by decide +kernel
theorem dX7_count_98 : decode cX7_count 98 = .ok (.getfield 22, 3) := by decide +kernel
theorem dX7_count_101 : decode cX7_count 101 = .ok (.getfield 163, 3) := by decide +kernel
theorem dX7_count_104 : decode cX7_count 104 = .ok (.ireturn, 1) := by decide +kernel
theorem dX7_count_105 : decode cX7_count 105 = .ok (.iconst (-1), 1) := by decide +kernel
theorem dX7_count_106 : decode cX7_count 106 = .ok (.ireturn, 1) := by decide +kernel
theorem dX7_page_0 : decode cX7_page 0 = .ok (.iload_n 1, 1) := by decide +kernel
theorem dX7_page_1 : decode cX7_page 1 = .ok (.ifCond .lt 14, 3) := by decide +kernel
theorem dX7_page_4 : decode cX7_page 4 = .ok (.iload_n 1, 1) := by decide +kernel
theorem dX7_page_5 : decode cX7_page 5 = .ok (.aload_n 0, 1) := by decide +kernel
theorem dX7_page_6 : decode cX7_page 6 = .ok (.invokevirtual 126, 3) := by decide +kernel
theorem dX7_page_9 : decode cX7_page 9 = .ok (.invokevirtual 157, 3) := by decide +kernel
theorem dX7_page_12 : decode cX7_page 12 = .ok (.if_icmp .lt 5, 3) := by decide +kernel
theorem dX7_page_15 : decode cX7_page 15 = .ok (.iconst (-1), 1) := by decide +kernel
theorem dX7_page_16 : decode cX7_page 16 = .ok (.ireturn, 1) := by decide +kernel
theorem dX7_page_17 : decode cX7_page 17 = .ok (.aload_n 0, 1) := by decide +kernel
theorem dX7_page_18 : decode cX7_page 18 = .ok (.getfield 53, 3) := by decide +kernel
theorem dX7_page_21 : decode cX7_page 21 = .ok (.iload_n 1, 1) := by decide +kernel
theorem dX7_page_22 : decode cX7_page 22 = .ok (.invokevirtual 166, 3) := by decide +kernel
theorem dX7_page_25 : decode cX7_page 25 = .ok (.istore_n 3, 1) := by decide +kernel
theorem dX7_page_26 : decode cX7_page 26 = .ok (.aload_n 0, 1) := by decide +kernel
theorem dX7_page_27 : decode cX7_page 27 = .ok (.getfield 53, 3) := by decide +kernel
theorem dX7_page_30 : decode cX7_page 30 = .ok (.iload_n 1, 1) := by decide +kernel
theorem dX7_page_31 : decode cX7_page 31 = .ok (.iconst 1, 1) := by decide +kernel
theorem dX7_page_32 : decode cX7_page 32 = .ok (.iadd, 1) := by decide +kernel
theorem dX7_page_33 : decode cX7_page 33 = .ok (.invokevirtual 166, 3) := by decide +kernel
theorem dX7_page_36 : decode cX7_page 36 = .ok (.istore 4, 2) := by decide +kernel
theorem dX7_page_38 : decode cX7_page 38 = .ok (.iload_n 2, 1) := by decide +kernel
theorem dX7_page_39 : decode cX7_page 39 = .ok (.tableswitch 47 0 2 #[25, 27, 32], 25) := by decide +kernel
theorem dX7_page_64 : decode cX7_page 64 = .ok (.iload_n 3, 1) := by decide +kernel
theorem dX7_page_65 : decode cX7_page 65 = .ok (.ireturn, 1) := by decide +kernel
theorem dX7_page_66 : decode cX7_page 66 = .ok (.iload 4, 2) := by decide +kernel
theorem dX7_page_68 : decode cX7_page 68 = .ok (.iload_n 3, 1) := by decide +kernel
theorem dX7_page_69 : decode cX7_page 69 = .ok (.isub, 1) := by decide +kernel
theorem dX7_page_70 : decode cX7_page 70 = .ok (.ireturn, 1) := by decide +kernel
theorem dX7_page_71 : decode cX7_page 71 = .ok (.aload_n 0, 1) := by decide +kernel
theorem dX7_page_72 : decode cX7_page 72 = .ok (.getfield 53, 3) := by decide +kernel
theorem dX7_page_75 : decode cX7_page 75 = .ok (.aload_n 0, 1) := by decide +kernel
theorem dX7_page_76 : decode cX7_page 76 = .ok (.getfield 10, 3) := by decide +kernel
theorem dX7_page_79 : decode cX7_page 79 = .ok (.iload_n 3, 1) := by decide +kernel
theorem dX7_page_80 : decode cX7_page 80 = .ok (.iload 4, 2) := by decide +kernel
theorem dX7_page_82 : decode cX7_page 82 = .ok (.invokevirtual 169, 3) := by decide +kernel
theorem dX7_page_85 : decode cX7_page 85 = .ok (.ireturn, 1) := by decide +kernel
theorem dX7_page_86 : decode cX7_page 86 = .ok (.iconst (-1), 1) := by decide +kernel
theorem dX7_page_87 : decode cX7_page 87 = .ok (.ireturn, 1) := by decide +kernel
theorem dX7_stanza_0 : decode cX7_stanza 0 = .ok (.iload_n 1, 1) := by decide +kernel
theorem dX7_stanza_1 : decode cX7_stanza 1 = .ok (.ifCond .lt 14, 3) := by decide +kernel
theorem dX7_stanza_4 : decode cX7_stanza 4 = .ok (.iload_n 1, 1) := by decide +kernel
theorem dX7_stanza_5 : decode cX7_stanza 5 = .ok (.aload_n 0, 1) := by decide +kernel
theorem dX7_stanza_6 : decode cX7_stanza 6 = .ok (.getfield 10, 3) := by decide +kernel
theorem dX7_stanza_9 : decode cX7_stanza 9 = .ok (.invokevirtual 151, 3) := by decide +kernel
theorem dX7_stanza_12 : decode cX7_stanza 12 = .ok (.if_icmp .lt 7, 3) := by decide +kernel
theorem dX7_stanza_15 : decode cX7_stanza 15 = .ok (.ldc2_w 173, 3) := by decide +kernel
theorem dX7_stanza_18 : decode cX7_stanza 18 = .ok (.lreturn, 1) := by decide +kernel
theorem dX7_stanza_19 : decode cX7_stanza 19 = .ok (.aload_n 0, 1) := by decide +kernel
theorem dX7_stanza_20 : decode cX7_stanza 20 = .ok (.getfield 10, 3) := by decide +kernel
theorem dX7_stanza_23 : decode cX7_stanza 23 = .ok (.iload_n 1, 1) := by decide +kernel
theorem dX7_stanza_24 : decode cX7_stanza 24 = .ok (.invokevirtual 175, 3) := by decide +kernel
theorem dX7_stanza_27 : decode cX7_stanza 27 = .ok (.istore_n 3, 1) := by decide +kernel
theorem dX7_stanza_28 : decode cX7_stanza 28 = .ok (.iload_n 2, 1) := by decide +kernel
theorem dX7_stanza_29 : decode cX7_stanza 29 = .ok (.tableswitch 76 0 4 #[35, 38, 50, 60, 69], 35) := by decide +kernel
theorem dX7_stanza_64 : decode cX7_stanza 64 = .ok (.iload_n 3, 1) := by decide +kernel
theorem dX7_stanza_65 : decode cX7_stanza 65 = .ok (.i2l, 1) := by decide +kernel
theorem dX7_stanza_66 : decode cX7_stanza 66 = .ok (.lreturn, 1) := by decide +kernel
theorem dX7_stanza_67 : decode cX7_stanza 67 = .ok (.aload_n 0, 1) := by decide +kernel
theorem dX7_stanza_68 : decode cX7_stanza 68 = .ok (.getfield 10, 3) := by decide +kernel
theorem dX7_stanza_71 : decode cX7_stanza 71 = .ok (.iload_n 3, 1) := by decide +kernel
theorem dX7_stanza_72 : decode cX7_stanza 72 = .ok (.invokevirtual 176, 3) := by decide +kernel
theorem dX7_stanza_75 : decode cX7_stanza 75 = .ok (.iload_n 3, 1) := by decide +kernel
theorem dX7_stanza_76 : decode cX7_stanza 76 = .ok (.isub, 1) := by decide +kernel
theorem dX7_stanza_77 : decode cX7_stanza 77 = .ok (.i2l, 1) := by decide +kernel
theorem dX7_stanza_78 : decode cX7_stanza 78 = .ok (.lreturn, 1) := by decide +kernel
theorem dX7_stanza_79 : decode cX7_stanza 79 = .ok (.aload_n 0, 1) := by decide +kernel
theorem dX7_stanza_80 : decode cX7_stanza 80 = .ok (.getfield 10, 3) := by decide +kernel
theorem dX7_stanza_83 : decode cX7_stanza 83 = .ok (.iload_n 3, 1) := by decide +kernel
theorem dX7_stanza_84 : decode cX7_stanza 84 = .ok (.invokevirtual 179, 3) := by decide +kernel
theorem dX7_stanza_87 : decode cX7_stanza 87 = .ok (.i2l, 1) := by decide +kernel
theorem dX7_stanza_88 : decode cX7_stanza 88 = .ok (.lreturn, 1) := by decide +kernel
theorem dX7_stanza_89 : decode cX7_stanza 89 = .ok (.aload_n 0, 1) := by decide +kernel
theorem dX7_stanza_90 : decode cX7_stanza 90 = .ok (.getfield 10, 3) := by decide +kernel
theorem dX7_stanza_93 : decode cX7_stanza 93 = .ok (.iload_n 3, 1) := by decide +kernel
theorem dX7_stanza_94 : decode cX7_stanza 94 = .ok (.invokevirtual 182, 3) := by decide +kernel
theorem dX7_stanza_97 : decode cX7_stanza 97 = .ok (.lreturn, 1) := by decide +kernel
theorem dX7_stanza_98 : decode cX7_stanza 98 = .ok (.aload_n 0, 1) := by decide +kernel
theorem dX7_stanza_99 : decode cX7_stanza 99 = .ok (.iload_n 1, 1) := by decide +kernel
theorem dX7_stanza_100 : decode cX7_stanza 100 = .ok (.invokevirtual 186, 3) := by decide +kernel
theorem dX7_stanza_103 : decode cX7_stanza 103 = .ok (.i2l, 1) := by decide +kernel
theorem dX7_stanza_104 : decode cX7_stanza 104 = .ok (.lreturn, 1) := by decide +kernel
theorem dX7_stanza_105 : decode cX7_stanza 105 = .ok (.ldc2_w 173, 3) := by decide +kernel
theorem dX7_stanza_108 : decode cX7_stanza 108 = .ok (.lreturn, 1) := by decide +kernel
theorem dX7_settings_0 : decode cX7_settings 0 = .ok (.aload_n 0, 1) := by decide +kernel
theorem dX7_settings_1 : decode cX7_settings 1 = .ok (.getfield 10, 3) := by decide +kernel
theorem dX7_settings_4 : decode cX7_settings 4 = .ok (.iload_n 1, 1) := by decide +kernel
theorem dX7_settings_5 : decode cX7_settings 5 = .ok (.invokevirtual 96, 3) := by decide +kernel
theorem dX7_settings_8 : decode cX7_settings 8 = .ok (.ifCond .eq 14, 3) := by decide +kernel
theorem dX7_settings_11 : decode cX7_settings 11 = .ok (.aload_n 0, 1) := by decide +kernel
theorem dX7_settings_12 : decode cX7_settings 12 = .ok (.iload_n 1, 1) := by decide +kernel
theorem dX7_settings_13 : decode cX7_settings 13 = .ok (.invokevirtual 115, 3) := by decide +kernel
theorem dX7_settings_16 : decode cX7_settings 16 = .ok (.getfield 189, 3) := by decide +kernel
theorem dX7_settings_19 : decode cX7_settings 19 = .ok (.goto 4, 3) := by decide +kernel
theorem dX7_settings_22 : decode cX7_settings 22 = .ok (.iconst (-1), 1) := by decide +kernel
theorem dX7_settings_23 : decode cX7_settings 23 = .ok (.ireturn, 1) := by decide +kernel
theorem dX7_whole_0 : decode cX7_whole 0 = .ok (.iload_n 1, 1) := by decide +kernel
theorem dX7_whole_1 : decode cX7_whole 1 = .ok (.ifCond .lt 18, 3) := by decide +kernel
theorem dX7_whole_4 : decode cX7_whole 4 = .ok (.iload_n 1, 1) := by decide +kernel
theorem dX7_whole_5 : decode cX7_whole 5 = .ok (.bipush 10, 2) := by decide +kernel
theorem dX7_whole_7 : decode cX7_whole 7 = .ok (.if_icmp .gt 12, 3) := by decide +kernel
theorem dX7_whole_10 : decode cX7_whole 10 = .ok (.iload_n 2, 1) := by decide +kernel
theorem dX7_whole_11 : decode cX7_whole 11 = .ok (.ifCond .lt 8, 3) := by decide +kernel
theorem dX7_whole_14 : decode cX7_whole 14 = .ok (.iload_n 2, 1) := by decide +kernel
theorem dX7_whole_15 : decode cX7_whole 15 = .ok (.iconst 1, 1) := by decide +kernel
theorem dX7_whole_16 : decode cX7_whole 16 = .ok (.if_icmp .le 7, 3) := by decide +kernel
theorem dX7_whole_19 : decode cX7_whole 19 = .ok (.ldc2_w 173, 3) := by decide +kernel
theorem dX7_whole_22 : decode cX7_whole 22 = .ok (.lreturn, 1) := by decide +kernel
theorem dX7_whole_23 : decode cX7_whole 23 = .ok (.aload_n 0, 1) := by decide +kernel
theorem dX7_whole_24 : decode cX7_whole 24 = .ok (.getfield 53, 3) := by decide +kernel
theorem dX7_whole_27 : decode cX7_whole 27 = .ok (.aload_n 0, 1) := by decide +kernel
theorem dX7_whole_28 : decode cX7_whole 28 = .ok (.getfield 10, 3) := by decide +kernel
theorem dX7_whole_31 : decode cX7_whole 31 = .ok (.aload_n 0, 1) := by decide +kernel
theorem dX7_whole_32 : decode cX7_whole 32 = .ok (.getfield 46, 3) := by decide +kernel
theorem dX7_whole_35 : decode cX7_whole 35 = .ok (.invokevirtual 191, 3) := by decide +kernel
theorem dX7_whole_38 : decode cX7_whole 38 = .ok (.aload_n 0, 1) := by decide +kernel
theorem dX7_whole_39 : decode cX7_whole 39 = .ok (.getfield 60, 3) := by decide +kernel
theorem dX7_whole_42 : decode cX7_whole 42 = .ok (.aload_n 0, 1) := by decide +kernel
theorem dX7_whole_43 : decode cX7_whole 43 = .ok (.getfield 10, 3) := by decide +kernel
theorem dX7_whole_46 : decode cX7_whole 46 = .ok (.aload_n 0, 1) := by decide +kernel
theorem dX7_whole_47 : decode cX7_whole 47 = .ok (.getfield 53, 3) := by decide +kernel
theorem dX7_whole_50 : decode cX7_whole 50 = .ok (.iload_n 1, 1) := by decide +kernel
theorem dX7_whole_51 : decode cX7_whole 51 = .ok (.invokevirtual 195, 3) := by decide +kernel
theorem dX7_whole_54 : decode cX7_whole 54 = .ok (.iload_n 2, 1) := by decide +kernel
theorem dX7_whole_55 : decode cX7_whole 55 = .ok (.ifCond .ne 13, 3) := by decide +kernel
theorem dX7_whole_58 : decode cX7_whole 58 = .ok (.aload_n 0, 1) := by decide +kernel
theorem dX7_whole_59 : decode cX7_whole 59 = .ok (.getfield 60, 3) := by decide +kernel
theorem dX7_whole_62 : decode cX7_whole 62 = .ok (.getfield 199, 3) := by decide +kernel
theorem dX7_whole_65 : decode cX7_whole 65 = .ok (.goto 10, 3) := by decide +kernel
theorem dX7_whole_68 : decode cX7_whole 68 = .ok (.aload_n 0, 1) := by decide +kernel
theorem dX7_whole_69 : decode cX7_whole 69 = .ok (.getfield 60, 3) := by decide +kernel
theorem dX7_whole_72 : decode cX7_whole 72 = .ok (.getfield 203, 3) := by decide +kernel
theorem dX7_whole_75 : decode cX7_whole 75 = .ok (.lreturn, 1) := by decide +kernel
theorem dX7_type_0 : decode cX7_type 0 = .ok (.aload_n 0, 1) := by decide +kernel
theorem dX7_type_1 : decode cX7_type 1 = .ok (.getfield 39, 3) := by decide +kernel
theorem dX7_type_4 : decode cX7_type 4 = .ok (.iload_n 1, 1) := by decide +kernel
theorem dX7_type_5 : decode cX7_type 5 = .ok (.invokevirtual 206, 3) := by decide +kernel
theorem dX7_type_8 : decode cX7_type 8 = .ok (.ireturn, 1) := by decide +kernel
theorem dX7_read_0 : decode cX7_read 0 = .ok (.aload_n 0, 1) := by decide +kernel
theorem dX7_read_1 : decode cX7_read 1 = .ok (.getfield 16, 3) := by decide +kernel
theorem dX7_read_4 : decode cX7_read 4 = .ok (.aload_n 0, 1) := by decide +kernel
theorem dX7_read_5 : decode cX7_read 5 = .ok (.getfield 10, 3) := by decide +kernel
theorem dX7_read_8 : decode cX7_read 8 = .ok (.invokevirtual 71, 3) := by decide +kernel
theorem dX7_read_11 : decode cX7_read 11 = .ok (.aload_n 0, 1) := by decide +kernel
theorem dX7_read_12 : decode cX7_read 12 = .ok (.getfield 39, 3) := by decide +kernel
theorem dX7_read_15 : decode cX7_read 15 = .ok (.invokevirtual 209, 3) := by decide +kernel
theorem dX7_read_18 : decode cX7_read 18 = .ok (.istore_n 1, 1) := by decide +kernel
theorem dX7_read_19 : decode cX7_read 19 = .ok (.aload_n 0, 1) := by decide +kernel
theorem dX7_read_20 : decode cX7_read 20 = .ok (.getfield 39, 3) := by decide +kernel
theorem dX7_read_23 : decode cX7_read 23 = .ok (.iconst 0, 1) := by decide +kernel
theorem dX7_read_24 : decode cX7_read 24 = .ok (.putfield 212, 3) := by decide +kernel
theorem dX7_read_27 : decode cX7_read 27 = .ok (.iload_n 1, 1) := by decide +kernel
theorem dX7_read_28 : decode cX7_read 28 = .ok (.iconst (-1), 1) := by decide +kernel
theorem dX7_read_29 : decode cX7_read 29 = .ok (.if_icmp .eq 8, 3) := by decide +kernel
theorem dX7_read_32 : decode cX7_read 32 = .ok (.bipush (-20), 2) := by decide +kernel
theorem dX7_read_34 : decode cX7_read 34 = .ok (.iload_n 1, 1) := by decide +kernel
theorem dX7_read_35 : decode cX7_read 35 = .ok (.isub, 1) := by decide +kernel
theorem dX7_read_36 : decode cX7_read 36 = .ok (.ireturn, 1) := by decide +kernel
theorem dX7_read_37 : decode cX7_read 37 = .ok (.aload_n 0, 1) := by decide +kernel
theorem dX7_read_38 : decode cX7_read 38 = .ok (.getfield 10, 3) := by decide +kernel
theorem dX7_read_41 : decode cX7_read 41 = .ok (.aload_n 0, 1) := by decide +kernel
theorem dX7_read_42 : decode cX7_read 42 = .ok (.getfield 39, 3) := by decide +kernel
theorem dX7_read_45 : decode cX7_read 45 = .ok (.getfield 215, 3) := by decide +kernel
theorem dX7_read_48 : decode cX7_read 48 = .ok (.invokevirtual 218, 3) := by decide +kernel
theorem dX7_read_51 : decode cX7_read 51 = .ok (.aload_n 0, 1) := by decide +kernel
theorem dX7_read_52 : decode cX7_read 52 = .ok (.aload_n 0, 1) := by decide +kernel
theorem dX7_read_53 : decode cX7_read 53 = .ok (.getfield 10, 3) := by decide +kernel
theorem dX7_read_56 : decode cX7_read 56 = .ok (.invokevirtual 148, 3) := by decide +kernel
theorem dX7_read_59 : decode cX7_read 59 = .ok (.invokevirtual 79, 3) := by decide +kernel
theorem dX7_read_62 : decode cX7_read 62 = .ok (.ireturn, 1) := by decide +kernel
theorem dX7_drift_0 : decode cX7_drift 0 = .ok (.iload_n 1, 1) := by decide +kernel
theorem dX7_drift_1 : decode cX7_drift 1 = .ok (.iconst 1, 1) := by decide +kernel
theorem dX7_drift_2 : decode cX7_drift 2 = .ok (.if_icmp .lt 9, 3) := by decide +kernel
theorem dX7_drift_5 : decode cX7_drift 5 = .ok (.iload_n 1, 1) := by decide +kernel
theorem dX7_drift_6 : decode cX7_drift 6 = .ok (.bipush 40, 2) := by decide +kernel
theorem dX7_drift_8 : decode cX7_drift 8 = .ok (.if_icmp .le 5, 3) := by decide +kernel
theorem dX7_drift_11 : decode cX7_drift 11 = .ok (.iconst (-1), 1) := by decide +kernel
theorem dX7_drift_12 : decode cX7_drift 12 = .ok (.ireturn, 1) := by decide +kernel
theorem dX7_drift_13 : decode cX7_drift 13 = .ok (.iconst 0, 1) := by decide +kernel
theorem dX7_drift_14 : decode cX7_drift 14 = .ok (.istore_n 2, 1) := by decide +kernel
theorem dX7_drift_15 : decode cX7_drift 15 = .ok (.iload_n 2, 1) := by decide +kernel
theorem dX7_drift_16 : decode cX7_drift 16 = .ok (.iload_n 1, 1) := by decide +kernel
theorem dX7_drift_17 : decode cX7_drift 17 = .ok (.if_icmp .ge 27, 3) := by decide +kernel
theorem dX7_drift_20 : decode cX7_drift 20 = .ok (.aload_n 0, 1) := by decide +kernel
theorem dX7_drift_21 : decode cX7_drift 21 = .ok (.getfield 22, 3) := by decide +kernel
theorem dX7_drift_24 : decode cX7_drift 24 = .ok (.aload_n 0, 1) := by decide +kernel
theorem dX7_drift_25 : decode cX7_drift 25 = .ok (.getfield 10, 3) := by decide +kernel
theorem dX7_drift_28 : decode cX7_drift 28 = .ok (.invokevirtual 221, 3) := by decide +kernel
theorem dX7_drift_31 : decode cX7_drift 31 = .ok (.aload_n 0, 1) := by decide +kernel
theorem dX7_drift_32 : decode cX7_drift 32 = .ok (.getfield 10, 3) := by decide +kernel
theorem dX7_drift_35 : decode cX7_drift 35 = .ok (.invokevirtual 224, 3) := by decide +kernel
theorem dX7_drift_38 : decode cX7_drift 38 = .ok (.iinc 2 1, 3) := by decide +kernel
theorem dX7_drift_41 : decode cX7_drift 41 = .ok (.goto (-26), 3) := by decide +kernel
theorem dX7_drift_44 : decode cX7_drift 44 = .ok (.aload_n 0, 1) := by decide +kernel
theorem dX7_drift_45 : decode cX7_drift 45 = .ok (.getfield 10, 3) := by decide +kernel
theorem dX7_drift_48 : decode cX7_drift 48 = .ok (.invokevirtual 148, 3) := by decide +kernel
theorem dX7_drift_51 : decode cX7_drift 51 = .ok (.ireturn, 1) := by decide +kernel
theorem dX7_undo_0 : decode cX7_undo 0 = .ok (.aload_n 0, 1) := by decide +kernel
theorem dX7_undo_1 : decode cX7_undo 1 = .ok (.getfield 22, 3) := by decide +kernel
theorem dX7_undo_4 : decode cX7_undo 4 = .ok (.getfield 163, 3) := by decide +kernel
theorem dX7_undo_7 : decode cX7_undo 7 = .ok (.ifCond .ne 6, 3) := by decide +kernel
theorem dX7_undo_10 : decode cX7_undo 10 = .ok (.bipush (-4), 2) := by decide +kernel
theorem dX7_undo_12 : decode cX7_undo 12 = .ok (.ireturn, 1) := by decide +kernel
theorem dX7_undo_13 : decode cX7_undo 13 = .ok (.aload_n 0, 1) := by decide +kernel
theorem dX7_undo_14 : decode cX7_undo 14 = .ok (.getfield 22, 3) := by decide +kernel
theorem dX7_undo_17 : decode cX7_undo 17 = .ok (.aload_n 0, 1) := by decide +kernel
theorem dX7_undo_18 : decode cX7_undo 18 = .ok (.getfield 10, 3) := by decide +kernel
theorem dX7_undo_21 : decode cX7_undo 21 = .ok (.invokevirtual 227, 3) := by decide +kernel
theorem dX7_undo_24 : decode cX7_undo 24 = .ok (.aload_n 0, 1) := by decide +kernel
theorem dX7_undo_25 : decode cX7_undo 25 = .ok (.getfield 22, 3) := by decide +kernel
theorem dX7_undo_28 : decode cX7_undo 28 = .ok (.getfield 163, 3) := by decide +kernel
theorem dX7_undo_31 : decode cX7_undo 31 = .ok (.ireturn, 1) := by decide +kernel
theorem dX7_seed_0 : decode cX7_seed 0 = .ok (.iload_n 1, 1) := by decide +kernel
theorem dX7_seed_1 : decode cX7_seed 1 = .ok (.ifCond .ge 5, 3) := by decide +kernel
theorem dX7_seed_4 : decode cX7_seed 4 = .ok (.iconst (-1), 1) := by decide +kernel
theorem dX7_seed_5 : decode cX7_seed 5 = .ok (.ireturn, 1) := by decide +kernel
theorem dX7_seed_6 : decode cX7_seed 6 = .ok (.aload_n 0, 1) := by decide +kernel
theorem dX7_seed_7 : decode cX7_seed 7 = .ok (.getfield 10, 3) := by decide +kernel
theorem dX7_seed_10 : decode cX7_seed 10 = .ok (.invokevirtual 230, 3) := by decide +kernel
theorem dX7_seed_13 : decode cX7_seed 13 = .ok (.istore_n 2, 1) := by decide +kernel
theorem dX7_seed_14 : decode cX7_seed 14 = .ok (.aload_n 0, 1) := by decide +kernel
theorem dX7_seed_15 : decode cX7_seed 15 = .ok (.getfield 10, 3) := by decide +kernel
theorem dX7_seed_18 : decode cX7_seed 18 = .ok (.iload_n 1, 1) := by decide +kernel
theorem dX7_seed_19 : decode cX7_seed 19 = .ok (.invokevirtual 233, 3) := by decide +kernel
theorem dX7_seed_22 : decode cX7_seed 22 = .ok (.iload_n 2, 1) := by decide +kernel
theorem dX7_seed_23 : decode cX7_seed 23 = .ok (.ireturn, 1) := by decide +kernel
theorem dX7_image_0 : decode cX7_image 0 = .ok (.aload_n 0, 1) := by decide +kernel
theorem dX7_image_1 : decode cX7_image 1 = .ok (.getfield 26, 3) := by decide +kernel
theorem dX7_image_4 : decode cX7_image 4 = .ok (.aload_n 0, 1) := by decide +kernel
theorem dX7_image_5 : decode cX7_image 5 = .ok (.getfield 10, 3) := by decide +kernel
theorem dX7_image_8 : decode cX7_image 8 = .ok (.invokevirtual 71, 3) := by decide +kernel
theorem dX7_image_11 : decode cX7_image 11 = .ok (.aload_n 0, 1) := by decide +kernel
theorem dX7_image_12 : decode cX7_image 12 = .ok (.getfield 29, 3) := by decide +kernel
theorem dX7_image_15 : decode cX7_image 15 = .ok (.aload_n 0, 1) := by decide +kernel
theorem dX7_image_16 : decode cX7_image 16 = .ok (.getfield 22, 3) := by decide +kernel
theorem dX7_image_19 : decode cX7_image 19 = .ok (.invokevirtual 237, 3) := by decide +kernel
theorem dX7_image_22 : decode cX7_image 22 = .ok (.aload_n 0, 1) := by decide +kernel
theorem dX7_image_23 : decode cX7_image 23 = .ok (.iconst 1, 1) := by decide +kernel
theorem dX7_image_24 : decode cX7_image 24 = .ok (.putfield 32, 3) := by decide +kernel
theorem dX7_image_27 : decode cX7_image 27 = .ok (.iconst 1, 1) := by decide +kernel
theorem dX7_image_28 : decode cX7_image 28 = .ok (.ireturn, 1) := by decide +kernel
theorem dX7_restore_0 : decode cX7_restore 0 = .ok (.aload_n 0, 1) := by decide +kernel
theorem dX7_restore_1 : decode cX7_restore 1 = .ok (.getfield 32, 3) := by decide +kernel
theorem dX7_restore_4 : decode cX7_restore 4 = .ok (.ifCond .ne 6, 3) := by decide +kernel
theorem dX7_restore_7 : decode cX7_restore 7 = .ok (.bipush (-4), 2) := by decide +kernel
theorem dX7_restore_9 : decode cX7_restore 9 = .ok (.ireturn, 1) := by decide +kernel
theorem dX7_restore_10 : decode cX7_restore 10 = .ok (.aload_n 0, 1) := by decide +kernel
theorem dX7_restore_11 : decode cX7_restore 11 = .ok (.getfield 10, 3) := by decide +kernel
theorem dX7_restore_14 : decode cX7_restore 14 = .ok (.aload_n 0, 1) := by decide +kernel
theorem dX7_restore_15 : decode cX7_restore 15 = .ok (.getfield 26, 3) := by decide +kernel
theorem dX7_restore_18 : decode cX7_restore 18 = .ok (.invokevirtual 71, 3) := by decide +kernel
theorem dX7_restore_21 : decode cX7_restore 21 = .ok (.aload_n 0, 1) := by decide +kernel
theorem dX7_restore_22 : decode cX7_restore 22 = .ok (.getfield 22, 3) := by decide +kernel
theorem dX7_restore_25 : decode cX7_restore 25 = .ok (.aload_n 0, 1) := by decide +kernel
theorem dX7_restore_26 : decode cX7_restore 26 = .ok (.getfield 29, 3) := by decide +kernel
theorem dX7_restore_29 : decode cX7_restore 29 = .ok (.invokevirtual 237, 3) := by decide +kernel
theorem dX7_restore_32 : decode cX7_restore 32 = .ok (.iconst 1, 1) := by decide +kernel
theorem dX7_restore_33 : decode cX7_restore 33 = .ok (.ireturn, 1) := by decide +kernel
theorem dX7_cuts_0 : decode cX7_cuts 0 = .ok (.iload 4, 2) := by decide +kernel
theorem dX7_cuts_2 : decode cX7_cuts 2 = .ok (.iconst 1, 1) := by decide +kernel
theorem dX7_cuts_3 : decode cX7_cuts 3 = .ok (.if_icmp .lt 10, 3) := by decide +kernel
theorem dX7_cuts_6 : decode cX7_cuts 6 = .ok (.iload 4, 2) := by decide +kernel
theorem dX7_cuts_8 : decode cX7_cuts 8 = .ok (.bipush 12, 2) := by decide +kernel
theorem dX7_cuts_10 : decode cX7_cuts 10 = .ok (.if_icmp .le 5, 3) := by decide +kernel
theorem dX7_cuts_13 : decode cX7_cuts 13 = .ok (.iconst (-1), 1) := by decide +kernel
theorem dX7_cuts_14 : decode cX7_cuts 14 = .ok (.ireturn, 1) := by decide +kernel
theorem dX7_cuts_15 : decode cX7_cuts 15 = .ok (.aload_n 0, 1) := by decide +kernel
theorem dX7_cuts_16 : decode cX7_cuts 16 = .ok (.iload_n 1, 1) := by decide +kernel
theorem dX7_cuts_17 : decode cX7_cuts 17 = .ok (.iload_n 2, 1) := by decide +kernel
theorem dX7_cuts_18 : decode cX7_cuts 18 = .ok (.iload_n 3, 1) := by decide +kernel
theorem dX7_cuts_19 : decode cX7_cuts 19 = .ok (.iload 4, 2) := by decide +kernel
theorem dX7_cuts_21 : decode cX7_cuts 21 = .ok (.invokevirtual 240, 3) := by decide +kernel
theorem dX7_cuts_24 : decode cX7_cuts 24 = .ok (.istore 5, 2) := by decide +kernel
theorem dX7_cuts_26 : decode cX7_cuts 26 = .ok (.iload 5, 2) := by decide +kernel
theorem dX7_cuts_28 : decode cX7_cuts 28 = .ok (.ifCond .eq 6, 3) := by decide +kernel
theorem dX7_cuts_31 : decode cX7_cuts 31 = .ok (.iload 5, 2) := by decide +kernel
theorem dX7_cuts_33 : decode cX7_cuts 33 = .ok (.ireturn, 1) := by decide +kernel
theorem dX7_cuts_34 : decode cX7_cuts 34 = .ok (.aload_n 0, 1) := by decide +kernel
theorem dX7_cuts_35 : decode cX7_cuts 35 = .ok (.getfield 66, 3) := by decide +kernel
theorem dX7_cuts_38 : decode cX7_cuts 38 = .ok (.iload_n 1, 1) := by decide +kernel
theorem dX7_cuts_39 : decode cX7_cuts 39 = .ok (.aaload, 1) := by decide +kernel
theorem dX7_cuts_40 : decode cX7_cuts 40 = .ok (.aload_n 0, 1) := by decide +kernel
theorem dX7_cuts_41 : decode cX7_cuts 41 = .ok (.getfield 10, 3) := by decide +kernel
theorem dX7_cuts_44 : decode cX7_cuts 44 = .ok (.invokevirtual 148, 3) := by decide +kernel
theorem dX7_cuts_47 : decode cX7_cuts 47 = .ok (.iload_n 3, 1) := by decide +kernel
theorem dX7_cuts_48 : decode cX7_cuts 48 = .ok (.iload 4, 2) := by decide +kernel
theorem dX7_cuts_50 : decode cX7_cuts 50 = .ok (.invokevirtual 244, 3) := by decide +kernel
theorem dX7_cuts_53 : decode cX7_cuts 53 = .ok (.ifCond .ne 6, 3) := by decide +kernel
theorem dX7_cuts_56 : decode cX7_cuts 56 = .ok (.bipush (-2), 2) := by decide +kernel
theorem dX7_cuts_58 : decode cX7_cuts 58 = .ok (.ireturn, 1) := by decide +kernel
theorem dX7_cuts_59 : decode cX7_cuts 59 = .ok (.aload_n 0, 1) := by decide +kernel
theorem dX7_cuts_60 : decode cX7_cuts 60 = .ok (.getfield 53, 3) := by decide +kernel
theorem dX7_cuts_63 : decode cX7_cuts 63 = .ok (.aload_n 0, 1) := by decide +kernel
theorem dX7_cuts_64 : decode cX7_cuts 64 = .ok (.getfield 10, 3) := by decide +kernel
theorem dX7_cuts_67 : decode cX7_cuts 67 = .ok (.aload_n 0, 1) := by decide +kernel
theorem dX7_cuts_68 : decode cX7_cuts 68 = .ok (.getfield 46, 3) := by decide +kernel
theorem dX7_cuts_71 : decode cX7_cuts 71 = .ok (.invokevirtual 191, 3) := by decide +kernel
theorem dX7_cuts_74 : decode cX7_cuts 74 = .ok (.aload_n 0, 1) := by decide +kernel
theorem dX7_cuts_75 : decode cX7_cuts 75 = .ok (.aload_n 0, 1) := by decide +kernel
theorem dX7_cuts_76 : decode cX7_cuts 76 = .ok (.getfield 66, 3) := by decide +kernel
theorem dX7_cuts_79 : decode cX7_cuts 79 = .ok (.iload_n 1, 1) := by decide +kernel
theorem dX7_cuts_80 : decode cX7_cuts 80 = .ok (.aaload, 1) := by decide +kernel
theorem dX7_cuts_81 : decode cX7_cuts 81 = .ok (.iload_n 3, 1) := by decide +kernel
theorem dX7_cuts_82 : decode cX7_cuts 82 = .ok (.iload 4, 2) := by decide +kernel
theorem dX7_cuts_84 : decode cX7_cuts 84 = .ok (.invokevirtual 248, 3) := by decide +kernel
theorem dX7_cuts_87 : decode cX7_cuts 87 = .ok (.ireturn, 1) := by decide +kernel
theorem dX7_film_0 : decode cX7_film 0 = .ok (.aload_n 0, 1) := by decide +kernel
theorem dX7_film_1 : decode cX7_film 1 = .ok (.iload_n 1, 1) := by decide +kernel
theorem dX7_film_2 : decode cX7_film 2 = .ok (.iload_n 2, 1) := by decide +kernel
theorem dX7_film_3 : decode cX7_film 3 = .ok (.iload_n 3, 1) := by decide +kernel
theorem dX7_film_4 : decode cX7_film 4 = .ok (.aload_n 0, 1) := by decide +kernel
theorem dX7_film_5 : decode cX7_film 5 = .ok (.getfield 10, 3) := by decide +kernel
theorem dX7_film_8 : decode cX7_film 8 = .ok (.invokevirtual 148, 3) := by decide +kernel
theorem dX7_film_11 : decode cX7_film 11 = .ok (.invokevirtual 240, 3) := by decide +kernel
theorem dX7_film_14 : decode cX7_film 14 = .ok (.istore 4, 2) := by decide +kernel
theorem dX7_film_16 : decode cX7_film 16 = .ok (.iload 4, 2) := by decide +kernel
theorem dX7_film_18 : decode cX7_film 18 = .ok (.ifCond .eq 6, 3) := by decide +kernel
theorem dX7_film_21 : decode cX7_film 21 = .ok (.iload 4, 2) := by decide +kernel
theorem dX7_film_23 : decode cX7_film 23 = .ok (.ireturn, 1) := by decide +kernel
theorem dX7_film_24 : decode cX7_film 24 = .ok (.iconst 0, 1) := by decide +kernel
theorem dX7_film_25 : decode cX7_film 25 = .ok (.istore 5, 2) := by decide +kernel
theorem dX7_film_27 : decode cX7_film 27 = .ok (.iload 5, 2) := by decide +kernel
theorem dX7_film_29 : decode cX7_film 29 = .ok (.aload_n 0, 1) := by decide +kernel
theorem dX7_film_30 : decode cX7_film 30 = .ok (.getfield 10, 3) := by decide +kernel
theorem dX7_film_33 : decode cX7_film 33 = .ok (.invokevirtual 148, 3) := by decide +kernel
theorem dX7_film_36 : decode cX7_film 36 = .ok (.if_icmp .ge 32, 3) := by decide +kernel
theorem dX7_film_39 : decode cX7_film 39 = .ok (.aload_n 0, 1) := by decide +kernel
theorem dX7_film_40 : decode cX7_film 40 = .ok (.getfield 66, 3) := by decide +kernel
theorem dX7_film_43 : decode cX7_film 43 = .ok (.iload_n 1, 1) := by decide +kernel
theorem dX7_film_44 : decode cX7_film 44 = .ok (.aaload, 1) := by decide +kernel
theorem dX7_film_45 : decode cX7_film 45 = .ok (.iload_n 3, 1) := by decide +kernel
theorem dX7_film_46 : decode cX7_film 46 = .ok (.iload 5, 2) := by decide +kernel
theorem dX7_film_48 : decode cX7_film 48 = .ok (.iadd, 1) := by decide +kernel
theorem dX7_film_49 : decode cX7_film 49 = .ok (.aload_n 0, 1) := by decide +kernel
theorem dX7_film_50 : decode cX7_film 50 = .ok (.iload 5, 2) := by decide +kernel
theorem dX7_film_52 : decode cX7_film 52 = .ok (.invokevirtual 115, 3) := by decide +kernel
theorem dX7_film_55 : decode cX7_film 55 = .ok (.getfield 119, 3) := by decide +kernel
theorem dX7_film_58 : decode cX7_film 58 = .ok (.i2l, 1) := by decide +kernel
theorem dX7_film_59 : decode cX7_film 59 = .ok (.invokevirtual 252, 3) := by decide +kernel
theorem dX7_film_62 : decode cX7_film 62 = .ok (.iinc 5 1, 3) := by decide +kernel
theorem dX7_film_65 : decode cX7_film 65 = .ok (.goto (-38), 3) := by decide +kernel
theorem dX7_film_68 : decode cX7_film 68 = .ok (.aload_n 0, 1) := by decide +kernel
theorem dX7_film_69 : decode cX7_film 69 = .ok (.getfield 10, 3) := by decide +kernel
theorem dX7_film_72 : decode cX7_film 72 = .ok (.invokevirtual 148, 3) := by decide +kernel
theorem dX7_film_75 : decode cX7_film 75 = .ok (.ireturn, 1) := by decide +kernel
theorem dX7_sheet_0 : decode cX7_sheet 0 = .ok (.iload_n 1, 1) := by decide +kernel
theorem dX7_sheet_1 : decode cX7_sheet 1 = .ok (.invokestatic 256, 3) := by decide +kernel
theorem dX7_sheet_4 : decode cX7_sheet 4 = .ok (.ifCond .eq 16, 3) := by decide +kernel
theorem dX7_sheet_7 : decode cX7_sheet 7 = .ok (.iload_n 2, 1) := by decide +kernel
theorem dX7_sheet_8 : decode cX7_sheet 8 = .ok (.invokestatic 259, 3) := by decide +kernel
theorem dX7_sheet_11 : decode cX7_sheet 11 = .ok (.ifCond .eq 9, 3) := by decide +kernel
theorem dX7_sheet_14 : decode cX7_sheet 14 = .ok (.iload_n 3, 1) := by decide +kernel
theorem dX7_sheet_15 : decode cX7_sheet 15 = .ok (.bipush 24, 2) := by decide +kernel
theorem dX7_sheet_17 : decode cX7_sheet 17 = .ok (.if_icmp .le 5, 3) := by decide +kernel
theorem dX7_sheet_20 : decode cX7_sheet 20 = .ok (.iconst (-1), 1) := by decide +kernel
theorem dX7_sheet_21 : decode cX7_sheet 21 = .ok (.ireturn, 1) := by decide +kernel
theorem dX7_sheet_22 : decode cX7_sheet 22 = .ok (.iload_n 3, 1) := by decide +kernel
theorem dX7_sheet_23 : decode cX7_sheet 23 = .ok (.ifCond .ge 6, 3) := by decide +kernel
theorem dX7_sheet_26 : decode cX7_sheet 26 = .ok (.bipush (-14), 2) := by decide +kernel
theorem dX7_sheet_28 : decode cX7_sheet 28 = .ok (.ireturn, 1) := by decide +kernel
theorem dX7_sheet_29 : decode cX7_sheet 29 = .ok (.aload_n 0, 1) := by decide +kernel
theorem dX7_sheet_30 : decode cX7_sheet 30 = .ok (.getfield 66, 3) := by decide +kernel
theorem dX7_sheet_33 : decode cX7_sheet 33 = .ok (.iload_n 1, 1) := by decide +kernel
theorem dX7_sheet_34 : decode cX7_sheet 34 = .ok (.aaload, 1) := by decide +kernel
theorem dX7_sheet_35 : decode cX7_sheet 35 = .ok (.iload_n 2, 1) := by decide +kernel
theorem dX7_sheet_36 : decode cX7_sheet 36 = .ok (.iload_n 3, 1) := by decide +kernel
theorem dX7_sheet_37 : decode cX7_sheet 37 = .ok (.invokevirtual 262, 3) := by decide +kernel
theorem dX7_sheet_40 : decode cX7_sheet 40 = .ok (.iload_n 3, 1) := by decide +kernel
theorem dX7_sheet_41 : decode cX7_sheet 41 = .ok (.ireturn, 1) := by decide +kernel
theorem dX7_lift_0 : decode cX7_lift 0 = .ok (.iload_n 1, 1) := by decide +kernel
theorem dX7_lift_1 : decode cX7_lift 1 = .ok (.invokestatic 256, 3) := by decide +kernel
theorem dX7_lift_4 : decode cX7_lift 4 = .ok (.ifCond .ne 5, 3) := by decide +kernel
theorem dX7_lift_7 : decode cX7_lift 7 = .ok (.iconst (-1), 1) := by decide +kernel
theorem dX7_lift_8 : decode cX7_lift 8 = .ok (.ireturn, 1) := by decide +kernel
theorem dX7_lift_9 : decode cX7_lift 9 = .ok (.aload_n 0, 1) := by decide +kernel
theorem dX7_lift_10 : decode cX7_lift 10 = .ok (.getfield 66, 3) := by decide +kernel
theorem dX7_lift_13 : decode cX7_lift 13 = .ok (.iload_n 1, 1) := by decide +kernel
theorem dX7_lift_14 : decode cX7_lift 14 = .ok (.aaload, 1) := by decide +kernel
theorem dX7_lift_15 : decode cX7_lift 15 = .ok (.getfield 266, 3) := by decide +kernel
theorem dX7_lift_18 : decode cX7_lift 18 = .ok (.ifCond .eq 6, 3) := by decide +kernel
theorem dX7_lift_21 : decode cX7_lift 21 = .ok (.bipush (-11), 2) := by decide +kernel
theorem dX7_lift_23 : decode cX7_lift 23 = .ok (.ireturn, 1) := by decide +kernel
theorem dX7_lift_24 : decode cX7_lift 24 = .ok (.aload_n 0, 1) := by decide +kernel
theorem dX7_lift_25 : decode cX7_lift 25 = .ok (.getfield 66, 3) := by decide +kernel
theorem dX7_lift_28 : decode cX7_lift 28 = .ok (.iload_n 1, 1) := by decide +kernel
theorem dX7_lift_29 : decode cX7_lift 29 = .ok (.aaload, 1) := by decide +kernel
theorem dX7_lift_30 : decode cX7_lift 30 = .ok (.iconst 1, 1) := by decide +kernel
theorem dX7_lift_31 : decode cX7_lift 31 = .ok (.putfield 266, 3) := by decide +kernel
theorem dX7_lift_34 : decode cX7_lift 34 = .ok (.aload_n 0, 1) := by decide +kernel
theorem dX7_lift_35 : decode cX7_lift 35 = .ok (.getfield 66, 3) := by decide +kernel
theorem dX7_lift_38 : decode cX7_lift 38 = .ok (.iload_n 1, 1) := by decide +kernel
theorem dX7_lift_39 : decode cX7_lift 39 = .ok (.aaload, 1) := by decide +kernel
theorem dX7_lift_40 : decode cX7_lift 40 = .ok (.getfield 269, 3) := by decide +kernel
theorem dX7_lift_43 : decode cX7_lift 43 = .ok (.ireturn, 1) := by decide +kernel
theorem dX7_item_0 : decode cX7_item 0 = .ok (.aload_n 0, 1) := by decide +kernel
theorem dX7_item_1 : decode cX7_item 1 = .ok (.iload_n 1, 1) := by decide +kernel
theorem dX7_item_2 : decode cX7_item 2 = .ok (.iload_n 2, 1) := by decide +kernel
theorem dX7_item_3 : decode cX7_item 3 = .ok (.iload_n 3, 1) := by decide +kernel
theorem dX7_item_4 : decode cX7_item 4 = .ok (.iconst 1, 1) := by decide +kernel
theorem dX7_item_5 : decode cX7_item 5 = .ok (.invokevirtual 240, 3) := by decide +kernel
theorem dX7_item_8 : decode cX7_item 8 = .ok (.istore 6, 2) := by decide +kernel
theorem dX7_item_10 : decode cX7_item 10 = .ok (.iload 6, 2) := by decide +kernel
theorem dX7_item_12 : decode cX7_item 12 = .ok (.ifCond .eq 6, 3) := by decide +kernel
theorem dX7_item_15 : decode cX7_item 15 = .ok (.iload 6, 2) := by decide +kernel
theorem dX7_item_17 : decode cX7_item 17 = .ok (.ireturn, 1) := by decide +kernel
theorem dX7_item_18 : decode cX7_item 18 = .ok (.aload_n 0, 1) := by decide +kernel
theorem dX7_item_19 : decode cX7_item 19 = .ok (.getfield 66, 3) := by decide +kernel
theorem dX7_item_22 : decode cX7_item 22 = .ok (.iload_n 1, 1) := by decide +kernel
theorem dX7_item_23 : decode cX7_item 23 = .ok (.aaload, 1) := by decide +kernel
theorem dX7_item_24 : decode cX7_item 24 = .ok (.iload_n 3, 1) := by decide +kernel
theorem dX7_item_25 : decode cX7_item 25 = .ok (.lload 4, 2) := by decide +kernel
theorem dX7_item_27 : decode cX7_item 27 = .ok (.invokevirtual 252, 3) := by decide +kernel
theorem dX7_item_30 : decode cX7_item 30 = .ok (.iconst 1, 1) := by decide +kernel
theorem dX7_item_31 : decode cX7_item 31 = .ok (.ireturn, 1) := by decide +kernel
theorem dX7_copy_0 : decode cX7_copy 0 = .ok (.iload_n 1, 1) := by decide +kernel
theorem dX7_copy_1 : decode cX7_copy 1 = .ok (.invokestatic 256, 3) := by decide +kernel
theorem dX7_copy_4 : decode cX7_copy 4 = .ok (.ifCond .eq 10, 3) := by decide +kernel
theorem dX7_copy_7 : decode cX7_copy 7 = .ok (.iload_n 3, 1) := by decide +kernel
theorem dX7_copy_8 : decode cX7_copy 8 = .ok (.invokestatic 256, 3) := by decide +kernel
theorem dX7_copy_11 : decode cX7_copy 11 = .ok (.ifCond .ne 5, 3) := by decide +kernel
theorem dX7_copy_14 : decode cX7_copy 14 = .ok (.iconst (-1), 1) := by decide +kernel
theorem dX7_copy_15 : decode cX7_copy 15 = .ok (.ireturn, 1) := by decide +kernel
theorem dX7_copy_16 : decode cX7_copy 16 = .ok (.aload_n 0, 1) := by decide +kernel
theorem dX7_copy_17 : decode cX7_copy 17 = .ok (.getfield 66, 3) := by decide +kernel
theorem dX7_copy_20 : decode cX7_copy 20 = .ok (.iload_n 1, 1) := by decide +kernel
theorem dX7_copy_21 : decode cX7_copy 21 = .ok (.aaload, 1) := by decide +kernel
theorem dX7_copy_22 : decode cX7_copy 22 = .ok (.astore 6, 2) := by decide +kernel
theorem dX7_copy_24 : decode cX7_copy 24 = .ok (.aload_n 0, 1) := by decide +kernel
theorem dX7_copy_25 : decode cX7_copy 25 = .ok (.getfield 66, 3) := by decide +kernel
theorem dX7_copy_28 : decode cX7_copy 28 = .ok (.iload_n 3, 1) := by decide +kernel
theorem dX7_copy_29 : decode cX7_copy 29 = .ok (.aaload, 1) := by decide +kernel
theorem dX7_copy_30 : decode cX7_copy 30 = .ok (.astore 7, 2) := by decide +kernel
theorem dX7_copy_32 : decode cX7_copy 32 = .ok (.aload 6, 2) := by decide +kernel
theorem dX7_copy_34 : decode cX7_copy 34 = .ok (.getfield 266, 3) := by decide +kernel
theorem dX7_copy_37 : decode cX7_copy 37 = .ok (.ifCond .ne 11, 3) := by decide +kernel
theorem dX7_copy_40 : decode cX7_copy 40 = .ok (.aload 7, 2) := by decide +kernel
theorem dX7_copy_42 : decode cX7_copy 42 = .ok (.getfield 266, 3) := by decide +kernel
theorem dX7_copy_45 : decode cX7_copy 45 = .ok (.ifCond .eq 6, 3) := by decide +kernel
theorem dX7_copy_48 : decode cX7_copy 48 = .ok (.bipush (-11), 2) := by decide +kernel
theorem dX7_copy_50 : decode cX7_copy 50 = .ok (.ireturn, 1) := by decide +kernel
theorem dX7_copy_51 : decode cX7_copy 51 = .ok (.aload 6, 2) := by decide +kernel
theorem dX7_copy_53 : decode cX7_copy 53 = .ok (.getfield 270, 3) := by decide +kernel
theorem dX7_copy_56 : decode cX7_copy 56 = .ok (.aload 7, 2) := by decide +kernel
theorem dX7_copy_58 : decode cX7_copy 58 = .ok (.getfield 270, 3) := by decide +kernel
theorem dX7_copy_61 : decode cX7_copy 61 = .ok (.if_icmp .eq 6, 3) := by decide +kernel
theorem dX7_copy_64 : decode cX7_copy 64 = .ok (.bipush (-12), 2) := by decide +kernel
theorem dX7_copy_66 : decode cX7_copy 66 = .ok (.ireturn, 1) := by decide +kernel
theorem dX7_copy_67 : decode cX7_copy 67 = .ok (.aload 6, 2) := by decide +kernel
theorem dX7_copy_69 : decode cX7_copy 69 = .ok (.iload_n 2, 1) := by decide +kernel
theorem dX7_copy_70 : decode cX7_copy 70 = .ok (.iload 5, 2) := by decide +kernel
theorem dX7_copy_72 : decode cX7_copy 72 = .ok (.invokevirtual 273, 3) := by decide +kernel
theorem dX7_copy_75 : decode cX7_copy 75 = .ok (.ifCond .eq 15, 3) := by decide +kernel
theorem dX7_copy_78 : decode cX7_copy 78 = .ok (.aload 7, 2) := by decide +kernel
theorem dX7_copy_80 : decode cX7_copy 80 = .ok (.iload 4, 2) := by decide +kernel
theorem dX7_copy_82 : decode cX7_copy 82 = .ok (.iload 5, 2) := by decide +kernel
theorem dX7_copy_84 : decode cX7_copy 84 = .ok (.invokevirtual 273, 3) := by decide +kernel
theorem dX7_copy_87 : decode cX7_copy 87 = .ok (.ifCond .ne 6, 3) := by decide +kernel
theorem dX7_copy_90 : decode cX7_copy 90 = .ok (.bipush (-13), 2) := by decide +kernel
theorem dX7_copy_92 : decode cX7_copy 92 = .ok (.ireturn, 1) := by decide +kernel
theorem dX7_copy_93 : decode cX7_copy 93 = .ok (.aload 6, 2) := by decide +kernel
theorem dX7_copy_95 : decode cX7_copy 95 = .ok (.getfield 277, 3) := by decide +kernel
theorem dX7_copy_98 : decode cX7_copy 98 = .ok (.iload_n 2, 1) := by decide +kernel
theorem dX7_copy_99 : decode cX7_copy 99 = .ok (.aload 7, 2) := by decide +kernel
theorem dX7_copy_101 : decode cX7_copy 101 = .ok (.getfield 277, 3) := by decide +kernel
theorem dX7_copy_104 : decode cX7_copy 104 = .ok (.iload 4, 2) := by decide +kernel
theorem dX7_copy_106 : decode cX7_copy 106 = .ok (.iload 5, 2) := by decide +kernel
theorem dX7_copy_108 : decode cX7_copy 108 = .ok (.invokestatic 281, 3) := by decide +kernel
theorem dX7_copy_111 : decode cX7_copy 111 = .ok (.iload 5, 2) := by decide +kernel
theorem dX7_copy_113 : decode cX7_copy 113 = .ok (.ireturn, 1) := by decide +kernel
theorem dX7_recorded_0 : decode cX7_recorded 0 = .ok (.iload_n 1, 1) := by decide +kernel
theorem dX7_recorded_1 : decode cX7_recorded 1 = .ok (.ifCond .lt 14, 3) := by decide +kernel
theorem dX7_recorded_4 : decode cX7_recorded 4 = .ok (.aload_n 0, 1) := by decide +kernel
theorem dX7_recorded_5 : decode cX7_recorded 5 = .ok (.getfield 22, 3) := by decide +kernel
theorem dX7_recorded_8 : decode cX7_recorded 8 = .ok (.aload_n 0, 1) := by decide +kernel
theorem dX7_recorded_9 : decode cX7_recorded 9 = .ok (.getfield 16, 3) := by decide +kernel
theorem dX7_recorded_12 : decode cX7_recorded 12 = .ok (.invokevirtual 221, 3) := by decide +kernel
theorem dX7_recorded_15 : decode cX7_recorded 15 = .ok (.iload_n 1, 1) := by decide +kernel
theorem dX7_recorded_16 : decode cX7_recorded 16 = .ok (.ireturn, 1) := by decide +kernel
theorem dX7_laidOut_0 : decode cX7_laidOut 0 = .ok (.aload_n 0, 1) := by decide +kernel
theorem dX7_laidOut_1 : decode cX7_laidOut 1 = .ok (.getfield 46, 3) := by decide +kernel
theorem dX7_laidOut_4 : decode cX7_laidOut 4 = .ok (.aload_n 0, 1) := by decide +kernel
theorem dX7_laidOut_5 : decode cX7_laidOut 5 = .ok (.getfield 10, 3) := by decide +kernel
theorem dX7_laidOut_8 : decode cX7_laidOut 8 = .ok (.iload_n 1, 1) := by decide +kernel
theorem dX7_laidOut_9 : decode cX7_laidOut 9 = .ok (.invokevirtual 287, 3) := by decide +kernel
theorem dX7_laidOut_12 : decode cX7_laidOut 12 = .ok (.aload_n 0, 1) := by decide +kernel
theorem dX7_laidOut_13 : decode cX7_laidOut 13 = .ok (.getfield 46, 3) := by decide +kernel
theorem dX7_laidOut_16 : decode cX7_laidOut 16 = .ok (.areturn, 1) := by decide +kernel
theorem dX7_distributed_0 : decode cX7_distributed 0 = .ok (.aload_n 0, 1) := by decide +kernel
theorem dX7_distributed_1 : decode cX7_distributed 1 = .ok (.getfield 53, 3) := by decide +kernel
theorem dX7_distributed_4 : decode cX7_distributed 4 = .ok (.aload_n 0, 1) := by decide +kernel
theorem dX7_distributed_5 : decode cX7_distributed 5 = .ok (.getfield 10, 3) := by decide +kernel
theorem dX7_distributed_8 : decode cX7_distributed 8 = .ok (.aload_n 0, 1) := by decide +kernel
theorem dX7_distributed_9 : decode cX7_distributed 9 = .ok (.getfield 46, 3) := by decide +kernel
theorem dX7_distributed_12 : decode cX7_distributed 12 = .ok (.invokevirtual 191, 3) := by decide +kernel
theorem dX7_distributed_15 : decode cX7_distributed 15 = .ok (.aload_n 0, 1) := by decide +kernel
theorem dX7_distributed_16 : decode cX7_distributed 16 = .ok (.getfield 53, 3) := by decide +kernel
theorem dX7_distributed_19 : decode cX7_distributed 19 = .ok (.aload_n 0, 1) := by decide +kernel
theorem dX7_distributed_20 : decode cX7_distributed 20 = .ok (.getfield 10, 3) := by decide +kernel
theorem dX7_distributed_23 : decode cX7_distributed 23 = .ok (.invokevirtual 290, 3) := by decide +kernel
theorem dX7_distributed_26 : decode cX7_distributed 26 = .ok (.aload_n 0, 1) := by decide +kernel
theorem dX7_distributed_27 : decode cX7_distributed 27 = .ok (.getfield 53, 3) := by decide +kernel
theorem dX7_distributed_30 : decode cX7_distributed 30 = .ok (.areturn, 1) := by decide +kernel
theorem dX7_costOfAll_0 : decode cX7_costOfAll 0 = .ok (.iconst 0, 1) := by decide +kernel
theorem dX7_costOfAll_1 : decode cX7_costOfAll 1 = .ok (.istore_n 1, 1) := by decide +kernel
theorem dX7_costOfAll_2 : decode cX7_costOfAll 2 = .ok (.iconst 0, 1) := by decide +kernel
theorem dX7_costOfAll_3 : decode cX7_costOfAll 3 = .ok (.istore_n 2, 1) := by decide +kernel
theorem dX7_costOfAll_4 : decode cX7_costOfAll 4 = .ok (.iload_n 2, 1) := by decide +kernel
theorem dX7_costOfAll_5 : decode cX7_costOfAll 5 = .ok (.aload_n 0, 1) := by decide +kernel
theorem dX7_costOfAll_6 : decode cX7_costOfAll 6 = .ok (.getfield 10, 3) := by decide +kernel
theorem dX7_costOfAll_9 : decode cX7_costOfAll 9 = .ok (.invokevirtual 148, 3) := by decide +kernel
theorem dX7_costOfAll_12 : decode cX7_costOfAll 12 = .ok (.if_icmp .ge 31, 3) := by decide +kernel
theorem dX7_costOfAll_15 : decode cX7_costOfAll 15 = .ok (.aload_n 0, 1) := by decide +kernel
theorem dX7_costOfAll_16 : decode cX7_costOfAll 16 = .ok (.iload_n 2, 1) := by decide +kernel
theorem dX7_costOfAll_17 : decode cX7_costOfAll 17 = .ok (.invokevirtual 115, 3) := by decide +kernel
theorem dX7_costOfAll_20 : decode cX7_costOfAll 20 = .ok (.getfield 123, 3) := by decide +kernel
theorem dX7_costOfAll_23 : decode cX7_costOfAll 23 = .ok (.istore_n 3, 1) := by decide +kernel
theorem dX7_costOfAll_24 : decode cX7_costOfAll 24 = .ok (.iload_n 3, 1) := by decide +kernel
theorem dX7_costOfAll_25 : decode cX7_costOfAll 25 = .ok (.bipush (-4), 2) := by decide +kernel
theorem dX7_costOfAll_27 : decode cX7_costOfAll 27 = .ok (.if_icmp .ne 6, 3) := by decide +kernel
theorem dX7_costOfAll_30 : decode cX7_costOfAll 30 = .ok (.bipush (-4), 2) := by decide +kernel
theorem dX7_costOfAll_32 : decode cX7_costOfAll 32 = .ok (.ireturn, 1) := by decide +kernel
theorem dX7_costOfAll_33 : decode cX7_costOfAll 33 = .ok (.iload_n 1, 1) := by decide +kernel
theorem dX7_costOfAll_34 : decode cX7_costOfAll 34 = .ok (.iload_n 3, 1) := by decide +kernel
theorem dX7_costOfAll_35 : decode cX7_costOfAll 35 = .ok (.iadd, 1) := by decide +kernel
theorem dX7_costOfAll_36 : decode cX7_costOfAll 36 = .ok (.istore_n 1, 1) := by decide +kernel
theorem dX7_costOfAll_37 : decode cX7_costOfAll 37 = .ok (.iinc 2 1, 3) := by decide +kernel
theorem dX7_costOfAll_40 : decode cX7_costOfAll 40 = .ok (.goto (-36), 3) := by decide +kernel
theorem dX7_costOfAll_43 : decode cX7_costOfAll 43 = .ok (.iload_n 1, 1) := by decide +kernel
theorem dX7_costOfAll_44 : decode cX7_costOfAll 44 = .ok (.ireturn, 1) := by decide +kernel
theorem dX7_firstLike_0 : decode cX7_firstLike 0 = .ok (.aload_n 0, 1) := by decide +kernel
theorem dX7_firstLike_1 : decode cX7_firstLike 1 = .ok (.getfield 10, 3) := by decide +kernel
theorem dX7_firstLike_4 : decode cX7_firstLike 4 = .ok (.iload_n 1, 1) := by decide +kernel
theorem dX7_firstLike_5 : decode cX7_firstLike 5 = .ok (.invokevirtual 175, 3) := by decide +kernel
theorem dX7_firstLike_8 : decode cX7_firstLike 8 = .ok (.istore_n 2, 1) := by decide +kernel
theorem dX7_firstLike_9 : decode cX7_firstLike 9 = .ok (.aload_n 0, 1) := by decide +kernel
theorem dX7_firstLike_10 : decode cX7_firstLike 10 = .ok (.getfield 10, 3) := by decide +kernel
theorem dX7_firstLike_13 : decode cX7_firstLike 13 = .ok (.iload_n 2, 1) := by decide +kernel
theorem dX7_firstLike_14 : decode cX7_firstLike 14 = .ok (.invokevirtual 176, 3) := by decide +kernel
theorem dX7_firstLike_17 : decode cX7_firstLike 17 = .ok (.iload_n 2, 1) := by decide +kernel
theorem dX7_firstLike_18 : decode cX7_firstLike 18 = .ok (.isub, 1) := by decide +kernel
theorem dX7_firstLike_19 : decode cX7_firstLike 19 = .ok (.istore_n 3, 1) := by decide +kernel
theorem dX7_firstLike_20 : decode cX7_firstLike 20 = .ok (.aload_n 0, 1) := by decide +kernel
theorem dX7_firstLike_21 : decode cX7_firstLike 21 = .ok (.getfield 10, 3) := by decide +kernel
theorem dX7_firstLike_24 : decode cX7_firstLike 24 = .ok (.iload_n 2, 1) := by decide +kernel
theorem dX7_firstLike_25 : decode cX7_firstLike 25 = .ok (.invokevirtual 182, 3) := by decide +kernel
theorem dX7_firstLike_28 : decode cX7_firstLike 28 = .ok (.lstore 4, 2) := by decide +kernel
theorem dX7_firstLike_30 : decode cX7_firstLike 30 = .ok (.iconst 0, 1) := by decide +kernel
theorem dX7_firstLike_31 : decode cX7_firstLike 31 = .ok (.istore 6, 2) := by decide +kernel
theorem dX7_firstLike_33 : decode cX7_firstLike 33 = .ok (.iload 6, 2) := by decide +kernel
theorem dX7_firstLike_35 : decode cX7_firstLike 35 = .ok (.iload_n 1, 1) := by decide +kernel
theorem dX7_firstLike_36 : decode cX7_firstLike 36 = .ok (.if_icmp .ge 54, 3) := by decide +kernel
theorem dX7_firstLike_39 : decode cX7_firstLike 39 = .ok (.aload_n 0, 1) := by decide +kernel
theorem dX7_firstLike_40 : decode cX7_firstLike 40 = .ok (.getfield 10, 3) := by decide +kernel
theorem dX7_firstLike_43 : decode cX7_firstLike 43 = .ok (.iload 6, 2) := by decide +kernel
theorem dX7_firstLike_45 : decode cX7_firstLike 45 = .ok (.invokevirtual 175, 3) := by decide +kernel
theorem dX7_firstLike_48 : decode cX7_firstLike 48 = .ok (.istore 7, 2) := by decide +kernel
theorem dX7_firstLike_50 : decode cX7_firstLike 50 = .ok (.aload_n 0, 1) := by decide +kernel
theorem dX7_firstLike_51 : decode cX7_firstLike 51 = .ok (.getfield 10, 3) := by decide +kernel
theorem dX7_firstLike_54 : decode cX7_firstLike 54 = .ok (.iload 7, 2) := by decide +kernel
theorem dX7_firstLike_56 : decode cX7_firstLike 56 = .ok (.invokevirtual 176, 3) := by decide +kernel
theorem dX7_firstLike_59 : decode cX7_firstLike 59 = .ok (.iload 7, 2) := by decide +kernel
theorem dX7_firstLike_61 : decode cX7_firstLike 61 = .ok (.isub, 1) := by decide +kernel
theorem dX7_firstLike_62 : decode cX7_firstLike 62 = .ok (.iload_n 3, 1) := by decide +kernel
theorem dX7_firstLike_63 : decode cX7_firstLike 63 = .ok (.if_icmp .ne 21, 3) := by decide +kernel
theorem dX7_firstLike_66 : decode cX7_firstLike 66 = .ok (.aload_n 0, 1) := by decide +kernel
theorem dX7_firstLike_67 : decode cX7_firstLike 67 = .ok (.getfield 10, 3) := by decide +kernel
theorem dX7_firstLike_70 : decode cX7_firstLike 70 = .ok (.iload 7, 2) := by decide +kernel
theorem dX7_firstLike_72 : decode cX7_firstLike 72 = .ok (.invokevirtual 182, 3) := by decide +kernel
theorem dX7_firstLike_75 : decode cX7_firstLike 75 = .ok (.lload 4, 2) := by decide +kernel
theorem dX7_firstLike_77 : decode cX7_firstLike 77 = .ok (.lcmp, 1) := by decide +kernel
theorem dX7_firstLike_78 : decode cX7_firstLike 78 = .ok (.ifCond .ne 6, 3) := by decide +kernel
theorem dX7_firstLike_81 : decode cX7_firstLike 81 = .ok (.iload 6, 2) := by decide +kernel
theorem dX7_firstLike_83 : decode cX7_firstLike 83 = .ok (.ireturn, 1) := by decide +kernel
theorem dX7_firstLike_84 : decode cX7_firstLike 84 = .ok (.iinc 6 1, 3) := by decide +kernel
theorem dX7_firstLike_87 : decode cX7_firstLike 87 = .ok (.goto (-54), 3) := by decide +kernel
theorem dX7_firstLike_90 : decode cX7_firstLike 90 = .ok (.iload_n 1, 1) := by decide +kernel
theorem dX7_firstLike_91 : decode cX7_firstLike 91 = .ok (.ireturn, 1) := by decide +kernel
theorem dX7_cutsOf_0 : decode cX7_cutsOf 0 = .ok (.aload_n 0, 1) := by decide +kernel
theorem dX7_cutsOf_1 : decode cX7_cutsOf 1 = .ok (.getfield 53, 3) := by decide +kernel
theorem dX7_cutsOf_4 : decode cX7_cutsOf 4 = .ok (.getfield 293, 3) := by decide +kernel
theorem dX7_cutsOf_7 : decode cX7_cutsOf 7 = .ok (.ifCond .ne 6, 3) := by decide +kernel
theorem dX7_cutsOf_10 : decode cX7_cutsOf 10 = .ok (.bipush (-4), 2) := by decide +kernel
theorem dX7_cutsOf_12 : decode cX7_cutsOf 12 = .ok (.ireturn, 1) := by decide +kernel
theorem dX7_cutsOf_13 : decode cX7_cutsOf 13 = .ok (.iconst 0, 1) := by decide +kernel
theorem dX7_cutsOf_14 : decode cX7_cutsOf 14 = .ok (.istore 4, 2) := by decide +kernel
theorem dX7_cutsOf_16 : decode cX7_cutsOf 16 = .ok (.iconst 0, 1) := by decide +kernel
theorem dX7_cutsOf_17 : decode cX7_cutsOf 17 = .ok (.istore 5, 2) := by decide +kernel
theorem dX7_cutsOf_19 : decode cX7_cutsOf 19 = .ok (.iconst 0, 1) := by decide +kernel
theorem dX7_cutsOf_20 : decode cX7_cutsOf 20 = .ok (.istore 6, 2) := by decide +kernel
theorem dX7_cutsOf_22 : decode cX7_cutsOf 22 = .ok (.iload 6, 2) := by decide +kernel
theorem dX7_cutsOf_24 : decode cX7_cutsOf 24 = .ok (.iload_n 3, 1) := by decide +kernel
theorem dX7_cutsOf_25 : decode cX7_cutsOf 25 = .ok (.if_icmp .ge 71, 3) := by decide +kernel
theorem dX7_cutsOf_28 : decode cX7_cutsOf 28 = .ok (.iload 5, 2) := by decide +kernel
theorem dX7_cutsOf_30 : decode cX7_cutsOf 30 = .ok (.aload_n 1, 1) := by decide +kernel
theorem dX7_cutsOf_31 : decode cX7_cutsOf 31 = .ok (.getfield 277, 3) := by decide +kernel
theorem dX7_cutsOf_34 : decode cX7_cutsOf 34 = .ok (.iload_n 2, 1) := by decide +kernel
theorem dX7_cutsOf_35 : decode cX7_cutsOf 35 = .ok (.iload 6, 2) := by decide +kernel
theorem dX7_cutsOf_37 : decode cX7_cutsOf 37 = .ok (.iadd, 1) := by decide +kernel
theorem dX7_cutsOf_38 : decode cX7_cutsOf 38 = .ok (.laload, 1) := by decide +kernel
theorem dX7_cutsOf_39 : decode cX7_cutsOf 39 = .ok (.l2i, 1) := by decide +kernel
theorem dX7_cutsOf_40 : decode cX7_cutsOf 40 = .ok (.iadd, 1) := by decide +kernel
theorem dX7_cutsOf_41 : decode cX7_cutsOf 41 = .ok (.istore 7, 2) := by decide +kernel
theorem dX7_cutsOf_43 : decode cX7_cutsOf 43 = .ok (.aload_n 0, 1) := by decide +kernel
theorem dX7_cutsOf_44 : decode cX7_cutsOf 44 = .ok (.getfield 53, 3) := by decide +kernel
theorem dX7_cutsOf_47 : decode cX7_cutsOf 47 = .ok (.aload_n 0, 1) := by decide +kernel
theorem dX7_cutsOf_48 : decode cX7_cutsOf 48 = .ok (.getfield 10, 3) := by decide +kernel
theorem dX7_cutsOf_51 : decode cX7_cutsOf 51 = .ok (.iload 5, 2) := by decide +kernel
theorem dX7_cutsOf_53 : decode cX7_cutsOf 53 = .ok (.iload 7, 2) := by decide +kernel
theorem dX7_cutsOf_55 : decode cX7_cutsOf 55 = .ok (.invokevirtual 296, 3) := by decide +kernel
theorem dX7_cutsOf_58 : decode cX7_cutsOf 58 = .ok (.ifCond .ne 6, 3) := by decide +kernel
theorem dX7_cutsOf_61 : decode cX7_cutsOf 61 = .ok (.bipush (-4), 2) := by decide +kernel
theorem dX7_cutsOf_63 : decode cX7_cutsOf 63 = .ok (.ireturn, 1) := by decide +kernel
theorem dX7_cutsOf_64 : decode cX7_cutsOf 64 = .ok (.iload 4, 2) := by decide +kernel
theorem dX7_cutsOf_66 : decode cX7_cutsOf 66 = .ok (.aload_n 0, 1) := by decide +kernel
theorem dX7_cutsOf_67 : decode cX7_cutsOf 67 = .ok (.getfield 10, 3) := by decide +kernel
theorem dX7_cutsOf_70 : decode cX7_cutsOf 70 = .ok (.iload 7, 2) := by decide +kernel
theorem dX7_cutsOf_72 : decode cX7_cutsOf 72 = .ok (.invokevirtual 300, 3) := by decide +kernel
theorem dX7_cutsOf_75 : decode cX7_cutsOf 75 = .ok (.ifCond .eq 7, 3) := by decide +kernel
theorem dX7_cutsOf_78 : decode cX7_cutsOf 78 = .ok (.iconst 1, 1) := by decide +kernel
theorem dX7_cutsOf_79 : decode cX7_cutsOf 79 = .ok (.goto 4, 3) := by decide +kernel
theorem dX7_cutsOf_82 : decode cX7_cutsOf 82 = .ok (.iconst 0, 1) := by decide +kernel
theorem dX7_cutsOf_83 : decode cX7_cutsOf 83 = .ok (.iadd, 1) := by decide +kernel
theorem dX7_cutsOf_84 : decode cX7_cutsOf 84 = .ok (.istore 4, 2) := by decide +kernel
theorem dX7_cutsOf_86 : decode cX7_cutsOf 86 = .ok (.iload 7, 2) := by decide +kernel
theorem dX7_cutsOf_88 : decode cX7_cutsOf 88 = .ok (.istore 5, 2) := by decide +kernel
theorem dX7_cutsOf_90 : decode cX7_cutsOf 90 = .ok (.iinc 6 1, 3) := by decide +kernel
theorem dX7_cutsOf_93 : decode cX7_cutsOf 93 = .ok (.goto (-71), 3) := by decide +kernel
theorem dX7_cutsOf_96 : decode cX7_cutsOf 96 = .ok (.iload 4, 2) := by decide +kernel
theorem dX7_cutsOf_98 : decode cX7_cutsOf 98 = .ok (.ireturn, 1) := by decide +kernel
theorem dX7_isSheet_0 : decode cX7_isSheet 0 = .ok (.iload_n 0, 1) := by decide +kernel
theorem dX7_isSheet_1 : decode cX7_isSheet 1 = .ok (.ifCond .lt 12, 3) := by decide +kernel
theorem dX7_isSheet_4 : decode cX7_isSheet 4 = .ok (.iload_n 0, 1) := by decide +kernel
theorem dX7_isSheet_5 : decode cX7_isSheet 5 = .ok (.iconst 4, 1) := by decide +kernel
theorem dX7_isSheet_6 : decode cX7_isSheet 6 = .ok (.if_icmp .ge 7, 3) := by decide +kernel
theorem dX7_isSheet_9 : decode cX7_isSheet 9 = .ok (.iconst 1, 1) := by decide +kernel
theorem dX7_isSheet_10 : decode cX7_isSheet 10 = .ok (.goto 4, 3) := by decide +kernel
theorem dX7_isSheet_13 : decode cX7_isSheet 13 = .ok (.iconst 0, 1) := by decide +kernel
theorem dX7_isSheet_14 : decode cX7_isSheet 14 = .ok (.ireturn, 1) := by decide +kernel
theorem dX7_isLane_0 : decode cX7_isLane 0 = .ok (.iload_n 0, 1) := by decide +kernel
theorem dX7_isLane_1 : decode cX7_isLane 1 = .ok (.ifCond .lt 12, 3) := by decide +kernel
theorem dX7_isLane_4 : decode cX7_isLane 4 = .ok (.iload_n 0, 1) := by decide +kernel
theorem dX7_isLane_5 : decode cX7_isLane 5 = .ok (.iconst 4, 1) := by decide +kernel
theorem dX7_isLane_6 : decode cX7_isLane 6 = .ok (.if_icmp .ge 7, 3) := by decide +kernel
theorem dX7_isLane_9 : decode cX7_isLane 9 = .ok (.iconst 1, 1) := by decide +kernel
theorem dX7_isLane_10 : decode cX7_isLane 10 = .ok (.goto 4, 3) := by decide +kernel
theorem dX7_isLane_13 : decode cX7_isLane 13 = .ok (.iconst 0, 1) := by decide +kernel
theorem dX7_isLane_14 : decode cX7_isLane 14 = .ok (.ireturn, 1) := by decide +kernel
theorem dX7_errorOf_0 : decode cX7_errorOf 0 = .ok (.iload_n 1, 1) := by decide +kernel
theorem dX7_errorOf_1 : decode cX7_errorOf 1 = .ok (.invokestatic 256, 3) := by decide +kernel
theorem dX7_errorOf_4 : decode cX7_errorOf 4 = .ok (.ifCond .eq 10, 3) := by decide +kernel
theorem dX7_errorOf_7 : decode cX7_errorOf 7 = .ok (.iload_n 2, 1) := by decide +kernel
theorem dX7_errorOf_8 : decode cX7_errorOf 8 = .ok (.invokestatic 259, 3) := by decide +kernel
theorem dX7_errorOf_11 : decode cX7_errorOf 11 = .ok (.ifCond .ne 5, 3) := by decide +kernel
theorem dX7_errorOf_14 : decode cX7_errorOf 14 = .ok (.iconst (-1), 1) := by decide +kernel
theorem dX7_errorOf_15 : decode cX7_errorOf 15 = .ok (.ireturn, 1) := by decide +kernel
theorem dX7_errorOf_16 : decode cX7_errorOf 16 = .ok (.aload_n 0, 1) := by decide +kernel
theorem dX7_errorOf_17 : decode cX7_errorOf 17 = .ok (.getfield 66, 3) := by decide +kernel
theorem dX7_errorOf_20 : decode cX7_errorOf 20 = .ok (.iload_n 1, 1) := by decide +kernel
theorem dX7_errorOf_21 : decode cX7_errorOf 21 = .ok (.aaload, 1) := by decide +kernel
theorem dX7_errorOf_22 : decode cX7_errorOf 22 = .ok (.getfield 266, 3) := by decide +kernel
theorem dX7_errorOf_25 : decode cX7_errorOf 25 = .ok (.ifCond .eq 6, 3) := by decide +kernel
theorem dX7_errorOf_28 : decode cX7_errorOf 28 = .ok (.bipush (-11), 2) := by decide +kernel
theorem dX7_errorOf_30 : decode cX7_errorOf 30 = .ok (.ireturn, 1) := by decide +kernel
theorem dX7_errorOf_31 : decode cX7_errorOf 31 = .ok (.aload_n 0, 1) := by decide +kernel
theorem dX7_errorOf_32 : decode cX7_errorOf 32 = .ok (.getfield 66, 3) := by decide +kernel
theorem dX7_errorOf_35 : decode cX7_errorOf 35 = .ok (.iload_n 1, 1) := by decide +kernel
theorem dX7_errorOf_36 : decode cX7_errorOf 36 = .ok (.aaload, 1) := by decide +kernel
theorem dX7_errorOf_37 : decode cX7_errorOf 37 = .ok (.getfield 270, 3) := by decide +kernel
theorem dX7_errorOf_40 : decode cX7_errorOf 40 = .ok (.iload_n 2, 1) := by decide +kernel
theorem dX7_errorOf_41 : decode cX7_errorOf 41 = .ok (.if_icmp .eq 6, 3) := by decide +kernel
theorem dX7_errorOf_44 : decode cX7_errorOf 44 = .ok (.bipush (-12), 2) := by decide +kernel
theorem dX7_errorOf_46 : decode cX7_errorOf 46 = .ok (.ireturn, 1) := by decide +kernel
theorem dX7_errorOf_47 : decode cX7_errorOf 47 = .ok (.aload_n 0, 1) := by decide +kernel
theorem dX7_errorOf_48 : decode cX7_errorOf 48 = .ok (.getfield 66, 3) := by decide +kernel
theorem dX7_errorOf_51 : decode cX7_errorOf 51 = .ok (.iload_n 1, 1) := by decide +kernel
theorem dX7_errorOf_52 : decode cX7_errorOf 52 = .ok (.aaload, 1) := by decide +kernel
theorem dX7_errorOf_53 : decode cX7_errorOf 53 = .ok (.iload_n 3, 1) := by decide +kernel
theorem dX7_errorOf_54 : decode cX7_errorOf 54 = .ok (.iload 4, 2) := by decide +kernel
theorem dX7_errorOf_56 : decode cX7_errorOf 56 = .ok (.invokevirtual 273, 3) := by decide +kernel
theorem dX7_errorOf_59 : decode cX7_errorOf 59 = .ok (.ifCond .eq 7, 3) := by decide +kernel
theorem dX7_errorOf_62 : decode cX7_errorOf 62 = .ok (.iconst 0, 1) := by decide +kernel
theorem dX7_errorOf_63 : decode cX7_errorOf 63 = .ok (.goto 5, 3) := by decide +kernel
theorem dX7_errorOf_66 : decode cX7_errorOf 66 = .ok (.bipush (-13), 2) := by decide +kernel
theorem dX7_errorOf_68 : decode cX7_errorOf 68 = .ok (.ireturn, 1) := by decide +kernel
theorem dJ6_bitCount_0f7a4_0 : decode cJ6_bitCount_0f7a4 0 = .ok (.iload_n 0, 1) := by decide +kernel
theorem dJ6_bitCount_0f7a4_1 : decode cJ6_bitCount_0f7a4 1 = .ok (.iload_n 0, 1) := by decide +kernel
theorem dJ6_bitCount_0f7a4_2 : decode cJ6_bitCount_0f7a4 2 = .ok (.iconst 1, 1) := by decide +kernel
theorem dJ6_bitCount_0f7a4_3 : decode cJ6_bitCount_0f7a4 3 = .ok (.iushr, 1) := by decide +kernel
theorem dJ6_bitCount_0f7a4_4 : decode cJ6_bitCount_0f7a4 4 = .ok (.ldc_w 265, 3) := by decide +kernel
theorem dJ6_bitCount_0f7a4_7 : decode cJ6_bitCount_0f7a4 7 = .ok (.iand, 1) := by decide +kernel
theorem dJ6_bitCount_0f7a4_8 : decode cJ6_bitCount_0f7a4 8 = .ok (.isub, 1) := by decide +kernel
theorem dJ6_bitCount_0f7a4_9 : decode cJ6_bitCount_0f7a4 9 = .ok (.istore_n 0, 1) := by decide +kernel
theorem dJ6_bitCount_0f7a4_10 : decode cJ6_bitCount_0f7a4 10 = .ok (.iload_n 0, 1) := by decide +kernel
theorem dJ6_bitCount_0f7a4_11 : decode cJ6_bitCount_0f7a4 11 = .ok (.ldc_w 266, 3) := by decide +kernel
theorem dJ6_bitCount_0f7a4_14 : decode cJ6_bitCount_0f7a4 14 = .ok (.iand, 1) := by decide +kernel
theorem dJ6_bitCount_0f7a4_15 : decode cJ6_bitCount_0f7a4 15 = .ok (.iload_n 0, 1) := by decide +kernel
theorem dJ6_bitCount_0f7a4_16 : decode cJ6_bitCount_0f7a4 16 = .ok (.iconst 2, 1) := by decide +kernel
theorem dJ6_bitCount_0f7a4_17 : decode cJ6_bitCount_0f7a4 17 = .ok (.iushr, 1) := by decide +kernel
theorem dJ6_bitCount_0f7a4_18 : decode cJ6_bitCount_0f7a4 18 = .ok (.ldc_w 266, 3) := by decide +kernel
theorem dJ6_bitCount_0f7a4_21 : decode cJ6_bitCount_0f7a4 21 = .ok (.iand, 1) := by decide +kernel
theorem dJ6_bitCount_0f7a4_22 : decode cJ6_bitCount_0f7a4 22 = .ok (.iadd, 1) := by decide +kernel
theorem dJ6_bitCount_0f7a4_23 : decode cJ6_bitCount_0f7a4 23 = .ok (.istore_n 0, 1) := by decide +kernel
theorem dJ6_bitCount_0f7a4_24 : decode cJ6_bitCount_0f7a4 24 = .ok (.iload_n 0, 1) := by decide +kernel
theorem dJ6_bitCount_0f7a4_25 : decode cJ6_bitCount_0f7a4 25 = .ok (.iload_n 0, 1) := by decide +kernel
theorem dJ6_bitCount_0f7a4_26 : decode cJ6_bitCount_0f7a4 26 = .ok (.iconst 4, 1) := by decide +kernel
theorem dJ6_bitCount_0f7a4_27 : decode cJ6_bitCount_0f7a4 27 = .ok (.iushr, 1) := by decide +kernel
theorem dJ6_bitCount_0f7a4_28 : decode cJ6_bitCount_0f7a4 28 = .ok (.iadd, 1) := by decide +kernel
theorem dJ6_bitCount_0f7a4_29 : decode cJ6_bitCount_0f7a4 29 = .ok (.ldc_w 267, 3) := by decide +kernel
theorem dJ6_bitCount_0f7a4_32 : decode cJ6_bitCount_0f7a4 32 = .ok (.iand, 1) := by decide +kernel
theorem dJ6_bitCount_0f7a4_33 : decode cJ6_bitCount_0f7a4 33 = .ok (.istore_n 0, 1) := by decide +kernel
theorem dJ6_bitCount_0f7a4_34 : decode cJ6_bitCount_0f7a4 34 = .ok (.iload_n 0, 1) := by decide +kernel
theorem dJ6_bitCount_0f7a4_35 : decode cJ6_bitCount_0f7a4 35 = .ok (.iload_n 0, 1) := by decide +kernel
theorem dJ6_bitCount_0f7a4_36 : decode cJ6_bitCount_0f7a4 36 = .ok (.bipush 8, 2) := by decide +kernel
theorem dJ6_bitCount_0f7a4_38 : decode cJ6_bitCount_0f7a4 38 = .ok (.iushr, 1) := by decide +kernel
theorem dJ6_bitCount_0f7a4_39 : decode cJ6_bitCount_0f7a4 39 = .ok (.iadd, 1) := by decide +kernel
theorem dJ6_bitCount_0f7a4_40 : decode cJ6_bitCount_0f7a4 40 = .ok (.istore_n 0, 1) := by decide +kernel
theorem dJ6_bitCount_0f7a4_41 : decode cJ6_bitCount_0f7a4 41 = .ok (.iload_n 0, 1) := by decide +kernel
theorem dJ6_bitCount_0f7a4_42 : decode cJ6_bitCount_0f7a4 42 = .ok (.iload_n 0, 1) := by decide +kernel
theorem dJ6_bitCount_0f7a4_43 : decode cJ6_bitCount_0f7a4 43 = .ok (.bipush 16, 2) := by decide +kernel
theorem dJ6_bitCount_0f7a4_45 : decode cJ6_bitCount_0f7a4 45 = .ok (.iushr, 1) := by decide +kernel
theorem dJ6_bitCount_0f7a4_46 : decode cJ6_bitCount_0f7a4 46 = .ok (.iadd, 1) := by decide +kernel
theorem dJ6_bitCount_0f7a4_47 : decode cJ6_bitCount_0f7a4 47 = .ok (.istore_n 0, 1) := by decide +kernel
theorem dJ6_bitCount_0f7a4_48 : decode cJ6_bitCount_0f7a4 48 = .ok (.iload_n 0, 1) := by decide +kernel
theorem dJ6_bitCount_0f7a4_49 : decode cJ6_bitCount_0f7a4 49 = .ok (.bipush 63, 2) := by decide +kernel
theorem dJ6_bitCount_0f7a4_51 : decode cJ6_bitCount_0f7a4 51 = .ok (.iand, 1) := by decide +kernel
theorem dJ6_bitCount_0f7a4_52 : decode cJ6_bitCount_0f7a4 52 = .ok (.ireturn, 1) := by decide +kernel
theorem dJ9_max_7cf53_0 : decode cJ9_max_7cf53 0 = .ok (.iload_n 0, 1) := by decide +kernel
theorem dJ9_max_7cf53_1 : decode cJ9_max_7cf53 1 = .ok (.iload_n 1, 1) := by decide +kernel
theorem dJ9_max_7cf53_2 : decode cJ9_max_7cf53 2 = .ok (.if_icmp .lt 7, 3) := by decide +kernel
theorem dJ9_max_7cf53_5 : decode cJ9_max_7cf53 5 = .ok (.iload_n 0, 1) := by decide +kernel
theorem dJ9_max_7cf53_6 : decode cJ9_max_7cf53 6 = .ok (.goto 4, 3) := by decide +kernel
theorem dJ9_max_7cf53_9 : decode cJ9_max_7cf53 9 = .ok (.iload_n 1, 1) := by decide +kernel
theorem dJ9_max_7cf53_10 : decode cJ9_max_7cf53 10 = .ok (.ireturn, 1) := by decide +kernel
theorem dJ9_min_7cf53_0 : decode cJ9_min_7cf53 0 = .ok (.iload_n 0, 1) := by decide +kernel
theorem dJ9_min_7cf53_1 : decode cJ9_min_7cf53 1 = .ok (.iload_n 1, 1) := by decide +kernel
theorem dJ9_min_7cf53_2 : decode cJ9_min_7cf53 2 = .ok (.if_icmp .gt 7, 3) := by decide +kernel
theorem dJ9_min_7cf53_5 : decode cJ9_min_7cf53 5 = .ok (.iload_n 0, 1) := by decide +kernel
theorem dJ9_min_7cf53_6 : decode cJ9_min_7cf53 6 = .ok (.goto 4, 3) := by decide +kernel
theorem dJ9_min_7cf53_9 : decode cJ9_min_7cf53 9 = .ok (.iload_n 1, 1) := by decide +kernel
theorem dJ9_min_7cf53_10 : decode cJ9_min_7cf53 10 = .ok (.ireturn, 1) := by decide +kernel
theorem dJ7_fill_d0a16_0 : decode cJ7_fill_d0a16 0 = .ok (.iconst 0, 1) := by decide +kernel
theorem dJ7_fill_d0a16_1 : decode cJ7_fill_d0a16 1 = .ok (.istore_n 3, 1) := by decide +kernel
theorem dJ7_fill_d0a16_2 : decode cJ7_fill_d0a16 2 = .ok (.aload_n 0, 1) := by decide +kernel
theorem dJ7_fill_d0a16_3 : decode cJ7_fill_d0a16 3 = .ok (.arraylength, 1) := by decide +kernel
theorem dJ7_fill_d0a16_4 : decode cJ7_fill_d0a16 4 = .ok (.istore 4, 2) := by decide +kernel
theorem dJ7_fill_d0a16_6 : decode cJ7_fill_d0a16 6 = .ok (.iload_n 3, 1) := by decide +kernel
theorem dJ7_fill_d0a16_7 : decode cJ7_fill_d0a16 7 = .ok (.iload 4, 2) := by decide +kernel
theorem dJ7_fill_d0a16_9 : decode cJ7_fill_d0a16 9 = .ok (.if_icmp .ge 13, 3) := by decide +kernel
theorem dJ7_fill_d0a16_12 : decode cJ7_fill_d0a16 12 = .ok (.aload_n 0, 1) := by decide +kernel
theorem dJ7_fill_d0a16_13 : decode cJ7_fill_d0a16 13 = .ok (.iload_n 3, 1) := by decide +kernel
theorem dJ7_fill_d0a16_14 : decode cJ7_fill_d0a16 14 = .ok (.lload_n 1, 1) := by decide +kernel
theorem dJ7_fill_d0a16_15 : decode cJ7_fill_d0a16 15 = .ok (.lastore, 1) := by decide +kernel
theorem dJ7_fill_d0a16_16 : decode cJ7_fill_d0a16 16 = .ok (.iinc 3 1, 3) := by decide +kernel
theorem dJ7_fill_d0a16_19 : decode cJ7_fill_d0a16 19 = .ok (.goto (-13), 3) := by decide +kernel
theorem dJ7_fill_d0a16_22 : decode cJ7_fill_d0a16 22 = .ok (.return_, 1) := by decide +kernel
