theorem dX4_init_0 : decode cX4_init 0 = .ok (.aload_n 0, 1) := by decide +kernel
theorem dX4_init_1 : decode cX4_init 1 = .ok (.invokespecial 5, 3) := by decide +kernel
theorem dX4_init_4 : decode cX4_init 4 = .ok (.aload_n 0, 1) := by decide +kernel
theorem dX4_init_5 : decode cX4_init 5 = .ok (.bipush 117, 2) := by decide +kernel
theorem dX4_init_7 : decode cX4_init 7 = .ok (.newarray .int, 2) := by decide +kernel
theorem dX4_init_9 : decode cX4_init 9 = .ok (.putfield 11, 3) := by decide +kernel
theorem dX4_init_12 : decode cX4_init 12 = .ok (.iconst 0, 1) := by decide +kernel
theorem dX4_init_13 : decode cX4_init 13 = .ok (.istore_n 1, 1) := by decide +kernel
theorem dX4_init_14 : decode cX4_init 14 = .ok (.iload_n 1, 1) := by decide +kernel
theorem dX4_init_15 : decode cX4_init 15 = .ok (.bipush 7, 2) := by decide +kernel
theorem dX4_init_17 : decode cX4_init 17 = .ok (.if_icmp .ge 20, 3) := by decide +kernel
theorem dX4_init_20 : decode cX4_init 20 = .ok (.aload_n 0, 1) := by decide +kernel
theorem dX4_init_21 : decode cX4_init 21 = .ok (.getfield 11, 3) := by decide +kernel
theorem dX4_init_24 : decode cX4_init 24 = .ok (.iload_n 1, 1) := by decide +kernel
theorem dX4_init_25 : decode cX4_init 25 = .ok (.getstatic 15, 3) := by decide +kernel
theorem dX4_init_28 : decode cX4_init 28 = .ok (.iload_n 1, 1) := by decide +kernel
theorem dX4_init_29 : decode cX4_init 29 = .ok (.iaload, 1) := by decide +kernel
theorem dX4_init_30 : decode cX4_init 30 = .ok (.iastore, 1) := by decide +kernel
theorem dX4_init_31 : decode cX4_init 31 = .ok (.iinc 1 1, 3) := by decide +kernel
theorem dX4_init_34 : decode cX4_init 34 = .ok (.goto (-20), 3) := by decide +kernel
theorem dX4_init_37 : decode cX4_init 37 = .ok (.aload_n 0, 1) := by decide +kernel
theorem dX4_init_38 : decode cX4_init 38 = .ok (.getfield 11, 3) := by decide +kernel
theorem dX4_init_41 : decode cX4_init 41 = .ok (.bipush 7, 2) := by decide +kernel
theorem dX4_init_43 : decode cX4_init 43 = .ok (.iconst 1, 1) := by decide +kernel
theorem dX4_init_44 : decode cX4_init 44 = .ok (.iastore, 1) := by decide +kernel
theorem dX4_init_45 : decode cX4_init 45 = .ok (.return_, 1) := by decide +kernel
theorem dX4_takeOver_0 : decode cX4_takeOver 0 = .ok (.aload_n 1, 1) := by decide +kernel
theorem dX4_takeOver_1 : decode cX4_takeOver 1 = .ok (.getfield 11, 3) := by decide +kernel
theorem dX4_takeOver_4 : decode cX4_takeOver 4 = .ok (.iconst 0, 1) := by decide +kernel
theorem dX4_takeOver_5 : decode cX4_takeOver 5 = .ok (.aload_n 0, 1) := by decide +kernel
theorem dX4_takeOver_6 : decode cX4_takeOver 6 = .ok (.getfield 11, 3) := by decide +kernel
theorem dX4_takeOver_9 : decode cX4_takeOver 9 = .ok (.iconst 0, 1) := by decide +kernel
theorem dX4_takeOver_10 : decode cX4_takeOver 10 = .ok (.bipush 117, 2) := by decide +kernel
theorem dX4_takeOver_12 : decode cX4_takeOver 12 = .ok (.invokestatic 18, 3) := by decide +kernel
theorem dX4_takeOver_15 : decode cX4_takeOver 15 = .ok (.return_, 1) := by decide +kernel
theorem dX4_takeLines_0 : decode cX4_takeLines 0 = .ok (.aload_n 1, 1) := by decide +kernel
theorem dX4_takeLines_1 : decode cX4_takeLines 1 = .ok (.getfield 11, 3) := by decide +kernel
theorem dX4_takeLines_4 : decode cX4_takeLines 4 = .ok (.bipush 8, 2) := by decide +kernel
theorem dX4_takeLines_6 : decode cX4_takeLines 6 = .ok (.aload_n 0, 1) := by decide +kernel
theorem dX4_takeLines_7 : decode cX4_takeLines 7 = .ok (.getfield 11, 3) := by decide +kernel
theorem dX4_takeLines_10 : decode cX4_takeLines 10 = .ok (.bipush 8, 2) := by decide +kernel
theorem dX4_takeLines_12 : decode cX4_takeLines 12 = .ok (.bipush 109, 2) := by decide +kernel
theorem dX4_takeLines_14 : decode cX4_takeLines 14 = .ok (.invokestatic 18, 3) := by decide +kernel
theorem dX4_takeLines_17 : decode cX4_takeLines 17 = .ok (.return_, 1) := by decide +kernel
theorem dX4_removeAllLines_0 : decode cX4_removeAllLines 0 = .ok (.aload_n 0, 1) := by decide +kernel
theorem dX4_removeAllLines_1 : decode cX4_removeAllLines 1 = .ok (.getfield 11, 3) := by decide +kernel
theorem dX4_removeAllLines_4 : decode cX4_removeAllLines 4 = .ok (.bipush 8, 2) := by decide +kernel
theorem dX4_removeAllLines_6 : decode cX4_removeAllLines 6 = .ok (.iconst 0, 1) := by decide +kernel
theorem dX4_removeAllLines_7 : decode cX4_removeAllLines 7 = .ok (.iastore, 1) := by decide +kernel
theorem dX4_removeAllLines_8 : decode cX4_removeAllLines 8 = .ok (.return_, 1) := by decide +kernel
theorem dX4_addLine_0 : decode cX4_addLine 0 = .ok (.iload_n 1, 1) := by decide +kernel
theorem dX4_addLine_1 : decode cX4_addLine 1 = .ok (.invokestatic 24, 3) := by decide +kernel
theorem dX4_addLine_4 : decode cX4_addLine 4 = .ok (.ifCond .eq 12, 3) := by decide +kernel
theorem dX4_addLine_7 : decode cX4_addLine 7 = .ok (.iload_n 2, 1) := by decide +kernel
theorem dX4_addLine_8 : decode cX4_addLine 8 = .ok (.ifCond .lt 8, 3) := by decide +kernel
theorem dX4_addLine_11 : decode cX4_addLine 11 = .ok (.iload_n 2, 1) := by decide +kernel
theorem dX4_addLine_12 : decode cX4_addLine 12 = .ok (.iconst 1, 1) := by decide +kernel
theorem dX4_addLine_13 : decode cX4_addLine 13 = .ok (.if_icmp .le 5, 3) := by decide +kernel
theorem dX4_addLine_16 : decode cX4_addLine 16 = .ok (.iconst (-1), 1) := by decide +kernel
theorem dX4_addLine_17 : decode cX4_addLine 17 = .ok (.ireturn, 1) := by decide +kernel
theorem dX4_addLine_18 : decode cX4_addLine 18 = .ok (.aload_n 0, 1) := by decide +kernel
theorem dX4_addLine_19 : decode cX4_addLine 19 = .ok (.invokevirtual 28, 3) := by decide +kernel
theorem dX4_addLine_22 : decode cX4_addLine 22 = .ok (.istore_n 3, 1) := by decide +kernel
theorem dX4_addLine_23 : decode cX4_addLine 23 = .ok (.iload_n 3, 1) := by decide +kernel
theorem dX4_addLine_24 : decode cX4_addLine 24 = .ok (.bipush 12, 2) := by decide +kernel
theorem dX4_addLine_26 : decode cX4_addLine 26 = .ok (.if_icmp .lt 6, 3) := by decide +kernel
theorem dX4_addLine_29 : decode cX4_addLine 29 = .ok (.bipush (-3), 2) := by decide +kernel
theorem dX4_addLine_31 : decode cX4_addLine 31 = .ok (.ireturn, 1) := by decide +kernel
theorem dX4_addLine_32 : decode cX4_addLine 32 = .ok (.aload_n 0, 1) := by decide +kernel
theorem dX4_addLine_33 : decode cX4_addLine 33 = .ok (.getfield 11, 3) := by decide +kernel
theorem dX4_addLine_36 : decode cX4_addLine 36 = .ok (.bipush 9, 2) := by decide +kernel
theorem dX4_addLine_38 : decode cX4_addLine 38 = .ok (.iload_n 3, 1) := by decide +kernel
theorem dX4_addLine_39 : decode cX4_addLine 39 = .ok (.iadd, 1) := by decide +kernel
theorem dX4_addLine_40 : decode cX4_addLine 40 = .ok (.iload_n 1, 1) := by decide +kernel
theorem dX4_addLine_41 : decode cX4_addLine 41 = .ok (.iastore, 1) := by decide +kernel
theorem dX4_addLine_42 : decode cX4_addLine 42 = .ok (.aload_n 0, 1) := by decide +kernel
theorem dX4_addLine_43 : decode cX4_addLine 43 = .ok (.getfield 11, 3) := by decide +kernel
theorem dX4_addLine_46 : decode cX4_addLine 46 = .ok (.bipush 21, 2) := by decide +kernel
theorem dX4_addLine_48 : decode cX4_addLine 48 = .ok (.iload_n 3, 1) := by decide +kernel
theorem dX4_addLine_49 : decode cX4_addLine 49 = .ok (.iadd, 1) := by decide +kernel
theorem dX4_addLine_50 : decode cX4_addLine 50 = .ok (.iload_n 3, 1) := by decide +kernel
theorem dX4_addLine_51 : decode cX4_addLine 51 = .ok (.ifCond .ne 7, 3) := by decide +kernel
theorem dX4_addLine_54 : decode cX4_addLine 54 = .ok (.iconst 1, 1) := by decide +kernel
theorem dX4_addLine_55 : decode cX4_addLine 55 = .ok (.goto 4, 3) := by decide +kernel
theorem dX4_addLine_58 : decode cX4_addLine 58 = .ok (.iload_n 2, 1) := by decide +kernel
theorem dX4_addLine_59 : decode cX4_addLine 59 = .ok (.iastore, 1) := by decide +kernel
theorem dX4_addLine_60 : decode cX4_addLine 60 = .ok (.aload_n 0, 1) := by decide +kernel
theorem dX4_addLine_61 : decode cX4_addLine 61 = .ok (.getfield 11, 3) := by decide +kernel
theorem dX4_addLine_64 : decode cX4_addLine 64 = .ok (.bipush 33, 2) := by decide +kernel
theorem dX4_addLine_66 : decode cX4_addLine 66 = .ok (.iload_n 3, 1) := by decide +kernel
theorem dX4_addLine_67 : decode cX4_addLine 67 = .ok (.iadd, 1) := by decide +kernel
theorem dX4_addLine_68 : decode cX4_addLine 68 = .ok (.iconst 0, 1) := by decide +kernel
theorem dX4_addLine_69 : decode cX4_addLine 69 = .ok (.iastore, 1) := by decide +kernel
theorem dX4_addLine_70 : decode cX4_addLine 70 = .ok (.aload_n 0, 1) := by decide +kernel
theorem dX4_addLine_71 : decode cX4_addLine 71 = .ok (.getfield 11, 3) := by decide +kernel
theorem dX4_addLine_74 : decode cX4_addLine 74 = .ok (.bipush 8, 2) := by decide +kernel
theorem dX4_addLine_76 : decode cX4_addLine 76 = .ok (.iload_n 3, 1) := by decide +kernel
theorem dX4_addLine_77 : decode cX4_addLine 77 = .ok (.iconst 1, 1) := by decide +kernel
theorem dX4_addLine_78 : decode cX4_addLine 78 = .ok (.iadd, 1) := by decide +kernel
theorem dX4_addLine_79 : decode cX4_addLine 79 = .ok (.iastore, 1) := by decide +kernel
theorem dX4_addLine_80 : decode cX4_addLine 80 = .ok (.iload_n 3, 1) := by decide +kernel
theorem dX4_addLine_81 : decode cX4_addLine 81 = .ok (.ireturn, 1) := by decide +kernel
theorem dX4_addWord_0 : decode cX4_addWord 0 = .ok (.iload_n 1, 1) := by decide +kernel
theorem dX4_addWord_1 : decode cX4_addWord 1 = .ok (.iconst 1, 1) := by decide +kernel
theorem dX4_addWord_2 : decode cX4_addWord 2 = .ok (.if_icmp .lt 18, 3) := by decide +kernel
theorem dX4_addWord_5 : decode cX4_addWord 5 = .ok (.iload_n 1, 1) := by decide +kernel
theorem dX4_addWord_6 : decode cX4_addWord 6 = .ok (.bipush 9, 2) := by decide +kernel
theorem dX4_addWord_8 : decode cX4_addWord 8 = .ok (.if_icmp .gt 12, 3) := by decide +kernel
theorem dX4_addWord_11 : decode cX4_addWord 11 = .ok (.iload_n 2, 1) := by decide +kernel
theorem dX4_addWord_12 : decode cX4_addWord 12 = .ok (.ifCond .lt 8, 3) := by decide +kernel
theorem dX4_addWord_15 : decode cX4_addWord 15 = .ok (.iload_n 2, 1) := by decide +kernel
theorem dX4_addWord_16 : decode cX4_addWord 16 = .ok (.iconst 4, 1) := by decide +kernel
theorem dX4_addWord_17 : decode cX4_addWord 17 = .ok (.if_icmp .lt 5, 3) := by decide +kernel
theorem dX4_addWord_20 : decode cX4_addWord 20 = .ok (.iconst (-1), 1) := by decide +kernel
theorem dX4_addWord_21 : decode cX4_addWord 21 = .ok (.ireturn, 1) := by decide +kernel
theorem dX4_addWord_22 : decode cX4_addWord 22 = .ok (.aload_n 0, 1) := by decide +kernel
theorem dX4_addWord_23 : decode cX4_addWord 23 = .ok (.invokevirtual 28, 3) := by decide +kernel
theorem dX4_addWord_26 : decode cX4_addWord 26 = .ok (.iconst 1, 1) := by decide +kernel
theorem dX4_addWord_27 : decode cX4_addWord 27 = .ok (.isub, 1) := by decide +kernel
theorem dX4_addWord_28 : decode cX4_addWord 28 = .ok (.istore_n 3, 1) := by decide +kernel
theorem dX4_addWord_29 : decode cX4_addWord 29 = .ok (.iload_n 3, 1) := by decide +kernel
theorem dX4_addWord_30 : decode cX4_addWord 30 = .ok (.ifCond .ge 6, 3) := by decide +kernel
theorem dX4_addWord_33 : decode cX4_addWord 33 = .ok (.bipush (-4), 2) := by decide +kernel
theorem dX4_addWord_35 : decode cX4_addWord 35 = .ok (.ireturn, 1) := by decide +kernel
theorem dX4_addWord_36 : decode cX4_addWord 36 = .ok (.aload_n 0, 1) := by decide +kernel
theorem dX4_addWord_37 : decode cX4_addWord 37 = .ok (.iload_n 3, 1) := by decide +kernel
theorem dX4_addWord_38 : decode cX4_addWord 38 = .ok (.invokevirtual 32, 3) := by decide +kernel
theorem dX4_addWord_41 : decode cX4_addWord 41 = .ok (.istore 4, 2) := by decide +kernel
theorem dX4_addWord_43 : decode cX4_addWord 43 = .ok (.iload 4, 2) := by decide +kernel
theorem dX4_addWord_45 : decode cX4_addWord 45 = .ok (.bipush 6, 2) := by decide +kernel
theorem dX4_addWord_47 : decode cX4_addWord 47 = .ok (.if_icmp .lt 6, 3) := by decide +kernel
theorem dX4_addWord_50 : decode cX4_addWord 50 = .ok (.bipush (-3), 2) := by decide +kernel
theorem dX4_addWord_52 : decode cX4_addWord 52 = .ok (.ireturn, 1) := by decide +kernel
theorem dX4_addWord_53 : decode cX4_addWord 53 = .ok (.aload_n 0, 1) := by decide +kernel
theorem dX4_addWord_54 : decode cX4_addWord 54 = .ok (.getfield 11, 3) := by decide +kernel
theorem dX4_addWord_57 : decode cX4_addWord 57 = .ok (.bipush 45, 2) := by decide +kernel
theorem dX4_addWord_59 : decode cX4_addWord 59 = .ok (.iload_n 3, 1) := by decide +kernel
theorem dX4_addWord_60 : decode cX4_addWord 60 = .ok (.bipush 6, 2) := by decide +kernel
theorem dX4_addWord_62 : decode cX4_addWord 62 = .ok (.imul, 1) := by decide +kernel
theorem dX4_addWord_63 : decode cX4_addWord 63 = .ok (.iadd, 1) := by decide +kernel
theorem dX4_addWord_64 : decode cX4_addWord 64 = .ok (.iload 4, 2) := by decide +kernel
theorem dX4_addWord_66 : decode cX4_addWord 66 = .ok (.iadd, 1) := by decide +kernel
theorem dX4_addWord_67 : decode cX4_addWord 67 = .ok (.iload_n 1, 1) := by decide +kernel
theorem dX4_addWord_68 : decode cX4_addWord 68 = .ok (.iconst 4, 1) := by decide +kernel
theorem dX4_addWord_69 : decode cX4_addWord 69 = .ok (.imul, 1) := by decide +kernel
theorem dX4_addWord_70 : decode cX4_addWord 70 = .ok (.iload_n 2, 1) := by decide +kernel
theorem dX4_addWord_71 : decode cX4_addWord 71 = .ok (.iadd, 1) := by decide +kernel
theorem dX4_addWord_72 : decode cX4_addWord 72 = .ok (.iastore, 1) := by decide +kernel
theorem dX4_addWord_73 : decode cX4_addWord 73 = .ok (.aload_n 0, 1) := by decide +kernel
theorem dX4_addWord_74 : decode cX4_addWord 74 = .ok (.getfield 11, 3) := by decide +kernel
theorem dX4_addWord_77 : decode cX4_addWord 77 = .ok (.bipush 33, 2) := by decide +kernel
theorem dX4_addWord_79 : decode cX4_addWord 79 = .ok (.iload_n 3, 1) := by decide +kernel
theorem dX4_addWord_80 : decode cX4_addWord 80 = .ok (.iadd, 1) := by decide +kernel
theorem dX4_addWord_81 : decode cX4_addWord 81 = .ok (.iload 4, 2) := by decide +kernel
theorem dX4_addWord_83 : decode cX4_addWord 83 = .ok (.iconst 1, 1) := by decide +kernel
theorem dX4_addWord_84 : decode cX4_addWord 84 = .ok (.iadd, 1) := by decide +kernel
theorem dX4_addWord_85 : decode cX4_addWord 85 = .ok (.iastore, 1) := by decide +kernel
theorem dX4_addWord_86 : decode cX4_addWord 86 = .ok (.iload 4, 2) := by decide +kernel
theorem dX4_addWord_88 : decode cX4_addWord 88 = .ok (.iconst 1, 1) := by decide +kernel
theorem dX4_addWord_89 : decode cX4_addWord 89 = .ok (.iadd, 1) := by decide +kernel
theorem dX4_addWord_90 : decode cX4_addWord 90 = .ok (.ireturn, 1) := by decide +kernel
theorem dX4_setLastPause_0 : decode cX4_setLastPause 0 = .ok (.aload_n 0, 1) := by decide +kernel
theorem dX4_setLastPause_1 : decode cX4_setLastPause 1 = .ok (.invokevirtual 28, 3) := by decide +kernel
theorem dX4_setLastPause_4 : decode cX4_setLastPause 4 = .ok (.iconst 1, 1) := by decide +kernel
theorem dX4_setLastPause_5 : decode cX4_setLastPause 5 = .ok (.isub, 1) := by decide +kernel
theorem dX4_setLastPause_6 : decode cX4_setLastPause 6 = .ok (.istore_n 2, 1) := by decide +kernel
theorem dX4_setLastPause_7 : decode cX4_setLastPause 7 = .ok (.iload_n 2, 1) := by decide +kernel
theorem dX4_setLastPause_8 : decode cX4_setLastPause 8 = .ok (.ifCond .lt 11, 3) := by decide +kernel
theorem dX4_setLastPause_11 : decode cX4_setLastPause 11 = .ok (.aload_n 0, 1) := by decide +kernel
theorem dX4_setLastPause_12 : decode cX4_setLastPause 12 = .ok (.iload_n 2, 1) := by decide +kernel
theorem dX4_setLastPause_13 : decode cX4_setLastPause 13 = .ok (.invokevirtual 32, 3) := by decide +kernel
theorem dX4_setLastPause_16 : decode cX4_setLastPause 16 = .ok (.ifCond .ne 4, 3) := by decide +kernel
theorem dX4_setLastPause_19 : decode cX4_setLastPause 19 = .ok (.return_, 1) := by decide +kernel
theorem dX4_setLastPause_20 : decode cX4_setLastPause 20 = .ok (.aload_n 0, 1) := by decide +kernel
theorem dX4_setLastPause_21 : decode cX4_setLastPause 21 = .ok (.iload_n 2, 1) := by decide +kernel
theorem dX4_setLastPause_22 : decode cX4_setLastPause 22 = .ok (.invokevirtual 32, 3) := by decide +kernel
theorem dX4_setLastPause_25 : decode cX4_setLastPause 25 = .ok (.iconst 1, 1) := by decide +kernel
theorem dX4_setLastPause_26 : decode cX4_setLastPause 26 = .ok (.isub, 1) := by decide +kernel
theorem dX4_setLastPause_27 : decode cX4_setLastPause 27 = .ok (.istore_n 3, 1) := by decide +kernel
theorem dX4_setLastPause_28 : decode cX4_setLastPause 28 = .ok (.aload_n 0, 1) := by decide +kernel
theorem dX4_setLastPause_29 : decode cX4_setLastPause 29 = .ok (.getfield 11, 3) := by decide +kernel
theorem dX4_setLastPause_32 : decode cX4_setLastPause 32 = .ok (.bipush 45, 2) := by decide +kernel
theorem dX4_setLastPause_34 : decode cX4_setLastPause 34 = .ok (.iload_n 2, 1) := by decide +kernel
theorem dX4_setLastPause_35 : decode cX4_setLastPause 35 = .ok (.bipush 6, 2) := by decide +kernel
theorem dX4_setLastPause_37 : decode cX4_setLastPause 37 = .ok (.imul, 1) := by decide +kernel
theorem dX4_setLastPause_38 : decode cX4_setLastPause 38 = .ok (.iadd, 1) := by decide +kernel
theorem dX4_setLastPause_39 : decode cX4_setLastPause 39 = .ok (.iload_n 3, 1) := by decide +kernel
theorem dX4_setLastPause_40 : decode cX4_setLastPause 40 = .ok (.iadd, 1) := by decide +kernel
theorem dX4_setLastPause_41 : decode cX4_setLastPause 41 = .ok (.aload_n 0, 1) := by decide +kernel
theorem dX4_setLastPause_42 : decode cX4_setLastPause 42 = .ok (.iload_n 2, 1) := by decide +kernel
theorem dX4_setLastPause_43 : decode cX4_setLastPause 43 = .ok (.iload_n 3, 1) := by decide +kernel
theorem dX4_setLastPause_44 : decode cX4_setLastPause 44 = .ok (.invokevirtual 36, 3) := by decide +kernel
theorem dX4_setLastPause_47 : decode cX4_setLastPause 47 = .ok (.iconst 4, 1) := by decide +kernel
theorem dX4_setLastPause_48 : decode cX4_setLastPause 48 = .ok (.imul, 1) := by decide +kernel
theorem dX4_setLastPause_49 : decode cX4_setLastPause 49 = .ok (.iload_n 1, 1) := by decide +kernel
theorem dX4_setLastPause_50 : decode cX4_setLastPause 50 = .ok (.iadd, 1) := by decide +kernel
theorem dX4_setLastPause_51 : decode cX4_setLastPause 51 = .ok (.iastore, 1) := by decide +kernel
theorem dX4_setLastPause_52 : decode cX4_setLastPause 52 = .ok (.return_, 1) := by decide +kernel
theorem dX4_removeLine_0 : decode cX4_removeLine 0 = .ok (.aload_n 0, 1) := by decide +kernel
theorem dX4_removeLine_1 : decode cX4_removeLine 1 = .ok (.invokevirtual 28, 3) := by decide +kernel
theorem dX4_removeLine_4 : decode cX4_removeLine 4 = .ok (.ifCond .ne 6, 3) := by decide +kernel
theorem dX4_removeLine_7 : decode cX4_removeLine 7 = .ok (.bipush (-4), 2) := by decide +kernel
theorem dX4_removeLine_9 : decode cX4_removeLine 9 = .ok (.ireturn, 1) := by decide +kernel
theorem dX4_removeLine_10 : decode cX4_removeLine 10 = .ok (.aload_n 0, 1) := by decide +kernel
theorem dX4_removeLine_11 : decode cX4_removeLine 11 = .ok (.getfield 11, 3) := by decide +kernel
theorem dX4_removeLine_14 : decode cX4_removeLine 14 = .ok (.bipush 8, 2) := by decide +kernel
theorem dX4_removeLine_16 : decode cX4_removeLine 16 = .ok (.dup2, 1) := by decide +kernel
theorem dX4_removeLine_17 : decode cX4_removeLine 17 = .ok (.iaload, 1) := by decide +kernel
theorem dX4_removeLine_18 : decode cX4_removeLine 18 = .ok (.iconst 1, 1) := by decide +kernel
theorem dX4_removeLine_19 : decode cX4_removeLine 19 = .ok (.isub, 1) := by decide +kernel
theorem dX4_removeLine_20 : decode cX4_removeLine 20 = .ok (.iastore, 1) := by decide +kernel
theorem dX4_removeLine_21 : decode cX4_removeLine 21 = .ok (.aload_n 0, 1) := by decide +kernel
theorem dX4_removeLine_22 : decode cX4_removeLine 22 = .ok (.invokevirtual 28, 3) := by decide +kernel
theorem dX4_removeLine_25 : decode cX4_removeLine 25 = .ok (.ireturn, 1) := by decide +kernel
theorem dX4_changeRhyme_0 : decode cX4_changeRhyme 0 = .ok (.aload_n 0, 1) := by decide +kernel
theorem dX4_changeRhyme_1 : decode cX4_changeRhyme 1 = .ok (.iload_n 1, 1) := by decide +kernel
theorem dX4_changeRhyme_2 : decode cX4_changeRhyme 2 = .ok (.invokevirtual 40, 3) := by decide +kernel
theorem dX4_changeRhyme_5 : decode cX4_changeRhyme 5 = .ok (.ifCond .eq 10, 3) := by decide +kernel
theorem dX4_changeRhyme_8 : decode cX4_changeRhyme 8 = .ok (.iload_n 2, 1) := by decide +kernel
theorem dX4_changeRhyme_9 : decode cX4_changeRhyme 9 = .ok (.invokestatic 24, 3) := by decide +kernel
theorem dX4_changeRhyme_12 : decode cX4_changeRhyme 12 = .ok (.ifCond .ne 5, 3) := by decide +kernel
theorem dX4_changeRhyme_15 : decode cX4_changeRhyme 15 = .ok (.iconst (-1), 1) := by decide +kernel
theorem dX4_changeRhyme_16 : decode cX4_changeRhyme 16 = .ok (.ireturn, 1) := by decide +kernel
theorem dX4_changeRhyme_17 : decode cX4_changeRhyme 17 = .ok (.aload_n 0, 1) := by decide +kernel
theorem dX4_changeRhyme_18 : decode cX4_changeRhyme 18 = .ok (.iload_n 1, 1) := by decide +kernel
theorem dX4_changeRhyme_19 : decode cX4_changeRhyme 19 = .ok (.invokevirtual 43, 3) := by decide +kernel
theorem dX4_changeRhyme_22 : decode cX4_changeRhyme 22 = .ok (.istore_n 3, 1) := by decide +kernel
theorem dX4_changeRhyme_23 : decode cX4_changeRhyme 23 = .ok (.iload_n 3, 1) := by decide +kernel
theorem dX4_changeRhyme_24 : decode cX4_changeRhyme 24 = .ok (.iload_n 2, 1) := by decide +kernel
theorem dX4_changeRhyme_25 : decode cX4_changeRhyme 25 = .ok (.if_icmp .ne 6, 3) := by decide +kernel
theorem dX4_changeRhyme_28 : decode cX4_changeRhyme 28 = .ok (.bipush (-2), 2) := by decide +kernel
theorem dX4_changeRhyme_30 : decode cX4_changeRhyme 30 = .ok (.ireturn, 1) := by decide +kernel
theorem dX4_changeRhyme_31 : decode cX4_changeRhyme 31 = .ok (.aload_n 0, 1) := by decide +kernel
theorem dX4_changeRhyme_32 : decode cX4_changeRhyme 32 = .ok (.getfield 11, 3) := by decide +kernel
theorem dX4_changeRhyme_35 : decode cX4_changeRhyme 35 = .ok (.bipush 9, 2) := by decide +kernel
theorem dX4_changeRhyme_37 : decode cX4_changeRhyme 37 = .ok (.iload_n 1, 1) := by decide +kernel
theorem dX4_changeRhyme_38 : decode cX4_changeRhyme 38 = .ok (.iadd, 1) := by decide +kernel
theorem dX4_changeRhyme_39 : decode cX4_changeRhyme 39 = .ok (.iload_n 2, 1) := by decide +kernel
theorem dX4_changeRhyme_40 : decode cX4_changeRhyme 40 = .ok (.iastore, 1) := by decide +kernel
theorem dX4_changeRhyme_41 : decode cX4_changeRhyme 41 = .ok (.iload_n 3, 1) := by decide +kernel
theorem dX4_changeRhyme_42 : decode cX4_changeRhyme 42 = .ok (.ireturn, 1) := by decide +kernel
theorem dX4_changeSetting_0 : decode cX4_changeSetting 0 = .ok (.iload_n 1, 1) := by decide +kernel
theorem dX4_changeSetting_1 : decode cX4_changeSetting 1 = .ok (.ifCond .lt 27, 3) := by decide +kernel
theorem dX4_changeSetting_4 : decode cX4_changeSetting 4 = .ok (.iload_n 1, 1) := by decide +kernel
theorem dX4_changeSetting_5 : decode cX4_changeSetting 5 = .ok (.bipush 7, 2) := by decide +kernel
theorem dX4_changeSetting_7 : decode cX4_changeSetting 7 = .ok (.if_icmp .ge 21, 3) := by decide +kernel
theorem dX4_changeSetting_10 : decode cX4_changeSetting 10 = .ok (.iload_n 2, 1) := by decide +kernel
theorem dX4_changeSetting_11 : decode cX4_changeSetting 11 = .ok (.getstatic 46, 3) := by decide +kernel
theorem dX4_changeSetting_14 : decode cX4_changeSetting 14 = .ok (.iload_n 1, 1) := by decide +kernel
theorem dX4_changeSetting_15 : decode cX4_changeSetting 15 = .ok (.iaload, 1) := by decide +kernel
theorem dX4_changeSetting_16 : decode cX4_changeSetting 16 = .ok (.if_icmp .lt 12, 3) := by decide +kernel
theorem dX4_changeSetting_19 : decode cX4_changeSetting 19 = .ok (.iload_n 2, 1) := by decide +kernel
theorem dX4_changeSetting_20 : decode cX4_changeSetting 20 = .ok (.getstatic 49, 3) := by decide +kernel
theorem dX4_changeSetting_23 : decode cX4_changeSetting 23 = .ok (.iload_n 1, 1) := by decide +kernel
theorem dX4_changeSetting_24 : decode cX4_changeSetting 24 = .ok (.iaload, 1) := by decide +kernel
theorem dX4_changeSetting_25 : decode cX4_changeSetting 25 = .ok (.if_icmp .le 5, 3) := by decide +kernel
theorem dX4_changeSetting_28 : decode cX4_changeSetting 28 = .ok (.iconst (-1), 1) := by decide +kernel
theorem dX4_changeSetting_29 : decode cX4_changeSetting 29 = .ok (.ireturn, 1) := by decide +kernel
theorem dX4_changeSetting_30 : decode cX4_changeSetting 30 = .ok (.aload_n 0, 1) := by decide +kernel
theorem dX4_changeSetting_31 : decode cX4_changeSetting 31 = .ok (.getfield 11, 3) := by decide +kernel
theorem dX4_changeSetting_34 : decode cX4_changeSetting 34 = .ok (.iload_n 1, 1) := by decide +kernel
theorem dX4_changeSetting_35 : decode cX4_changeSetting 35 = .ok (.iaload, 1) := by decide +kernel
theorem dX4_changeSetting_36 : decode cX4_changeSetting 36 = .ok (.istore_n 3, 1) := by decide +kernel
theorem dX4_changeSetting_37 : decode cX4_changeSetting 37 = .ok (.iload_n 3, 1) := by decide +kernel
theorem dX4_changeSetting_38 : decode cX4_changeSetting 38 = .ok (.iload_n 2, 1) := by decide +kernel
theorem dX4_changeSetting_39 : decode cX4_changeSetting 39 = .ok (.if_icmp .ne 6, 3) := by decide +kernel
theorem dX4_changeSetting_42 : decode cX4_changeSetting 42 = .ok (.bipush (-2), 2) := by decide +kernel
theorem dX4_changeSetting_44 : decode cX4_changeSetting 44 = .ok (.ireturn, 1) := by decide +kernel
theorem dX4_changeSetting_45 : decode cX4_changeSetting 45 = .ok (.aload_n 0, 1) := by decide +kernel
theorem dX4_changeSetting_46 : decode cX4_changeSetting 46 = .ok (.getfield 11, 3) := by decide +kernel
theorem dX4_changeSetting_49 : decode cX4_changeSetting 49 = .ok (.iload_n 1, 1) := by decide +kernel
theorem dX4_changeSetting_50 : decode cX4_changeSetting 50 = .ok (.iload_n 2, 1) := by decide +kernel
theorem dX4_changeSetting_51 : decode cX4_changeSetting 51 = .ok (.iastore, 1) := by decide +kernel
theorem dX4_changeSetting_52 : decode cX4_changeSetting 52 = .ok (.iload_n 3, 1) := by decide +kernel
theorem dX4_changeSetting_53 : decode cX4_changeSetting 53 = .ok (.ireturn, 1) := by decide +kernel
theorem dX4_turn_0 : decode cX4_turn 0 = .ok (.aload_n 0, 1) := by decide +kernel
theorem dX4_turn_1 : decode cX4_turn 1 = .ok (.getfield 11, 3) := by decide +kernel
theorem dX4_turn_4 : decode cX4_turn 4 = .ok (.bipush 7, 2) := by decide +kernel
theorem dX4_turn_6 : decode cX4_turn 6 = .ok (.aload_n 0, 1) := by decide +kernel
theorem dX4_turn_7 : decode cX4_turn 7 = .ok (.invokevirtual 52, 3) := by decide +kernel
theorem dX4_turn_10 : decode cX4_turn 10 = .ok (.i2l, 1) := by decide +kernel
theorem dX4_turn_11 : decode cX4_turn 11 = .ok (.ldc2_w 55, 3) := by decide +kernel
theorem dX4_turn_14 : decode cX4_turn 14 = .ok (.lmul, 1) := by decide +kernel
theorem dX4_turn_15 : decode cX4_turn 15 = .ok (.ldc2_w 57, 3) := by decide +kernel
theorem dX4_turn_18 : decode cX4_turn 18 = .ok (.ladd, 1) := by decide +kernel
theorem dX4_turn_19 : decode cX4_turn 19 = .ok (.ldc2_w 59, 3) := by decide +kernel
theorem dX4_turn_22 : decode cX4_turn 22 = .ok (.land, 1) := by decide +kernel
theorem dX4_turn_23 : decode cX4_turn 23 = .ok (.l2i, 1) := by decide +kernel
theorem dX4_turn_24 : decode cX4_turn 24 = .ok (.iastore, 1) := by decide +kernel
theorem dX4_turn_25 : decode cX4_turn 25 = .ok (.aload_n 0, 1) := by decide +kernel
theorem dX4_turn_26 : decode cX4_turn 26 = .ok (.invokevirtual 52, 3) := by decide +kernel
theorem dX4_turn_29 : decode cX4_turn 29 = .ok (.ldc 61, 2) := by decide +kernel
theorem dX4_turn_31 : decode cX4_turn 31 = .ok (.idiv, 1) := by decide +kernel
theorem dX4_turn_32 : decode cX4_turn 32 = .ok (.istore_n 1, 1) := by decide +kernel
theorem dX4_turn_33 : decode cX4_turn 33 = .ok (.iload_n 1, 1) := by decide +kernel
theorem dX4_turn_34 : decode cX4_turn 34 = .ok (.bipush 8, 2) := by decide +kernel
theorem dX4_turn_36 : decode cX4_turn 36 = .ok (.idiv, 1) := by decide +kernel
theorem dX4_turn_37 : decode cX4_turn 37 = .ok (.istore_n 2, 1) := by decide +kernel
theorem dX4_turn_38 : decode cX4_turn 38 = .ok (.iload_n 1, 1) := by decide +kernel
theorem dX4_turn_39 : decode cX4_turn 39 = .ok (.bipush 8, 2) := by decide +kernel
theorem dX4_turn_41 : decode cX4_turn 41 = .ok (.irem, 1) := by decide +kernel
theorem dX4_turn_42 : decode cX4_turn 42 = .ok (.tableswitch 107 0 6 #[42, 42, 58, 58, 58, 78, 95], 42) := by decide +kernel
theorem dX4_turn_84 : decode cX4_turn 84 = .ok (.aload_n 0, 1) := by decide +kernel
theorem dX4_turn_85 : decode cX4_turn 85 = .ok (.iload_n 2, 1) := by decide +kernel
theorem dX4_turn_86 : decode cX4_turn 86 = .ok (.iconst 4, 1) := by decide +kernel
theorem dX4_turn_87 : decode cX4_turn 87 = .ok (.irem, 1) := by decide +kernel
theorem dX4_turn_88 : decode cX4_turn 88 = .ok (.iload_n 2, 1) := by decide +kernel
theorem dX4_turn_89 : decode cX4_turn 89 = .ok (.iconst 4, 1) := by decide +kernel
theorem dX4_turn_90 : decode cX4_turn 90 = .ok (.idiv, 1) := by decide +kernel
theorem dX4_turn_91 : decode cX4_turn 91 = .ok (.iconst 2, 1) := by decide +kernel
theorem dX4_turn_92 : decode cX4_turn 92 = .ok (.irem, 1) := by decide +kernel
theorem dX4_turn_93 : decode cX4_turn 93 = .ok (.invokevirtual 62, 3) := by decide +kernel
theorem dX4_turn_96 : decode cX4_turn 96 = .ok (.pop, 1) := by decide +kernel
theorem dX4_turn_97 : decode cX4_turn 97 = .ok (.goto 65, 3) := by decide +kernel
theorem dX4_turn_100 : decode cX4_turn 100 = .ok (.aload_n 0, 1) := by decide +kernel
theorem dX4_turn_101 : decode cX4_turn 101 = .ok (.iload_n 2, 1) := by decide +kernel
theorem dX4_turn_102 : decode cX4_turn 102 = .ok (.bipush 9, 2) := by decide +kernel
theorem dX4_turn_104 : decode cX4_turn 104 = .ok (.irem, 1) := by decide +kernel
theorem dX4_turn_105 : decode cX4_turn 105 = .ok (.iconst 1, 1) := by decide +kernel
theorem dX4_turn_106 : decode cX4_turn 106 = .ok (.iadd, 1) := by decide +kernel
theorem dX4_turn_107 : decode cX4_turn 107 = .ok (.iload_n 2, 1) := by decide +kernel
theorem dX4_turn_108 : decode cX4_turn 108 = .ok (.bipush 9, 2) := by decide +kernel
theorem dX4_turn_110 : decode cX4_turn 110 = .ok (.idiv, 1) := by decide +kernel
theorem dX4_turn_111 : decode cX4_turn 111 = .ok (.iconst 4, 1) := by decide +kernel
theorem dX4_turn_112 : decode cX4_turn 112 = .ok (.irem, 1) := by decide +kernel
theorem dX4_turn_113 : decode cX4_turn 113 = .ok (.invokevirtual 65, 3) := by decide +kernel
theorem dX4_turn_116 : decode cX4_turn 116 = .ok (.pop, 1) := by decide +kernel
theorem dX4_turn_117 : decode cX4_turn 117 = .ok (.goto 45, 3) := by decide +kernel
theorem dX4_turn_120 : decode cX4_turn 120 = .ok (.aload_n 0, 1) := by decide +kernel
theorem dX4_turn_121 : decode cX4_turn 121 = .ok (.iload_n 2, 1) := by decide +kernel
theorem dX4_turn_122 : decode cX4_turn 122 = .ok (.iconst 4, 1) := by decide +kernel
theorem dX4_turn_123 : decode cX4_turn 123 = .ok (.idiv, 1) := by decide +kernel
theorem dX4_turn_124 : decode cX4_turn 124 = .ok (.bipush 12, 2) := by decide +kernel
theorem dX4_turn_126 : decode cX4_turn 126 = .ok (.irem, 1) := by decide +kernel
theorem dX4_turn_127 : decode cX4_turn 127 = .ok (.iload_n 2, 1) := by decide +kernel
theorem dX4_turn_128 : decode cX4_turn 128 = .ok (.iconst 4, 1) := by decide +kernel
theorem dX4_turn_129 : decode cX4_turn 129 = .ok (.irem, 1) := by decide +kernel
theorem dX4_turn_130 : decode cX4_turn 130 = .ok (.invokevirtual 68, 3) := by decide +kernel
theorem dX4_turn_133 : decode cX4_turn 133 = .ok (.pop, 1) := by decide +kernel
theorem dX4_turn_134 : decode cX4_turn 134 = .ok (.goto 28, 3) := by decide +kernel
theorem dX4_turn_137 : decode cX4_turn 137 = .ok (.aload_n 0, 1) := by decide +kernel
theorem dX4_turn_138 : decode cX4_turn 138 = .ok (.iconst 5, 1) := by decide +kernel
theorem dX4_turn_139 : decode cX4_turn 139 = .ok (.iload_n 2, 1) := by decide +kernel
theorem dX4_turn_140 : decode cX4_turn 140 = .ok (.iconst 3, 1) := by decide +kernel
theorem dX4_turn_141 : decode cX4_turn 141 = .ok (.irem, 1) := by decide +kernel
theorem dX4_turn_142 : decode cX4_turn 142 = .ok (.invokevirtual 71, 3) := by decide +kernel
theorem dX4_turn_145 : decode cX4_turn 145 = .ok (.pop, 1) := by decide +kernel
theorem dX4_turn_146 : decode cX4_turn 146 = .ok (.goto 16, 3) := by decide +kernel
theorem dX4_turn_149 : decode cX4_turn 149 = .ok (.aload_n 0, 1) := by decide +kernel
theorem dX4_turn_150 : decode cX4_turn 150 = .ok (.iconst 0, 1) := by decide +kernel
theorem dX4_turn_151 : decode cX4_turn 151 = .ok (.iload_n 2, 1) := by decide +kernel
theorem dX4_turn_152 : decode cX4_turn 152 = .ok (.bipush 35, 2) := by decide +kernel
theorem dX4_turn_154 : decode cX4_turn 154 = .ok (.irem, 1) := by decide +kernel
theorem dX4_turn_155 : decode cX4_turn 155 = .ok (.bipush 6, 2) := by decide +kernel
theorem dX4_turn_157 : decode cX4_turn 157 = .ok (.iadd, 1) := by decide +kernel
theorem dX4_turn_158 : decode cX4_turn 158 = .ok (.invokevirtual 71, 3) := by decide +kernel
theorem dX4_turn_161 : decode cX4_turn 161 = .ok (.pop, 1) := by decide +kernel
theorem dX4_turn_162 : decode cX4_turn 162 = .ok (.return_, 1) := by decide +kernel
theorem dX4_setting_0 : decode cX4_setting 0 = .ok (.aload_n 0, 1) := by decide +kernel
theorem dX4_setting_1 : decode cX4_setting 1 = .ok (.getfield 11, 3) := by decide +kernel
theorem dX4_setting_4 : decode cX4_setting 4 = .ok (.iload_n 1, 1) := by decide +kernel
theorem dX4_setting_5 : decode cX4_setting 5 = .ok (.iaload, 1) := by decide +kernel
theorem dX4_setting_6 : decode cX4_setting 6 = .ok (.ireturn, 1) := by decide +kernel
theorem dX4_randomNumber_0 : decode cX4_randomNumber 0 = .ok (.aload_n 0, 1) := by decide +kernel
theorem dX4_randomNumber_1 : decode cX4_randomNumber 1 = .ok (.getfield 11, 3) := by decide +kernel
theorem dX4_randomNumber_4 : decode cX4_randomNumber 4 = .ok (.bipush 7, 2) := by decide +kernel
theorem dX4_randomNumber_6 : decode cX4_randomNumber 6 = .ok (.iaload, 1) := by decide +kernel
theorem dX4_randomNumber_7 : decode cX4_randomNumber 7 = .ok (.ireturn, 1) := by decide +kernel
theorem dX4_setRandomNumber_0 : decode cX4_setRandomNumber 0 = .ok (.aload_n 0, 1) := by decide +kernel
theorem dX4_setRandomNumber_1 : decode cX4_setRandomNumber 1 = .ok (.getfield 11, 3) := by decide +kernel
theorem dX4_setRandomNumber_4 : decode cX4_setRandomNumber 4 = .ok (.bipush 7, 2) := by decide +kernel
theorem dX4_setRandomNumber_6 : decode cX4_setRandomNumber 6 = .ok (.iload_n 1, 1) := by decide +kernel
theorem dX4_setRandomNumber_7 : decode cX4_setRandomNumber 7 = .ok (.iastore, 1) := by decide +kernel
theorem dX4_setRandomNumber_8 : decode cX4_setRandomNumber 8 = .ok (.return_, 1) := by decide +kernel
theorem dX4_lines_0 : decode cX4_lines 0 = .ok (.aload_n 0, 1) := by decide +kernel
theorem dX4_lines_1 : decode cX4_lines 1 = .ok (.getfield 11, 3) := by decide +kernel
theorem dX4_lines_4 : decode cX4_lines 4 = .ok (.bipush 8, 2) := by decide +kernel
theorem dX4_lines_6 : decode cX4_lines 6 = .ok (.iaload, 1) := by decide +kernel
theorem dX4_lines_7 : decode cX4_lines 7 = .ok (.ireturn, 1) := by decide +kernel
theorem dX4_hasLine_0 : decode cX4_hasLine 0 = .ok (.iload_n 1, 1) := by decide +kernel
theorem dX4_hasLine_1 : decode cX4_hasLine 1 = .ok (.ifCond .lt 15, 3) := by decide +kernel
theorem dX4_hasLine_4 : decode cX4_hasLine 4 = .ok (.iload_n 1, 1) := by decide +kernel
theorem dX4_hasLine_5 : decode cX4_hasLine 5 = .ok (.aload_n 0, 1) := by decide +kernel
theorem dX4_hasLine_6 : decode cX4_hasLine 6 = .ok (.invokevirtual 28, 3) := by decide +kernel
theorem dX4_hasLine_9 : decode cX4_hasLine 9 = .ok (.if_icmp .ge 7, 3) := by decide +kernel
theorem dX4_hasLine_12 : decode cX4_hasLine 12 = .ok (.iconst 1, 1) := by decide +kernel
theorem dX4_hasLine_13 : decode cX4_hasLine 13 = .ok (.goto 4, 3) := by decide +kernel
theorem dX4_hasLine_16 : decode cX4_hasLine 16 = .ok (.iconst 0, 1) := by decide +kernel
theorem dX4_hasLine_17 : decode cX4_hasLine 17 = .ok (.ireturn, 1) := by decide +kernel
theorem dX4_rhymeOf_0 : decode cX4_rhymeOf 0 = .ok (.aload_n 0, 1) := by decide +kernel
theorem dX4_rhymeOf_1 : decode cX4_rhymeOf 1 = .ok (.getfield 11, 3) := by decide +kernel
theorem dX4_rhymeOf_4 : decode cX4_rhymeOf 4 = .ok (.bipush 9, 2) := by decide +kernel
theorem dX4_rhymeOf_6 : decode cX4_rhymeOf 6 = .ok (.iload_n 1, 1) := by decide +kernel
theorem dX4_rhymeOf_7 : decode cX4_rhymeOf 7 = .ok (.iadd, 1) := by decide +kernel
theorem dX4_rhymeOf_8 : decode cX4_rhymeOf 8 = .ok (.iaload, 1) := by decide +kernel
theorem dX4_rhymeOf_9 : decode cX4_rhymeOf 9 = .ok (.ireturn, 1) := by decide +kernel
theorem dX4_beginsStanza_0 : decode cX4_beginsStanza 0 = .ok (.aload_n 0, 1) := by decide +kernel
theorem dX4_beginsStanza_1 : decode cX4_beginsStanza 1 = .ok (.getfield 11, 3) := by decide +kernel
theorem dX4_beginsStanza_4 : decode cX4_beginsStanza 4 = .ok (.bipush 21, 2) := by decide +kernel
theorem dX4_beginsStanza_6 : decode cX4_beginsStanza 6 = .ok (.iload_n 1, 1) := by decide +kernel
theorem dX4_beginsStanza_7 : decode cX4_beginsStanza 7 = .ok (.iadd, 1) := by decide +kernel
theorem dX4_beginsStanza_8 : decode cX4_beginsStanza 8 = .ok (.iaload, 1) := by decide +kernel
theorem dX4_beginsStanza_9 : decode cX4_beginsStanza 9 = .ok (.iconst 1, 1) := by decide +kernel
theorem dX4_beginsStanza_10 : decode cX4_beginsStanza 10 = .ok (.if_icmp .ne 7, 3) := by decide +kernel
theorem dX4_beginsStanza_13 : decode cX4_beginsStanza 13 = .ok (.iconst 1, 1) := by decide +kernel
theorem dX4_beginsStanza_14 : decode cX4_beginsStanza 14 = .ok (.goto 4, 3) := by decide +kernel
theorem dX4_beginsStanza_17 : decode cX4_beginsStanza 17 = .ok (.iconst 0, 1) := by decide +kernel
theorem dX4_beginsStanza_18 : decode cX4_beginsStanza 18 = .ok (.ireturn, 1) := by decide +kernel
theorem dX4_wordsOf_0 : decode cX4_wordsOf 0 = .ok (.aload_n 0, 1) := by decide +kernel
theorem dX4_wordsOf_1 : decode cX4_wordsOf 1 = .ok (.getfield 11, 3) := by decide +kernel
theorem dX4_wordsOf_4 : decode cX4_wordsOf 4 = .ok (.bipush 33, 2) := by decide +kernel
theorem dX4_wordsOf_6 : decode cX4_wordsOf 6 = .ok (.iload_n 1, 1) := by decide +kernel
theorem dX4_wordsOf_7 : decode cX4_wordsOf 7 = .ok (.iadd, 1) := by decide +kernel
theorem dX4_wordsOf_8 : decode cX4_wordsOf 8 = .ok (.iaload, 1) := by decide +kernel
theorem dX4_wordsOf_9 : decode cX4_wordsOf 9 = .ok (.ireturn, 1) := by decide +kernel
theorem dX4_lettersOf_0 : decode cX4_lettersOf 0 = .ok (.aload_n 0, 1) := by decide +kernel
theorem dX4_lettersOf_1 : decode cX4_lettersOf 1 = .ok (.getfield 11, 3) := by decide +kernel
theorem dX4_lettersOf_4 : decode cX4_lettersOf 4 = .ok (.bipush 45, 2) := by decide +kernel
theorem dX4_lettersOf_6 : decode cX4_lettersOf 6 = .ok (.iload_n 1, 1) := by decide +kernel
theorem dX4_lettersOf_7 : decode cX4_lettersOf 7 = .ok (.bipush 6, 2) := by decide +kernel
theorem dX4_lettersOf_9 : decode cX4_lettersOf 9 = .ok (.imul, 1) := by decide +kernel
theorem dX4_lettersOf_10 : decode cX4_lettersOf 10 = .ok (.iadd, 1) := by decide +kernel
theorem dX4_lettersOf_11 : decode cX4_lettersOf 11 = .ok (.iload_n 2, 1) := by decide +kernel
theorem dX4_lettersOf_12 : decode cX4_lettersOf 12 = .ok (.iadd, 1) := by decide +kernel
theorem dX4_lettersOf_13 : decode cX4_lettersOf 13 = .ok (.iaload, 1) := by decide +kernel
theorem dX4_lettersOf_14 : decode cX4_lettersOf 14 = .ok (.iconst 4, 1) := by decide +kernel
theorem dX4_lettersOf_15 : decode cX4_lettersOf 15 = .ok (.idiv, 1) := by decide +kernel
theorem dX4_lettersOf_16 : decode cX4_lettersOf 16 = .ok (.ireturn, 1) := by decide +kernel
theorem dX4_pauseOf_0 : decode cX4_pauseOf 0 = .ok (.aload_n 0, 1) := by decide +kernel
theorem dX4_pauseOf_1 : decode cX4_pauseOf 1 = .ok (.getfield 11, 3) := by decide +kernel
theorem dX4_pauseOf_4 : decode cX4_pauseOf 4 = .ok (.bipush 45, 2) := by decide +kernel
theorem dX4_pauseOf_6 : decode cX4_pauseOf 6 = .ok (.iload_n 1, 1) := by decide +kernel
theorem dX4_pauseOf_7 : decode cX4_pauseOf 7 = .ok (.bipush 6, 2) := by decide +kernel
theorem dX4_pauseOf_9 : decode cX4_pauseOf 9 = .ok (.imul, 1) := by decide +kernel
theorem dX4_pauseOf_10 : decode cX4_pauseOf 10 = .ok (.iadd, 1) := by decide +kernel
theorem dX4_pauseOf_11 : decode cX4_pauseOf 11 = .ok (.iload_n 2, 1) := by decide +kernel
theorem dX4_pauseOf_12 : decode cX4_pauseOf 12 = .ok (.iadd, 1) := by decide +kernel
theorem dX4_pauseOf_13 : decode cX4_pauseOf 13 = .ok (.iaload, 1) := by decide +kernel
theorem dX4_pauseOf_14 : decode cX4_pauseOf 14 = .ok (.iconst 4, 1) := by decide +kernel
theorem dX4_pauseOf_15 : decode cX4_pauseOf 15 = .ok (.irem, 1) := by decide +kernel
theorem dX4_pauseOf_16 : decode cX4_pauseOf 16 = .ok (.ireturn, 1) := by decide +kernel
theorem dX4_isRhyme_0 : decode cX4_isRhyme 0 = .ok (.iload_n 0, 1) := by decide +kernel
theorem dX4_isRhyme_1 : decode cX4_isRhyme 1 = .ok (.ifCond .lt 12, 3) := by decide +kernel
theorem dX4_isRhyme_4 : decode cX4_isRhyme 4 = .ok (.iload_n 0, 1) := by decide +kernel
theorem dX4_isRhyme_5 : decode cX4_isRhyme 5 = .ok (.iconst 4, 1) := by decide +kernel
theorem dX4_isRhyme_6 : decode cX4_isRhyme 6 = .ok (.if_icmp .ge 7, 3) := by decide +kernel
theorem dX4_isRhyme_9 : decode cX4_isRhyme 9 = .ok (.iconst 1, 1) := by decide +kernel
theorem dX4_isRhyme_10 : decode cX4_isRhyme 10 = .ok (.goto 4, 3) := by decide +kernel
theorem dX4_isRhyme_13 : decode cX4_isRhyme 13 = .ok (.iconst 0, 1) := by decide +kernel
theorem dX4_isRhyme_14 : decode cX4_isRhyme 14 = .ok (.ireturn, 1) := by decide +kernel
theorem dX4_stanzas_0 : decode cX4_stanzas 0 = .ok (.aload_n 0, 1) := by decide +kernel
theorem dX4_stanzas_1 : decode cX4_stanzas 1 = .ok (.invokevirtual 28, 3) := by decide +kernel
theorem dX4_stanzas_4 : decode cX4_stanzas 4 = .ok (.ifCond .ne 7, 3) := by decide +kernel
theorem dX4_stanzas_7 : decode cX4_stanzas 7 = .ok (.iconst 0, 1) := by decide +kernel
theorem dX4_stanzas_8 : decode cX4_stanzas 8 = .ok (.goto 15, 3) := by decide +kernel
theorem dX4_stanzas_11 : decode cX4_stanzas 11 = .ok (.aload_n 0, 1) := by decide +kernel
theorem dX4_stanzas_12 : decode cX4_stanzas 12 = .ok (.aload_n 0, 1) := by decide +kernel
theorem dX4_stanzas_13 : decode cX4_stanzas 13 = .ok (.invokevirtual 28, 3) := by decide +kernel
theorem dX4_stanzas_16 : decode cX4_stanzas 16 = .ok (.iconst 1, 1) := by decide +kernel
theorem dX4_stanzas_17 : decode cX4_stanzas 17 = .ok (.isub, 1) := by decide +kernel
theorem dX4_stanzas_18 : decode cX4_stanzas 18 = .ok (.invokevirtual 74, 3) := by decide +kernel
theorem dX4_stanzas_21 : decode cX4_stanzas 21 = .ok (.iconst 1, 1) := by decide +kernel
theorem dX4_stanzas_22 : decode cX4_stanzas 22 = .ok (.iadd, 1) := by decide +kernel
theorem dX4_stanzas_23 : decode cX4_stanzas 23 = .ok (.ireturn, 1) := by decide +kernel
theorem dX4_stanzaOf_0 : decode cX4_stanzaOf 0 = .ok (.iconst 0, 1) := by decide +kernel
theorem dX4_stanzaOf_1 : decode cX4_stanzaOf 1 = .ok (.istore_n 2, 1) := by decide +kernel
theorem dX4_stanzaOf_2 : decode cX4_stanzaOf 2 = .ok (.iconst 1, 1) := by decide +kernel
theorem dX4_stanzaOf_3 : decode cX4_stanzaOf 3 = .ok (.istore_n 3, 1) := by decide +kernel
theorem dX4_stanzaOf_4 : decode cX4_stanzaOf 4 = .ok (.iload_n 3, 1) := by decide +kernel
theorem dX4_stanzaOf_5 : decode cX4_stanzaOf 5 = .ok (.iload_n 1, 1) := by decide +kernel
theorem dX4_stanzaOf_6 : decode cX4_stanzaOf 6 = .ok (.if_icmp .gt 25, 3) := by decide +kernel
theorem dX4_stanzaOf_9 : decode cX4_stanzaOf 9 = .ok (.iload_n 2, 1) := by decide +kernel
theorem dX4_stanzaOf_10 : decode cX4_stanzaOf 10 = .ok (.aload_n 0, 1) := by decide +kernel
theorem dX4_stanzaOf_11 : decode cX4_stanzaOf 11 = .ok (.iload_n 3, 1) := by decide +kernel
theorem dX4_stanzaOf_12 : decode cX4_stanzaOf 12 = .ok (.invokevirtual 77, 3) := by decide +kernel
theorem dX4_stanzaOf_15 : decode cX4_stanzaOf 15 = .ok (.ifCond .eq 7, 3) := by decide +kernel
theorem dX4_stanzaOf_18 : decode cX4_stanzaOf 18 = .ok (.iconst 1, 1) := by decide +kernel
theorem dX4_stanzaOf_19 : decode cX4_stanzaOf 19 = .ok (.goto 4, 3) := by decide +kernel
theorem dX4_stanzaOf_22 : decode cX4_stanzaOf 22 = .ok (.iconst 0, 1) := by decide +kernel
theorem dX4_stanzaOf_23 : decode cX4_stanzaOf 23 = .ok (.iadd, 1) := by decide +kernel
theorem dX4_stanzaOf_24 : decode cX4_stanzaOf 24 = .ok (.istore_n 2, 1) := by decide +kernel
theorem dX4_stanzaOf_25 : decode cX4_stanzaOf 25 = .ok (.iinc 3 1, 3) := by decide +kernel
theorem dX4_stanzaOf_28 : decode cX4_stanzaOf 28 = .ok (.goto (-24), 3) := by decide +kernel
theorem dX4_stanzaOf_31 : decode cX4_stanzaOf 31 = .ok (.iload_n 2, 1) := by decide +kernel
theorem dX4_stanzaOf_32 : decode cX4_stanzaOf 32 = .ok (.ireturn, 1) := by decide +kernel
theorem dX4_firstLineOf_0 : decode cX4_firstLineOf 0 = .ok (.iconst 0, 1) := by decide +kernel
theorem dX4_firstLineOf_1 : decode cX4_firstLineOf 1 = .ok (.istore_n 2, 1) := by decide +kernel
theorem dX4_firstLineOf_2 : decode cX4_firstLineOf 2 = .ok (.iload_n 2, 1) := by decide +kernel
theorem dX4_firstLineOf_3 : decode cX4_firstLineOf 3 = .ok (.aload_n 0, 1) := by decide +kernel
theorem dX4_firstLineOf_4 : decode cX4_firstLineOf 4 = .ok (.invokevirtual 28, 3) := by decide +kernel
theorem dX4_firstLineOf_7 : decode cX4_firstLineOf 7 = .ok (.if_icmp .ge 18, 3) := by decide +kernel
theorem dX4_firstLineOf_10 : decode cX4_firstLineOf 10 = .ok (.aload_n 0, 1) := by decide +kernel
theorem dX4_firstLineOf_11 : decode cX4_firstLineOf 11 = .ok (.iload_n 2, 1) := by decide +kernel
theorem dX4_firstLineOf_12 : decode cX4_firstLineOf 12 = .ok (.invokevirtual 74, 3) := by decide +kernel
theorem dX4_firstLineOf_15 : decode cX4_firstLineOf 15 = .ok (.iload_n 1, 1) := by decide +kernel
theorem dX4_firstLineOf_16 : decode cX4_firstLineOf 16 = .ok (.if_icmp .ge 9, 3) := by decide +kernel
theorem dX4_firstLineOf_19 : decode cX4_firstLineOf 19 = .ok (.iinc 2 1, 3) := by decide +kernel
theorem dX4_firstLineOf_22 : decode cX4_firstLineOf 22 = .ok (.goto (-20), 3) := by decide +kernel
theorem dX4_firstLineOf_25 : decode cX4_firstLineOf 25 = .ok (.iload_n 2, 1) := by decide +kernel
theorem dX4_firstLineOf_26 : decode cX4_firstLineOf 26 = .ok (.ireturn, 1) := by decide +kernel
theorem dX4_stanzaStart_0 : decode cX4_stanzaStart 0 = .ok (.iload_n 1, 1) := by decide +kernel
theorem dX4_stanzaStart_1 : decode cX4_stanzaStart 1 = .ok (.istore_n 2, 1) := by decide +kernel
theorem dX4_stanzaStart_2 : decode cX4_stanzaStart 2 = .ok (.iload_n 2, 1) := by decide +kernel
theorem dX4_stanzaStart_3 : decode cX4_stanzaStart 3 = .ok (.ifCond .le 21, 3) := by decide +kernel
theorem dX4_stanzaStart_6 : decode cX4_stanzaStart 6 = .ok (.aload_n 0, 1) := by decide +kernel
theorem dX4_stanzaStart_7 : decode cX4_stanzaStart 7 = .ok (.getfield 11, 3) := by decide +kernel
theorem dX4_stanzaStart_10 : decode cX4_stanzaStart 10 = .ok (.bipush 21, 2) := by decide +kernel
theorem dX4_stanzaStart_12 : decode cX4_stanzaStart 12 = .ok (.iload_n 2, 1) := by decide +kernel
theorem dX4_stanzaStart_13 : decode cX4_stanzaStart 13 = .ok (.iadd, 1) := by decide +kernel
theorem dX4_stanzaStart_14 : decode cX4_stanzaStart 14 = .ok (.iaload, 1) := by decide +kernel
theorem dX4_stanzaStart_15 : decode cX4_stanzaStart 15 = .ok (.ifCond .ne 9, 3) := by decide +kernel
theorem dX4_stanzaStart_18 : decode cX4_stanzaStart 18 = .ok (.iinc 2 (-1), 3) := by decide +kernel
theorem dX4_stanzaStart_21 : decode cX4_stanzaStart 21 = .ok (.goto (-19), 3) := by decide +kernel
theorem dX4_stanzaStart_24 : decode cX4_stanzaStart 24 = .ok (.iload_n 2, 1) := by decide +kernel
theorem dX4_stanzaStart_25 : decode cX4_stanzaStart 25 = .ok (.ireturn, 1) := by decide +kernel
theorem dX4_stanzaEnd_0 : decode cX4_stanzaEnd 0 = .ok (.iload_n 1, 1) := by decide +kernel
theorem dX4_stanzaEnd_1 : decode cX4_stanzaEnd 1 = .ok (.iconst 1, 1) := by decide +kernel
theorem dX4_stanzaEnd_2 : decode cX4_stanzaEnd 2 = .ok (.iadd, 1) := by decide +kernel
theorem dX4_stanzaEnd_3 : decode cX4_stanzaEnd 3 = .ok (.istore_n 2, 1) := by decide +kernel
theorem dX4_stanzaEnd_4 : decode cX4_stanzaEnd 4 = .ok (.iload_n 2, 1) := by decide +kernel
theorem dX4_stanzaEnd_5 : decode cX4_stanzaEnd 5 = .ok (.aload_n 0, 1) := by decide +kernel
theorem dX4_stanzaEnd_6 : decode cX4_stanzaEnd 6 = .ok (.getfield 11, 3) := by decide +kernel
theorem dX4_stanzaEnd_9 : decode cX4_stanzaEnd 9 = .ok (.bipush 8, 2) := by decide +kernel
theorem dX4_stanzaEnd_11 : decode cX4_stanzaEnd 11 = .ok (.iaload, 1) := by decide +kernel
theorem dX4_stanzaEnd_12 : decode cX4_stanzaEnd 12 = .ok (.if_icmp .ge 21, 3) := by decide +kernel
theorem dX4_stanzaEnd_15 : decode cX4_stanzaEnd 15 = .ok (.aload_n 0, 1) := by decide +kernel
theorem dX4_stanzaEnd_16 : decode cX4_stanzaEnd 16 = .ok (.getfield 11, 3) := by decide +kernel
theorem dX4_stanzaEnd_19 : decode cX4_stanzaEnd 19 = .ok (.bipush 21, 2) := by decide +kernel
theorem dX4_stanzaEnd_21 : decode cX4_stanzaEnd 21 = .ok (.iload_n 2, 1) := by decide +kernel
theorem dX4_stanzaEnd_22 : decode cX4_stanzaEnd 22 = .ok (.iadd, 1) := by decide +kernel
theorem dX4_stanzaEnd_23 : decode cX4_stanzaEnd 23 = .ok (.iaload, 1) := by decide +kernel
theorem dX4_stanzaEnd_24 : decode cX4_stanzaEnd 24 = .ok (.ifCond .ne 9, 3) := by decide +kernel
theorem dX4_stanzaEnd_27 : decode cX4_stanzaEnd 27 = .ok (.iinc 2 1, 3) := by decide +kernel
theorem dX4_stanzaEnd_30 : decode cX4_stanzaEnd 30 = .ok (.goto (-26), 3) := by decide +kernel
theorem dX4_stanzaEnd_33 : decode cX4_stanzaEnd 33 = .ok (.iload_n 2, 1) := by decide +kernel
theorem dX4_stanzaEnd_34 : decode cX4_stanzaEnd 34 = .ok (.ireturn, 1) := by decide +kernel
theorem dX4_isInsideStanza_0 : decode cX4_isInsideStanza 0 = .ok (.iload_n 1, 1) := by decide +kernel
theorem dX4_isInsideStanza_1 : decode cX4_isInsideStanza 1 = .ok (.aload_n 0, 1) := by decide +kernel
theorem dX4_isInsideStanza_2 : decode cX4_isInsideStanza 2 = .ok (.getfield 11, 3) := by decide +kernel
theorem dX4_isInsideStanza_5 : decode cX4_isInsideStanza 5 = .ok (.bipush 8, 2) := by decide +kernel
theorem dX4_isInsideStanza_7 : decode cX4_isInsideStanza 7 = .ok (.iaload, 1) := by decide +kernel
theorem dX4_isInsideStanza_8 : decode cX4_isInsideStanza 8 = .ok (.if_icmp .ge 19, 3) := by decide +kernel
theorem dX4_isInsideStanza_11 : decode cX4_isInsideStanza 11 = .ok (.aload_n 0, 1) := by decide +kernel
theorem dX4_isInsideStanza_12 : decode cX4_isInsideStanza 12 = .ok (.getfield 11, 3) := by decide +kernel
theorem dX4_isInsideStanza_15 : decode cX4_isInsideStanza 15 = .ok (.bipush 21, 2) := by decide +kernel
theorem dX4_isInsideStanza_17 : decode cX4_isInsideStanza 17 = .ok (.iload_n 1, 1) := by decide +kernel
theorem dX4_isInsideStanza_18 : decode cX4_isInsideStanza 18 = .ok (.iadd, 1) := by decide +kernel
theorem dX4_isInsideStanza_19 : decode cX4_isInsideStanza 19 = .ok (.iaload, 1) := by decide +kernel
theorem dX4_isInsideStanza_20 : decode cX4_isInsideStanza 20 = .ok (.ifCond .ne 7, 3) := by decide +kernel
theorem dX4_isInsideStanza_23 : decode cX4_isInsideStanza 23 = .ok (.iconst 1, 1) := by decide +kernel
theorem dX4_isInsideStanza_24 : decode cX4_isInsideStanza 24 = .ok (.goto 4, 3) := by decide +kernel
theorem dX4_isInsideStanza_27 : decode cX4_isInsideStanza 27 = .ok (.iconst 0, 1) := by decide +kernel
theorem dX4_isInsideStanza_28 : decode cX4_isInsideStanza 28 = .ok (.ireturn, 1) := by decide +kernel
theorem dX4_rankOf_0 : decode cX4_rankOf 0 = .ok (.iconst 0, 1) := by decide +kernel
theorem dX4_rankOf_1 : decode cX4_rankOf 1 = .ok (.istore_n 2, 1) := by decide +kernel
theorem dX4_rankOf_2 : decode cX4_rankOf 2 = .ok (.aload_n 0, 1) := by decide +kernel
theorem dX4_rankOf_3 : decode cX4_rankOf 3 = .ok (.iload_n 1, 1) := by decide +kernel
theorem dX4_rankOf_4 : decode cX4_rankOf 4 = .ok (.invokevirtual 80, 3) := by decide +kernel
theorem dX4_rankOf_7 : decode cX4_rankOf 7 = .ok (.istore_n 3, 1) := by decide +kernel
theorem dX4_rankOf_8 : decode cX4_rankOf 8 = .ok (.iload_n 3, 1) := by decide +kernel
theorem dX4_rankOf_9 : decode cX4_rankOf 9 = .ok (.iload_n 1, 1) := by decide +kernel
theorem dX4_rankOf_10 : decode cX4_rankOf 10 = .ok (.if_icmp .ge 32, 3) := by decide +kernel
theorem dX4_rankOf_13 : decode cX4_rankOf 13 = .ok (.aload_n 0, 1) := by decide +kernel
theorem dX4_rankOf_14 : decode cX4_rankOf 14 = .ok (.iload_n 3, 1) := by decide +kernel
theorem dX4_rankOf_15 : decode cX4_rankOf 15 = .ok (.invokevirtual 43, 3) := by decide +kernel
theorem dX4_rankOf_18 : decode cX4_rankOf 18 = .ok (.aload_n 0, 1) := by decide +kernel
theorem dX4_rankOf_19 : decode cX4_rankOf 19 = .ok (.iload_n 1, 1) := by decide +kernel
theorem dX4_rankOf_20 : decode cX4_rankOf 20 = .ok (.invokevirtual 43, 3) := by decide +kernel
theorem dX4_rankOf_23 : decode cX4_rankOf 23 = .ok (.if_icmp .eq 19, 3) := by decide +kernel
theorem dX4_rankOf_26 : decode cX4_rankOf 26 = .ok (.iload_n 2, 1) := by decide +kernel
theorem dX4_rankOf_27 : decode cX4_rankOf 27 = .ok (.iconst 1, 1) := by decide +kernel
theorem dX4_rankOf_28 : decode cX4_rankOf 28 = .ok (.aload_n 0, 1) := by decide +kernel
theorem dX4_rankOf_29 : decode cX4_rankOf 29 = .ok (.iload_n 3, 1) := by decide +kernel
theorem dX4_rankOf_30 : decode cX4_rankOf 30 = .ok (.invokevirtual 43, 3) := by decide +kernel
theorem dX4_rankOf_33 : decode cX4_rankOf 33 = .ok (.ishl, 1) := by decide +kernel
theorem dX4_rankOf_34 : decode cX4_rankOf 34 = .ok (.ior, 1) := by decide +kernel
theorem dX4_rankOf_35 : decode cX4_rankOf 35 = .ok (.istore_n 2, 1) := by decide +kernel
theorem dX4_rankOf_36 : decode cX4_rankOf 36 = .ok (.iinc 3 1, 3) := by decide +kernel
theorem dX4_rankOf_39 : decode cX4_rankOf 39 = .ok (.goto (-31), 3) := by decide +kernel
theorem dX4_rankOf_42 : decode cX4_rankOf 42 = .ok (.iload_n 2, 1) := by decide +kernel
theorem dX4_rankOf_43 : decode cX4_rankOf 43 = .ok (.invokestatic 83, 3) := by decide +kernel
theorem dX4_rankOf_46 : decode cX4_rankOf 46 = .ok (.ireturn, 1) := by decide +kernel
theorem dX4_rhymesIn_0 : decode cX4_rhymesIn 0 = .ok (.iconst 0, 1) := by decide +kernel
theorem dX4_rhymesIn_1 : decode cX4_rhymesIn 1 = .ok (.istore_n 2, 1) := by decide +kernel
theorem dX4_rhymesIn_2 : decode cX4_rhymesIn 2 = .ok (.aload_n 0, 1) := by decide +kernel
theorem dX4_rhymesIn_3 : decode cX4_rhymesIn 3 = .ok (.iload_n 1, 1) := by decide +kernel
theorem dX4_rhymesIn_4 : decode cX4_rhymesIn 4 = .ok (.invokevirtual 88, 3) := by decide +kernel
theorem dX4_rhymesIn_7 : decode cX4_rhymesIn 7 = .ok (.istore_n 3, 1) := by decide +kernel
theorem dX4_rhymesIn_8 : decode cX4_rhymesIn 8 = .ok (.iload_n 1, 1) := by decide +kernel
theorem dX4_rhymesIn_9 : decode cX4_rhymesIn 9 = .ok (.istore 4, 2) := by decide +kernel
theorem dX4_rhymesIn_11 : decode cX4_rhymesIn 11 = .ok (.iload 4, 2) := by decide +kernel
theorem dX4_rhymesIn_13 : decode cX4_rhymesIn 13 = .ok (.iload_n 3, 1) := by decide +kernel
theorem dX4_rhymesIn_14 : decode cX4_rhymesIn 14 = .ok (.if_icmp .ge 20, 3) := by decide +kernel
theorem dX4_rhymesIn_17 : decode cX4_rhymesIn 17 = .ok (.iload_n 2, 1) := by decide +kernel
theorem dX4_rhymesIn_18 : decode cX4_rhymesIn 18 = .ok (.iconst 1, 1) := by decide +kernel
theorem dX4_rhymesIn_19 : decode cX4_rhymesIn 19 = .ok (.aload_n 0, 1) := by decide +kernel
theorem dX4_rhymesIn_20 : decode cX4_rhymesIn 20 = .ok (.iload 4, 2) := by decide +kernel
theorem dX4_rhymesIn_22 : decode cX4_rhymesIn 22 = .ok (.invokevirtual 43, 3) := by decide +kernel
theorem dX4_rhymesIn_25 : decode cX4_rhymesIn 25 = .ok (.ishl, 1) := by decide +kernel
theorem dX4_rhymesIn_26 : decode cX4_rhymesIn 26 = .ok (.ior, 1) := by decide +kernel
theorem dX4_rhymesIn_27 : decode cX4_rhymesIn 27 = .ok (.istore_n 2, 1) := by decide +kernel
theorem dX4_rhymesIn_28 : decode cX4_rhymesIn 28 = .ok (.iinc 4 1, 3) := by decide +kernel
theorem dX4_rhymesIn_31 : decode cX4_rhymesIn 31 = .ok (.goto (-20), 3) := by decide +kernel
theorem dX4_rhymesIn_34 : decode cX4_rhymesIn 34 = .ok (.iload_n 2, 1) := by decide +kernel
theorem dX4_rhymesIn_35 : decode cX4_rhymesIn 35 = .ok (.invokestatic 83, 3) := by decide +kernel
theorem dX4_rhymesIn_38 : decode cX4_rhymesIn 38 = .ok (.ireturn, 1) := by decide +kernel
theorem dX4_shapeOf_0 : decode cX4_shapeOf 0 = .ok (.lconst 0, 1) := by decide +kernel
theorem dX4_shapeOf_1 : decode cX4_shapeOf 1 = .ok (.lstore_n 2, 1) := by decide +kernel
theorem dX4_shapeOf_2 : decode cX4_shapeOf 2 = .ok (.aload_n 0, 1) := by decide +kernel
theorem dX4_shapeOf_3 : decode cX4_shapeOf 3 = .ok (.iload_n 1, 1) := by decide +kernel
theorem dX4_shapeOf_4 : decode cX4_shapeOf 4 = .ok (.invokevirtual 88, 3) := by decide +kernel
theorem dX4_shapeOf_7 : decode cX4_shapeOf 7 = .ok (.istore 4, 2) := by decide +kernel
theorem dX4_shapeOf_9 : decode cX4_shapeOf 9 = .ok (.iload_n 1, 1) := by decide +kernel
theorem dX4_shapeOf_10 : decode cX4_shapeOf 10 = .ok (.istore 5, 2) := by decide +kernel
theorem dX4_shapeOf_12 : decode cX4_shapeOf 12 = .ok (.iload 5, 2) := by decide +kernel
theorem dX4_shapeOf_14 : decode cX4_shapeOf 14 = .ok (.iload 4, 2) := by decide +kernel
theorem dX4_shapeOf_16 : decode cX4_shapeOf 16 = .ok (.if_icmp .ge 23, 3) := by decide +kernel
theorem dX4_shapeOf_19 : decode cX4_shapeOf 19 = .ok (.ldc2_w 91, 3) := by decide +kernel
theorem dX4_shapeOf_22 : decode cX4_shapeOf 22 = .ok (.lload_n 2, 1) := by decide +kernel
theorem dX4_shapeOf_23 : decode cX4_shapeOf 23 = .ok (.lmul, 1) := by decide +kernel
theorem dX4_shapeOf_24 : decode cX4_shapeOf 24 = .ok (.aload_n 0, 1) := by decide +kernel
theorem dX4_shapeOf_25 : decode cX4_shapeOf 25 = .ok (.iload 5, 2) := by decide +kernel
theorem dX4_shapeOf_27 : decode cX4_shapeOf 27 = .ok (.invokevirtual 93, 3) := by decide +kernel
theorem dX4_shapeOf_30 : decode cX4_shapeOf 30 = .ok (.i2l, 1) := by decide +kernel
theorem dX4_shapeOf_31 : decode cX4_shapeOf 31 = .ok (.ladd, 1) := by decide +kernel
theorem dX4_shapeOf_32 : decode cX4_shapeOf 32 = .ok (.lstore_n 2, 1) := by decide +kernel
theorem dX4_shapeOf_33 : decode cX4_shapeOf 33 = .ok (.iinc 5 1, 3) := by decide +kernel
theorem dX4_shapeOf_36 : decode cX4_shapeOf 36 = .ok (.goto (-24), 3) := by decide +kernel
theorem dX4_shapeOf_39 : decode cX4_shapeOf 39 = .ok (.lload_n 2, 1) := by decide +kernel
theorem dX4_shapeOf_40 : decode cX4_shapeOf 40 = .ok (.lreturn, 1) := by decide +kernel
theorem dX4_indentationOf_0 : decode cX4_indentationOf 0 = .ok (.aload_n 0, 1) := by decide +kernel
theorem dX4_indentationOf_1 : decode cX4_indentationOf 1 = .ok (.bipush 6, 2) := by decide +kernel
theorem dX4_indentationOf_3 : decode cX4_indentationOf 3 = .ok (.invokevirtual 96, 3) := by decide +kernel
theorem dX4_indentationOf_6 : decode cX4_indentationOf 6 = .ok (.lookupswitch 54 #[(1, 26), (2, 38)], 26) := by decide +kernel
theorem dX4_indentationOf_32 : decode cX4_indentationOf 32 = .ok (.aload_n 0, 1) := by decide +kernel
theorem dX4_indentationOf_33 : decode cX4_indentationOf 33 = .ok (.iconst 1, 1) := by decide +kernel
theorem dX4_indentationOf_34 : decode cX4_indentationOf 34 = .ok (.invokevirtual 96, 3) := by decide +kernel
theorem dX4_indentationOf_37 : decode cX4_indentationOf 37 = .ok (.aload_n 0, 1) := by decide +kernel
theorem dX4_indentationOf_38 : decode cX4_indentationOf 38 = .ok (.iload_n 1, 1) := by decide +kernel
theorem dX4_indentationOf_39 : decode cX4_indentationOf 39 = .ok (.invokevirtual 93, 3) := by decide +kernel
theorem dX4_indentationOf_42 : decode cX4_indentationOf 42 = .ok (.imul, 1) := by decide +kernel
theorem dX4_indentationOf_43 : decode cX4_indentationOf 43 = .ok (.ireturn, 1) := by decide +kernel
theorem dX4_indentationOf_44 : decode cX4_indentationOf 44 = .ok (.aload_n 0, 1) := by decide +kernel
theorem dX4_indentationOf_45 : decode cX4_indentationOf 45 = .ok (.iconst 1, 1) := by decide +kernel
theorem dX4_indentationOf_46 : decode cX4_indentationOf 46 = .ok (.invokevirtual 96, 3) := by decide +kernel
theorem dX4_indentationOf_49 : decode cX4_indentationOf 49 = .ok (.iload_n 1, 1) := by decide +kernel
theorem dX4_indentationOf_50 : decode cX4_indentationOf 50 = .ok (.aload_n 0, 1) := by decide +kernel
theorem dX4_indentationOf_51 : decode cX4_indentationOf 51 = .ok (.iload_n 1, 1) := by decide +kernel
theorem dX4_indentationOf_52 : decode cX4_indentationOf 52 = .ok (.invokevirtual 80, 3) := by decide +kernel
theorem dX4_indentationOf_55 : decode cX4_indentationOf 55 = .ok (.isub, 1) := by decide +kernel
theorem dX4_indentationOf_56 : decode cX4_indentationOf 56 = .ok (.iconst 2, 1) := by decide +kernel
theorem dX4_indentationOf_57 : decode cX4_indentationOf 57 = .ok (.irem, 1) := by decide +kernel
theorem dX4_indentationOf_58 : decode cX4_indentationOf 58 = .ok (.imul, 1) := by decide +kernel
theorem dX4_indentationOf_59 : decode cX4_indentationOf 59 = .ok (.ireturn, 1) := by decide +kernel
theorem dX4_indentationOf_60 : decode cX4_indentationOf 60 = .ok (.iconst 0, 1) := by decide +kernel
theorem dX4_indentationOf_61 : decode cX4_indentationOf 61 = .ok (.ireturn, 1) := by decide +kernel
theorem dX5_init_0 : decode cX5_init 0 = .ok (.aload_n 0, 1) := by decide +kernel
theorem dX5_init_1 : decode cX5_init 1 = .ok (.invokespecial 3, 3) := by decide +kernel
theorem dX5_init_4 : decode cX5_init 4 = .ok (.aload_n 0, 1) := by decide +kernel
theorem dX5_init_5 : decode cX5_init 5 = .ok (.bipush 24, 2) := by decide +kernel
theorem dX5_init_7 : decode cX5_init 7 = .ok (.newarray .long, 2) := by decide +kernel
theorem dX5_init_9 : decode cX5_init 9 = .ok (.putfield 9, 3) := by decide +kernel
theorem dX5_init_12 : decode cX5_init 12 = .ok (.aload_n 0, 1) := by decide +kernel
theorem dX5_init_13 : decode cX5_init 13 = .ok (.iconst 1, 1) := by decide +kernel
theorem dX5_init_14 : decode cX5_init 14 = .ok (.putfield 15, 3) := by decide +kernel
theorem dX5_init_17 : decode cX5_init 17 = .ok (.aload_n 0, 1) := by decide +kernel
theorem dX5_init_18 : decode cX5_init 18 = .ok (.iconst 0, 1) := by decide +kernel
theorem dX5_init_19 : decode cX5_init 19 = .ok (.putfield 19, 3) := by decide +kernel
theorem dX5_init_22 : decode cX5_init 22 = .ok (.aload_n 0, 1) := by decide +kernel
theorem dX5_init_23 : decode cX5_init 23 = .ok (.iconst 0, 1) := by decide +kernel
theorem dX5_init_24 : decode cX5_init 24 = .ok (.putfield 23, 3) := by decide +kernel
theorem dX5_init_27 : decode cX5_init 27 = .ok (.return_, 1) := by decide +kernel
theorem dX5_renew_0 : decode cX5_renew 0 = .ok (.aload_n 0, 1) := by decide +kernel
theorem dX5_renew_1 : decode cX5_renew 1 = .ok (.getfield 9, 3) := by decide +kernel
theorem dX5_renew_4 : decode cX5_renew 4 = .ok (.lconst 0, 1) := by decide +kernel
theorem dX5_renew_5 : decode cX5_renew 5 = .ok (.invokestatic 26, 3) := by decide +kernel
theorem dX5_renew_8 : decode cX5_renew 8 = .ok (.aload_n 0, 1) := by decide +kernel
theorem dX5_renew_9 : decode cX5_renew 9 = .ok (.iconst 0, 1) := by decide +kernel
theorem dX5_renew_10 : decode cX5_renew 10 = .ok (.putfield 15, 3) := by decide +kernel
theorem dX5_renew_13 : decode cX5_renew 13 = .ok (.aload_n 0, 1) := by decide +kernel
theorem dX5_renew_14 : decode cX5_renew 14 = .ok (.iload_n 1, 1) := by decide +kernel
theorem dX5_renew_15 : decode cX5_renew 15 = .ok (.putfield 19, 3) := by decide +kernel
theorem dX5_renew_18 : decode cX5_renew 18 = .ok (.aload_n 0, 1) := by decide +kernel
theorem dX5_renew_19 : decode cX5_renew 19 = .ok (.iload_n 2, 1) := by decide +kernel
theorem dX5_renew_20 : decode cX5_renew 20 = .ok (.putfield 23, 3) := by decide +kernel
theorem dX5_renew_23 : decode cX5_renew 23 = .ok (.return_, 1) := by decide +kernel
theorem dX5_isInside_0 : decode cX5_isInside 0 = .ok (.iload_n 1, 1) := by decide +kernel
theorem dX5_isInside_1 : decode cX5_isInside 1 = .ok (.ifCond .lt 29, 3) := by decide +kernel
theorem dX5_isInside_4 : decode cX5_isInside 4 = .ok (.iload_n 2, 1) := by decide +kernel
theorem dX5_isInside_5 : decode cX5_isInside 5 = .ok (.ifCond .lt 25, 3) := by decide +kernel
theorem dX5_isInside_8 : decode cX5_isInside 8 = .ok (.iload_n 2, 1) := by decide +kernel
theorem dX5_isInside_9 : decode cX5_isInside 9 = .ok (.aload_n 0, 1) := by decide +kernel
theorem dX5_isInside_10 : decode cX5_isInside 10 = .ok (.getfield 23, 3) := by decide +kernel
theorem dX5_isInside_13 : decode cX5_isInside 13 = .ok (.if_icmp .gt 17, 3) := by decide +kernel
theorem dX5_isInside_16 : decode cX5_isInside 16 = .ok (.iload_n 1, 1) := by decide +kernel
theorem dX5_isInside_17 : decode cX5_isInside 17 = .ok (.aload_n 0, 1) := by decide +kernel
theorem dX5_isInside_18 : decode cX5_isInside 18 = .ok (.getfield 23, 3) := by decide +kernel
theorem dX5_isInside_21 : decode cX5_isInside 21 = .ok (.iload_n 2, 1) := by decide +kernel
theorem dX5_isInside_22 : decode cX5_isInside 22 = .ok (.isub, 1) := by decide +kernel
theorem dX5_isInside_23 : decode cX5_isInside 23 = .ok (.if_icmp .gt 7, 3) := by decide +kernel
theorem dX5_isInside_26 : decode cX5_isInside 26 = .ok (.iconst 1, 1) := by decide +kernel
theorem dX5_isInside_27 : decode cX5_isInside 27 = .ok (.goto 4, 3) := by decide +kernel
theorem dX5_isInside_30 : decode cX5_isInside 30 = .ok (.iconst 0, 1) := by decide +kernel
theorem dX5_isInside_31 : decode cX5_isInside 31 = .ok (.ireturn, 1) := by decide +kernel
theorem dX5_put_0 : decode cX5_put 0 = .ok (.aload_n 0, 1) := by decide +kernel
theorem dX5_put_1 : decode cX5_put 1 = .ok (.getfield 19, 3) := by decide +kernel
theorem dX5_put_4 : decode cX5_put 4 = .ok (.tableswitch 66 0 2 #[28, 41, 54], 28) := by decide +kernel
theorem dX5_put_32 : decode cX5_put 32 = .ok (.aload_n 0, 1) := by decide +kernel
theorem dX5_put_33 : decode cX5_put 33 = .ok (.getfield 9, 3) := by decide +kernel
theorem dX5_put_36 : decode cX5_put 36 = .ok (.iload_n 1, 1) := by decide +kernel
theorem dX5_put_37 : decode cX5_put 37 = .ok (.lload_n 2, 1) := by decide +kernel
theorem dX5_put_38 : decode cX5_put 38 = .ok (.l2i, 1) := by decide +kernel
theorem dX5_put_39 : decode cX5_put 39 = .ok (.i2b, 1) := by decide +kernel
theorem dX5_put_40 : decode cX5_put 40 = .ok (.i2l, 1) := by decide +kernel
theorem dX5_put_41 : decode cX5_put 41 = .ok (.lastore, 1) := by decide +kernel
theorem dX5_put_42 : decode cX5_put 42 = .ok (.goto 35, 3) := by decide +kernel
theorem dX5_put_45 : decode cX5_put 45 = .ok (.aload_n 0, 1) := by decide +kernel
theorem dX5_put_46 : decode cX5_put 46 = .ok (.getfield 9, 3) := by decide +kernel
theorem dX5_put_49 : decode cX5_put 49 = .ok (.iload_n 1, 1) := by decide +kernel
theorem dX5_put_50 : decode cX5_put 50 = .ok (.lload_n 2, 1) := by decide +kernel
theorem dX5_put_51 : decode cX5_put 51 = .ok (.l2i, 1) := by decide +kernel
theorem dX5_put_52 : decode cX5_put 52 = .ok (.i2s, 1) := by decide +kernel
theorem dX5_put_53 : decode cX5_put 53 = .ok (.i2l, 1) := by decide +kernel
theorem dX5_put_54 : decode cX5_put 54 = .ok (.lastore, 1) := by decide +kernel
theorem dX5_put_55 : decode cX5_put 55 = .ok (.goto 22, 3) := by decide +kernel
theorem dX5_put_58 : decode cX5_put 58 = .ok (.aload_n 0, 1) := by decide +kernel
theorem dX5_put_59 : decode cX5_put 59 = .ok (.getfield 9, 3) := by decide +kernel
theorem dX5_put_62 : decode cX5_put 62 = .ok (.iload_n 1, 1) := by decide +kernel
theorem dX5_put_63 : decode cX5_put 63 = .ok (.lload_n 2, 1) := by decide +kernel
theorem dX5_put_64 : decode cX5_put 64 = .ok (.l2i, 1) := by decide +kernel
theorem dX5_put_65 : decode cX5_put 65 = .ok (.i2l, 1) := by decide +kernel
theorem dX5_put_66 : decode cX5_put 66 = .ok (.lastore, 1) := by decide +kernel
theorem dX5_put_67 : decode cX5_put 67 = .ok (.goto 10, 3) := by decide +kernel
theorem dX5_put_70 : decode cX5_put 70 = .ok (.aload_n 0, 1) := by decide +kernel
theorem dX5_put_71 : decode cX5_put 71 = .ok (.getfield 9, 3) := by decide +kernel
theorem dX5_put_74 : decode cX5_put 74 = .ok (.iload_n 1, 1) := by decide +kernel
theorem dX5_put_75 : decode cX5_put 75 = .ok (.lload_n 2, 1) := by decide +kernel
theorem dX5_put_76 : decode cX5_put 76 = .ok (.lastore, 1) := by decide +kernel
theorem dX5_put_77 : decode cX5_put 77 = .ok (.return_, 1) := by decide +kernel
theorem dX5_addsUpTo_0 : decode cX5_addsUpTo 0 = .ok (.lconst 0, 1) := by decide +kernel
theorem dX5_addsUpTo_1 : decode cX5_addsUpTo 1 = .ok (.lstore 4, 2) := by decide +kernel
theorem dX5_addsUpTo_3 : decode cX5_addsUpTo 3 = .ok (.iload_n 2, 1) := by decide +kernel
theorem dX5_addsUpTo_4 : decode cX5_addsUpTo 4 = .ok (.istore 6, 2) := by decide +kernel
theorem dX5_addsUpTo_6 : decode cX5_addsUpTo 6 = .ok (.iload 6, 2) := by decide +kernel
theorem dX5_addsUpTo_8 : decode cX5_addsUpTo 8 = .ok (.iload_n 2, 1) := by decide +kernel
theorem dX5_addsUpTo_9 : decode cX5_addsUpTo 9 = .ok (.iload_n 3, 1) := by decide +kernel
theorem dX5_addsUpTo_10 : decode cX5_addsUpTo 10 = .ok (.iadd, 1) := by decide +kernel
theorem dX5_addsUpTo_11 : decode cX5_addsUpTo 11 = .ok (.if_icmp .ge 49, 3) := by decide +kernel
theorem dX5_addsUpTo_14 : decode cX5_addsUpTo 14 = .ok (.aload_n 0, 1) := by decide +kernel
theorem dX5_addsUpTo_15 : decode cX5_addsUpTo 15 = .ok (.getfield 9, 3) := by decide +kernel
theorem dX5_addsUpTo_18 : decode cX5_addsUpTo 18 = .ok (.iload 6, 2) := by decide +kernel
theorem dX5_addsUpTo_20 : decode cX5_addsUpTo 20 = .ok (.laload, 1) := by decide +kernel
theorem dX5_addsUpTo_21 : decode cX5_addsUpTo 21 = .ok (.lconst 1, 1) := by decide +kernel
theorem dX5_addsUpTo_22 : decode cX5_addsUpTo 22 = .ok (.lcmp, 1) := by decide +kernel
theorem dX5_addsUpTo_23 : decode cX5_addsUpTo 23 = .ok (.ifCond .lt 17, 3) := by decide +kernel
theorem dX5_addsUpTo_26 : decode cX5_addsUpTo 26 = .ok (.aload_n 0, 1) := by decide +kernel
theorem dX5_addsUpTo_27 : decode cX5_addsUpTo 27 = .ok (.getfield 9, 3) := by decide +kernel
theorem dX5_addsUpTo_30 : decode cX5_addsUpTo 30 = .ok (.iload 6, 2) := by decide +kernel
theorem dX5_addsUpTo_32 : decode cX5_addsUpTo 32 = .ok (.laload, 1) := by decide +kernel
theorem dX5_addsUpTo_33 : decode cX5_addsUpTo 33 = .ok (.ldc2_w 32, 3) := by decide +kernel
theorem dX5_addsUpTo_36 : decode cX5_addsUpTo 36 = .ok (.lcmp, 1) := by decide +kernel
theorem dX5_addsUpTo_37 : decode cX5_addsUpTo 37 = .ok (.ifCond .le 5, 3) := by decide +kernel
theorem dX5_addsUpTo_40 : decode cX5_addsUpTo 40 = .ok (.iconst 0, 1) := by decide +kernel
theorem dX5_addsUpTo_41 : decode cX5_addsUpTo 41 = .ok (.ireturn, 1) := by decide +kernel
theorem dX5_addsUpTo_42 : decode cX5_addsUpTo 42 = .ok (.lload 4, 2) := by decide +kernel
theorem dX5_addsUpTo_44 : decode cX5_addsUpTo 44 = .ok (.aload_n 0, 1) := by decide +kernel
theorem dX5_addsUpTo_45 : decode cX5_addsUpTo 45 = .ok (.getfield 9, 3) := by decide +kernel
theorem dX5_addsUpTo_48 : decode cX5_addsUpTo 48 = .ok (.iload 6, 2) := by decide +kernel
theorem dX5_addsUpTo_50 : decode cX5_addsUpTo 50 = .ok (.laload, 1) := by decide +kernel
theorem dX5_addsUpTo_51 : decode cX5_addsUpTo 51 = .ok (.ladd, 1) := by decide +kernel
theorem dX5_addsUpTo_52 : decode cX5_addsUpTo 52 = .ok (.lstore 4, 2) := by decide +kernel
theorem dX5_addsUpTo_54 : decode cX5_addsUpTo 54 = .ok (.iinc 6 1, 3) := by decide +kernel
theorem dX5_addsUpTo_57 : decode cX5_addsUpTo 57 = .ok (.goto (-51), 3) := by decide +kernel
theorem dX5_addsUpTo_60 : decode cX5_addsUpTo 60 = .ok (.lload 4, 2) := by decide +kernel
theorem dX5_addsUpTo_62 : decode cX5_addsUpTo 62 = .ok (.iload_n 1, 1) := by decide +kernel
theorem dX5_addsUpTo_63 : decode cX5_addsUpTo 63 = .ok (.i2l, 1) := by decide +kernel
theorem dX5_addsUpTo_64 : decode cX5_addsUpTo 64 = .ok (.lcmp, 1) := by decide +kernel
theorem dX5_addsUpTo_65 : decode cX5_addsUpTo 65 = .ok (.ifCond .ne 7, 3) := by decide +kernel
theorem dX5_addsUpTo_68 : decode cX5_addsUpTo 68 = .ok (.iconst 1, 1) := by decide +kernel
theorem dX5_addsUpTo_69 : decode cX5_addsUpTo 69 = .ok (.goto 4, 3) := by decide +kernel
theorem dX5_addsUpTo_72 : decode cX5_addsUpTo 72 = .ok (.iconst 0, 1) := by decide +kernel
theorem dX5_addsUpTo_73 : decode cX5_addsUpTo 73 = .ok (.ireturn, 1) := by decide +kernel
theorem dX6_init_0 : decode cX6_init 0 = .ok (.aload_n 0, 1) := by decide +kernel
theorem dX6_init_1 : decode cX6_init 1 = .ok (.invokespecial 3, 3) := by decide +kernel
theorem dX6_init_4 : decode cX6_init 4 = .ok (.aload_n 0, 1) := by decide +kernel
theorem dX6_init_5 : decode cX6_init 5 = .ok (.bipush 90, 2) := by decide +kernel
theorem dX6_init_7 : decode cX6_init 7 = .ok (.newarray .int, 2) := by decide +kernel
theorem dX6_init_9 : decode cX6_init 9 = .ok (.putfield 9, 3) := by decide +kernel
theorem dX6_init_12 : decode cX6_init 12 = .ok (.aload_n 0, 1) := by decide +kernel
theorem dX6_init_13 : decode cX6_init 13 = .ok (.iconst 0, 1) := by decide +kernel
theorem dX6_init_14 : decode cX6_init 14 = .ok (.putfield 15, 3) := by decide +kernel
theorem dX6_init_17 : decode cX6_init 17 = .ok (.aload_n 0, 1) := by decide +kernel
theorem dX6_init_18 : decode cX6_init 18 = .ok (.new 19, 3) := by decide +kernel
theorem dX6_init_21 : decode cX6_init 21 = .ok (.dup, 1) := by decide +kernel
theorem dX6_init_22 : decode cX6_init 22 = .ok (.invokespecial 21, 3) := by decide +kernel
theorem dX6_init_25 : decode cX6_init 25 = .ok (.putfield 22, 3) := by decide +kernel
theorem dX6_init_28 : decode cX6_init 28 = .ok (.return_, 1) := by decide +kernel
theorem dX6_append_0 : decode cX6_append 0 = .ok (.iload_n 1, 1) := by decide +kernel
theorem dX6_append_1 : decode cX6_append 1 = .ok (.bipush 32, 2) := by decide +kernel
theorem dX6_append_3 : decode cX6_append 3 = .ok (.if_icmp .lt 9, 3) := by decide +kernel
theorem dX6_append_6 : decode cX6_append 6 = .ok (.iload_n 1, 1) := by decide +kernel
theorem dX6_append_7 : decode cX6_append 7 = .ok (.bipush 126, 2) := by decide +kernel
theorem dX6_append_9 : decode cX6_append 9 = .ok (.if_icmp .le 5, 3) := by decide +kernel
theorem dX6_append_12 : decode cX6_append 12 = .ok (.iconst (-1), 1) := by decide +kernel
theorem dX6_append_13 : decode cX6_append 13 = .ok (.ireturn, 1) := by decide +kernel
theorem dX6_append_14 : decode cX6_append 14 = .ok (.aload_n 0, 1) := by decide +kernel
theorem dX6_append_15 : decode cX6_append 15 = .ok (.getfield 15, 3) := by decide +kernel
theorem dX6_append_18 : decode cX6_append 18 = .ok (.bipush 90, 2) := by decide +kernel
theorem dX6_append_20 : decode cX6_append 20 = .ok (.if_icmp .lt 6, 3) := by decide +kernel
theorem dX6_append_23 : decode cX6_append 23 = .ok (.bipush (-3), 2) := by decide +kernel
theorem dX6_append_25 : decode cX6_append 25 = .ok (.ireturn, 1) := by decide +kernel
theorem dX6_append_26 : decode cX6_append 26 = .ok (.aload_n 0, 1) := by decide +kernel
theorem dX6_append_27 : decode cX6_append 27 = .ok (.getfield 9, 3) := by decide +kernel
theorem dX6_append_30 : decode cX6_append 30 = .ok (.aload_n 0, 1) := by decide +kernel
theorem dX6_append_31 : decode cX6_append 31 = .ok (.getfield 15, 3) := by decide +kernel
theorem dX6_append_34 : decode cX6_append 34 = .ok (.iload_n 1, 1) := by decide +kernel
theorem dX6_append_35 : decode cX6_append 35 = .ok (.iastore, 1) := by decide +kernel
theorem dX6_append_36 : decode cX6_append 36 = .ok (.aload_n 0, 1) := by decide +kernel
theorem dX6_append_37 : decode cX6_append 37 = .ok (.dup, 1) := by decide +kernel
theorem dX6_append_38 : decode cX6_append 38 = .ok (.getfield 15, 3) := by decide +kernel
theorem dX6_append_41 : decode cX6_append 41 = .ok (.iconst 1, 1) := by decide +kernel
theorem dX6_append_42 : decode cX6_append 42 = .ok (.iadd, 1) := by decide +kernel
theorem dX6_append_43 : decode cX6_append 43 = .ok (.putfield 15, 3) := by decide +kernel
theorem dX6_append_46 : decode cX6_append 46 = .ok (.aload_n 0, 1) := by decide +kernel
theorem dX6_append_47 : decode cX6_append 47 = .ok (.getfield 15, 3) := by decide +kernel
theorem dX6_append_50 : decode cX6_append 50 = .ok (.ireturn, 1) := by decide +kernel
theorem dX6_parse_0 : decode cX6_parse 0 = .ok (.aload_n 0, 1) := by decide +kernel
theorem dX6_parse_1 : decode cX6_parse 1 = .ok (.getfield 22, 3) := by decide +kernel
theorem dX6_parse_4 : decode cX6_parse 4 = .ok (.invokevirtual 26, 3) := by decide +kernel
theorem dX6_parse_7 : decode cX6_parse 7 = .ok (.aload_n 0, 1) := by decide +kernel
theorem dX6_parse_8 : decode cX6_parse 8 = .ok (.iconst 0, 1) := by decide +kernel
theorem dX6_parse_9 : decode cX6_parse 9 = .ok (.putfield 29, 3) := by decide +kernel
theorem dX6_parse_12 : decode cX6_parse 12 = .ok (.aload_n 0, 1) := by decide +kernel
theorem dX6_parse_13 : decode cX6_parse 13 = .ok (.iconst 0, 1) := by decide +kernel
theorem dX6_parse_14 : decode cX6_parse 14 = .ok (.putfield 33, 3) := by decide +kernel
theorem dX6_parse_17 : decode cX6_parse 17 = .ok (.iconst 0, 1) := by decide +kernel
theorem dX6_parse_18 : decode cX6_parse 18 = .ok (.istore_n 1, 1) := by decide +kernel
theorem dX6_parse_19 : decode cX6_parse 19 = .ok (.iload_n 1, 1) := by decide +kernel
theorem dX6_parse_20 : decode cX6_parse 20 = .ok (.aload_n 0, 1) := by decide +kernel
theorem dX6_parse_21 : decode cX6_parse 21 = .ok (.getfield 15, 3) := by decide +kernel
theorem dX6_parse_24 : decode cX6_parse 24 = .ok (.if_icmp .ge 35, 3) := by decide +kernel
theorem dX6_parse_27 : decode cX6_parse 27 = .ok (.aload_n 0, 1) := by decide +kernel
theorem dX6_parse_28 : decode cX6_parse 28 = .ok (.getfield 9, 3) := by decide +kernel
theorem dX6_parse_31 : decode cX6_parse 31 = .ok (.iload_n 1, 1) := by decide +kernel
theorem dX6_parse_32 : decode cX6_parse 32 = .ok (.iaload, 1) := by decide +kernel
theorem dX6_parse_33 : decode cX6_parse 33 = .ok (.bipush 32, 2) := by decide +kernel
theorem dX6_parse_35 : decode cX6_parse 35 = .ok (.if_icmp .eq 18, 3) := by decide +kernel
theorem dX6_parse_38 : decode cX6_parse 38 = .ok (.aload_n 0, 1) := by decide +kernel
theorem dX6_parse_39 : decode cX6_parse 39 = .ok (.aload_n 0, 1) := by decide +kernel
theorem dX6_parse_40 : decode cX6_parse 40 = .ok (.getfield 9, 3) := by decide +kernel
theorem dX6_parse_43 : decode cX6_parse 43 = .ok (.iload_n 1, 1) := by decide +kernel
theorem dX6_parse_44 : decode cX6_parse 44 = .ok (.iaload, 1) := by decide +kernel
theorem dX6_parse_45 : decode cX6_parse 45 = .ok (.invokevirtual 36, 3) := by decide +kernel
theorem dX6_parse_48 : decode cX6_parse 48 = .ok (.ifCond .ne 5, 3) := by decide +kernel
theorem dX6_parse_51 : decode cX6_parse 51 = .ok (.iload_n 1, 1) := by decide +kernel
theorem dX6_parse_52 : decode cX6_parse 52 = .ok (.ireturn, 1) := by decide +kernel
theorem dX6_parse_53 : decode cX6_parse 53 = .ok (.iinc 1 1, 3) := by decide +kernel
theorem dX6_parse_56 : decode cX6_parse 56 = .ok (.goto (-37), 3) := by decide +kernel
theorem dX6_parse_59 : decode cX6_parse 59 = .ok (.aload_n 0, 1) := by decide +kernel
theorem dX6_parse_60 : decode cX6_parse 60 = .ok (.getfield 29, 3) := by decide +kernel
theorem dX6_parse_63 : decode cX6_parse 63 = .ok (.ifCond .eq 10, 3) := by decide +kernel
theorem dX6_parse_66 : decode cX6_parse 66 = .ok (.aload_n 0, 1) := by decide +kernel
theorem dX6_parse_67 : decode cX6_parse 67 = .ok (.getfield 15, 3) := by decide +kernel
theorem dX6_parse_70 : decode cX6_parse 70 = .ok (.goto 4, 3) := by decide +kernel
theorem dX6_parse_73 : decode cX6_parse 73 = .ok (.iconst (-1), 1) := by decide +kernel
theorem dX6_parse_74 : decode cX6_parse 74 = .ok (.ireturn, 1) := by decide +kernel
theorem dX6_accepts_0 : decode cX6_accepts 0 = .ok (.iload_n 1, 1) := by decide +kernel
theorem dX6_accepts_1 : decode cX6_accepts 1 = .ok (.bipush 65, 2) := by decide +kernel
theorem dX6_accepts_3 : decode cX6_accepts 3 = .ok (.if_icmp .lt 18, 3) := by decide +kernel
theorem dX6_accepts_6 : decode cX6_accepts 6 = .ok (.iload_n 1, 1) := by decide +kernel
theorem dX6_accepts_7 : decode cX6_accepts 7 = .ok (.bipush 68, 2) := by decide +kernel
theorem dX6_accepts_9 : decode cX6_accepts 9 = .ok (.if_icmp .gt 12, 3) := by decide +kernel
theorem dX6_accepts_12 : decode cX6_accepts 12 = .ok (.aload_n 0, 1) := by decide +kernel
theorem dX6_accepts_13 : decode cX6_accepts 13 = .ok (.iload_n 1, 1) := by decide +kernel
theorem dX6_accepts_14 : decode cX6_accepts 14 = .ok (.bipush 65, 2) := by decide +kernel
theorem dX6_accepts_16 : decode cX6_accepts 16 = .ok (.isub, 1) := by decide +kernel
theorem dX6_accepts_17 : decode cX6_accepts 17 = .ok (.invokevirtual 40, 3) := by decide +kernel
theorem dX6_accepts_20 : decode cX6_accepts 20 = .ok (.ireturn, 1) := by decide +kernel
theorem dX6_accepts_21 : decode cX6_accepts 21 = .ok (.aload_n 0, 1) := by decide +kernel
theorem dX6_accepts_22 : decode cX6_accepts 22 = .ok (.getfield 29, 3) := by decide +kernel
theorem dX6_accepts_25 : decode cX6_accepts 25 = .ok (.ifCond .ne 13, 3) := by decide +kernel
theorem dX6_accepts_28 : decode cX6_accepts 28 = .ok (.aload_n 0, 1) := by decide +kernel
theorem dX6_accepts_29 : decode cX6_accepts 29 = .ok (.getfield 22, 3) := by decide +kernel
theorem dX6_accepts_32 : decode cX6_accepts 32 = .ok (.invokevirtual 43, 3) := by decide +kernel
theorem dX6_accepts_35 : decode cX6_accepts 35 = .ok (.ifCond .ne 5, 3) := by decide +kernel
theorem dX6_accepts_38 : decode cX6_accepts 38 = .ok (.iconst 0, 1) := by decide +kernel
theorem dX6_accepts_39 : decode cX6_accepts 39 = .ok (.ireturn, 1) := by decide +kernel
theorem dX6_accepts_40 : decode cX6_accepts 40 = .ok (.iload_n 1, 1) := by decide +kernel
theorem dX6_accepts_41 : decode cX6_accepts 41 = .ok (.bipush 49, 2) := by decide +kernel
theorem dX6_accepts_43 : decode cX6_accepts 43 = .ok (.if_icmp .lt 35, 3) := by decide +kernel
theorem dX6_accepts_46 : decode cX6_accepts 46 = .ok (.iload_n 1, 1) := by decide +kernel
theorem dX6_accepts_47 : decode cX6_accepts 47 = .ok (.bipush 57, 2) := by decide +kernel
theorem dX6_accepts_49 : decode cX6_accepts 49 = .ok (.if_icmp .gt 29, 3) := by decide +kernel
theorem dX6_accepts_52 : decode cX6_accepts 52 = .ok (.aload_n 0, 1) := by decide +kernel
theorem dX6_accepts_53 : decode cX6_accepts 53 = .ok (.iconst 1, 1) := by decide +kernel
theorem dX6_accepts_54 : decode cX6_accepts 54 = .ok (.putfield 33, 3) := by decide +kernel
theorem dX6_accepts_57 : decode cX6_accepts 57 = .ok (.aload_n 0, 1) := by decide +kernel
theorem dX6_accepts_58 : decode cX6_accepts 58 = .ok (.getfield 22, 3) := by decide +kernel
theorem dX6_accepts_61 : decode cX6_accepts 61 = .ok (.iload_n 1, 1) := by decide +kernel
theorem dX6_accepts_62 : decode cX6_accepts 62 = .ok (.bipush 48, 2) := by decide +kernel
theorem dX6_accepts_64 : decode cX6_accepts 64 = .ok (.isub, 1) := by decide +kernel
theorem dX6_accepts_65 : decode cX6_accepts 65 = .ok (.iconst 0, 1) := by decide +kernel
theorem dX6_accepts_66 : decode cX6_accepts 66 = .ok (.invokevirtual 47, 3) := by decide +kernel
theorem dX6_accepts_69 : decode cX6_accepts 69 = .ok (.ifCond .le 7, 3) := by decide +kernel
theorem dX6_accepts_72 : decode cX6_accepts 72 = .ok (.iconst 1, 1) := by decide +kernel
theorem dX6_accepts_73 : decode cX6_accepts 73 = .ok (.goto 4, 3) := by decide +kernel
theorem dX6_accepts_76 : decode cX6_accepts 76 = .ok (.iconst 0, 1) := by decide +kernel
theorem dX6_accepts_77 : decode cX6_accepts 77 = .ok (.ireturn, 1) := by decide +kernel
theorem dX6_accepts_78 : decode cX6_accepts 78 = .ok (.iload_n 1, 1) := by decide +kernel
theorem dX6_accepts_79 : decode cX6_accepts 79 = .ok (.bipush 124, 2) := by decide +kernel
theorem dX6_accepts_81 : decode cX6_accepts 81 = .ok (.if_icmp .ne 10, 3) := by decide +kernel
theorem dX6_accepts_84 : decode cX6_accepts 84 = .ok (.aload_n 0, 1) := by decide +kernel
theorem dX6_accepts_85 : decode cX6_accepts 85 = .ok (.iconst 1, 1) := by decide +kernel
theorem dX6_accepts_86 : decode cX6_accepts 86 = .ok (.putfield 29, 3) := by decide +kernel
theorem dX6_accepts_89 : decode cX6_accepts 89 = .ok (.iconst 1, 1) := by decide +kernel
theorem dX6_accepts_90 : decode cX6_accepts 90 = .ok (.ireturn, 1) := by decide +kernel
theorem dX6_accepts_91 : decode cX6_accepts 91 = .ok (.aload_n 0, 1) := by decide +kernel
theorem dX6_accepts_92 : decode cX6_accepts 92 = .ok (.iload_n 1, 1) := by decide +kernel
theorem dX6_accepts_93 : decode cX6_accepts 93 = .ok (.invokevirtual 51, 3) := by decide +kernel
theorem dX6_accepts_96 : decode cX6_accepts 96 = .ok (.ireturn, 1) := by decide +kernel
theorem dX6_acceptsLine_0 : decode cX6_acceptsLine 0 = .ok (.aload_n 0, 1) := by decide +kernel
theorem dX6_acceptsLine_1 : decode cX6_acceptsLine 1 = .ok (.getfield 29, 3) := by decide +kernel
theorem dX6_acceptsLine_4 : decode cX6_acceptsLine 4 = .ok (.ifCond .eq 7, 3) := by decide +kernel
theorem dX6_acceptsLine_7 : decode cX6_acceptsLine 7 = .ok (.iconst 1, 1) := by decide +kernel
theorem dX6_acceptsLine_8 : decode cX6_acceptsLine 8 = .ok (.goto 4, 3) := by decide +kernel
theorem dX6_acceptsLine_11 : decode cX6_acceptsLine 11 = .ok (.iconst 0, 1) := by decide +kernel
theorem dX6_acceptsLine_12 : decode cX6_acceptsLine 12 = .ok (.istore_n 2, 1) := by decide +kernel
theorem dX6_acceptsLine_13 : decode cX6_acceptsLine 13 = .ok (.aload_n 0, 1) := by decide +kernel
theorem dX6_acceptsLine_14 : decode cX6_acceptsLine 14 = .ok (.iconst 0, 1) := by decide +kernel
theorem dX6_acceptsLine_15 : decode cX6_acceptsLine 15 = .ok (.putfield 29, 3) := by decide +kernel
theorem dX6_acceptsLine_18 : decode cX6_acceptsLine 18 = .ok (.aload_n 0, 1) := by decide +kernel
theorem dX6_acceptsLine_19 : decode cX6_acceptsLine 19 = .ok (.iconst 0, 1) := by decide +kernel
theorem dX6_acceptsLine_20 : decode cX6_acceptsLine 20 = .ok (.putfield 33, 3) := by decide +kernel
theorem dX6_acceptsLine_23 : decode cX6_acceptsLine 23 = .ok (.aload_n 0, 1) := by decide +kernel
theorem dX6_acceptsLine_24 : decode cX6_acceptsLine 24 = .ok (.getfield 22, 3) := by decide +kernel
theorem dX6_acceptsLine_27 : decode cX6_acceptsLine 27 = .ok (.iload_n 1, 1) := by decide +kernel
theorem dX6_acceptsLine_28 : decode cX6_acceptsLine 28 = .ok (.iload_n 2, 1) := by decide +kernel
theorem dX6_acceptsLine_29 : decode cX6_acceptsLine 29 = .ok (.invokevirtual 54, 3) := by decide +kernel
theorem dX6_acceptsLine_32 : decode cX6_acceptsLine 32 = .ok (.ifCond .lt 7, 3) := by decide +kernel
theorem dX6_acceptsLine_35 : decode cX6_acceptsLine 35 = .ok (.iconst 1, 1) := by decide +kernel
theorem dX6_acceptsLine_36 : decode cX6_acceptsLine 36 = .ok (.goto 4, 3) := by decide +kernel
theorem dX6_acceptsLine_39 : decode cX6_acceptsLine 39 = .ok (.iconst 0, 1) := by decide +kernel
theorem dX6_acceptsLine_40 : decode cX6_acceptsLine 40 = .ok (.ireturn, 1) := by decide +kernel
theorem dX6_acceptsPause_0 : decode cX6_acceptsPause 0 = .ok (.iload_n 1, 1) := by decide +kernel
theorem dX6_acceptsPause_1 : decode cX6_acceptsPause 1 = .ok (.invokestatic 57, 3) := by decide +kernel
theorem dX6_acceptsPause_4 : decode cX6_acceptsPause 4 = .ok (.istore_n 2, 1) := by decide +kernel
theorem dX6_acceptsPause_5 : decode cX6_acceptsPause 5 = .ok (.iload_n 2, 1) := by decide +kernel
theorem dX6_acceptsPause_6 : decode cX6_acceptsPause 6 = .ok (.ifCond .eq 10, 3) := by decide +kernel
theorem dX6_acceptsPause_9 : decode cX6_acceptsPause 9 = .ok (.aload_n 0, 1) := by decide +kernel
theorem dX6_acceptsPause_10 : decode cX6_acceptsPause 10 = .ok (.getfield 33, 3) := by decide +kernel
theorem dX6_acceptsPause_13 : decode cX6_acceptsPause 13 = .ok (.ifCond .ne 5, 3) := by decide +kernel
theorem dX6_acceptsPause_16 : decode cX6_acceptsPause 16 = .ok (.iconst 0, 1) := by decide +kernel
theorem dX6_acceptsPause_17 : decode cX6_acceptsPause 17 = .ok (.ireturn, 1) := by decide +kernel
theorem dX6_acceptsPause_18 : decode cX6_acceptsPause 18 = .ok (.aload_n 0, 1) := by decide +kernel
theorem dX6_acceptsPause_19 : decode cX6_acceptsPause 19 = .ok (.iconst 0, 1) := by decide +kernel
theorem dX6_acceptsPause_20 : decode cX6_acceptsPause 20 = .ok (.putfield 33, 3) := by decide +kernel
theorem dX6_acceptsPause_23 : decode cX6_acceptsPause 23 = .ok (.aload_n 0, 1) := by decide +kernel
theorem dX6_acceptsPause_24 : decode cX6_acceptsPause 24 = .ok (.getfield 22, 3) := by decide +kernel
theorem dX6_acceptsPause_27 : decode cX6_acceptsPause 27 = .ok (.iload_n 2, 1) := by decide +kernel
theorem dX6_acceptsPause_28 : decode cX6_acceptsPause 28 = .ok (.invokevirtual 61, 3) := by decide +kernel
theorem dX6_acceptsPause_31 : decode cX6_acceptsPause 31 = .ok (.iconst 1, 1) := by decide +kernel
theorem dX6_acceptsPause_32 : decode cX6_acceptsPause 32 = .ok (.ireturn, 1) := by decide +kernel
theorem dX6_pauseOf_0 : decode cX6_pauseOf 0 = .ok (.iload_n 0, 1) := by decide +kernel
theorem dX6_pauseOf_1 : decode cX6_pauseOf 1 = .ok (.lookupswitch 41 #[(33, 39), (44, 35), (46, 37)], 35) := by decide +kernel
theorem dX6_pauseOf_36 : decode cX6_pauseOf 36 = .ok (.iconst 1, 1) := by decide +kernel
theorem dX6_pauseOf_37 : decode cX6_pauseOf 37 = .ok (.ireturn, 1) := by decide +kernel
theorem dX6_pauseOf_38 : decode cX6_pauseOf 38 = .ok (.iconst 2, 1) := by decide +kernel
theorem dX6_pauseOf_39 : decode cX6_pauseOf 39 = .ok (.ireturn, 1) := by decide +kernel
theorem dX6_pauseOf_40 : decode cX6_pauseOf 40 = .ok (.iconst 3, 1) := by decide +kernel
theorem dX6_pauseOf_41 : decode cX6_pauseOf 41 = .ok (.ireturn, 1) := by decide +kernel
theorem dX6_pauseOf_42 : decode cX6_pauseOf 42 = .ok (.iconst 0, 1) := by decide +kernel
theorem dX6_pauseOf_43 : decode cX6_pauseOf 43 = .ok (.ireturn, 1) := by decide +kernel
