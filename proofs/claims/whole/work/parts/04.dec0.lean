theorem dX0_init_0 : decode cX0_init 0 = .ok (.aload_n 0, 1) := by decide +kernel
theorem dX0_init_1 : decode cX0_init 1 = .ok (.invokespecial 3, 3) := by decide +kernel
theorem dX0_init_4 : decode cX0_init 4 = .ok (.aload_n 0, 1) := by decide +kernel
theorem dX0_init_5 : decode cX0_init 5 = .ok (.bipush 6, 2) := by decide +kernel
theorem dX0_init_7 : decode cX0_init 7 = .ok (.anewarray 9, 3) := by decide +kernel
theorem dX0_init_10 : decode cX0_init 10 = .ok (.putfield 11, 3) := by decide +kernel
theorem dX0_init_13 : decode cX0_init 13 = .ok (.aload_n 0, 1) := by decide +kernel
theorem dX0_init_14 : decode cX0_init 14 = .ok (.iconst 0, 1) := by decide +kernel
theorem dX0_init_15 : decode cX0_init 15 = .ok (.putfield 17, 3) := by decide +kernel
theorem dX0_init_18 : decode cX0_init 18 = .ok (.aload_n 0, 1) := by decide +kernel
theorem dX0_init_19 : decode cX0_init 19 = .ok (.iconst 0, 1) := by decide +kernel
theorem dX0_init_20 : decode cX0_init 20 = .ok (.putfield 21, 3) := by decide +kernel
theorem dX0_init_23 : decode cX0_init 23 = .ok (.iconst 0, 1) := by decide +kernel
theorem dX0_init_24 : decode cX0_init 24 = .ok (.istore_n 1, 1) := by decide +kernel
theorem dX0_init_25 : decode cX0_init 25 = .ok (.iload_n 1, 1) := by decide +kernel
theorem dX0_init_26 : decode cX0_init 26 = .ok (.bipush 6, 2) := by decide +kernel
theorem dX0_init_28 : decode cX0_init 28 = .ok (.if_icmp .ge 22, 3) := by decide +kernel
theorem dX0_init_31 : decode cX0_init 31 = .ok (.aload_n 0, 1) := by decide +kernel
theorem dX0_init_32 : decode cX0_init 32 = .ok (.getfield 11, 3) := by decide +kernel
theorem dX0_init_35 : decode cX0_init 35 = .ok (.iload_n 1, 1) := by decide +kernel
theorem dX0_init_36 : decode cX0_init 36 = .ok (.new 9, 3) := by decide +kernel
theorem dX0_init_39 : decode cX0_init 39 = .ok (.dup, 1) := by decide +kernel
theorem dX0_init_40 : decode cX0_init 40 = .ok (.invokespecial 24, 3) := by decide +kernel
theorem dX0_init_43 : decode cX0_init 43 = .ok (.aastore, 1) := by decide +kernel
theorem dX0_init_44 : decode cX0_init 44 = .ok (.iinc 1 1, 3) := by decide +kernel
theorem dX0_init_47 : decode cX0_init 47 = .ok (.goto (-22), 3) := by decide +kernel
theorem dX0_init_50 : decode cX0_init 50 = .ok (.return_, 1) := by decide +kernel
theorem dX0_remember_0 : decode cX0_remember 0 = .ok (.aload_n 0, 1) := by decide +kernel
theorem dX0_remember_1 : decode cX0_remember 1 = .ok (.getfield 11, 3) := by decide +kernel
theorem dX0_remember_4 : decode cX0_remember 4 = .ok (.aload_n 0, 1) := by decide +kernel
theorem dX0_remember_5 : decode cX0_remember 5 = .ok (.getfield 17, 3) := by decide +kernel
theorem dX0_remember_8 : decode cX0_remember 8 = .ok (.aaload, 1) := by decide +kernel
theorem dX0_remember_9 : decode cX0_remember 9 = .ok (.aload_n 1, 1) := by decide +kernel
theorem dX0_remember_10 : decode cX0_remember 10 = .ok (.invokevirtual 25, 3) := by decide +kernel
theorem dX0_remember_13 : decode cX0_remember 13 = .ok (.aload_n 0, 1) := by decide +kernel
theorem dX0_remember_14 : decode cX0_remember 14 = .ok (.aload_n 0, 1) := by decide +kernel
theorem dX0_remember_15 : decode cX0_remember 15 = .ok (.getfield 17, 3) := by decide +kernel
theorem dX0_remember_18 : decode cX0_remember 18 = .ok (.iconst 1, 1) := by decide +kernel
theorem dX0_remember_19 : decode cX0_remember 19 = .ok (.iadd, 1) := by decide +kernel
theorem dX0_remember_20 : decode cX0_remember 20 = .ok (.bipush 6, 2) := by decide +kernel
theorem dX0_remember_22 : decode cX0_remember 22 = .ok (.irem, 1) := by decide +kernel
theorem dX0_remember_23 : decode cX0_remember 23 = .ok (.putfield 17, 3) := by decide +kernel
theorem dX0_remember_26 : decode cX0_remember 26 = .ok (.aload_n 0, 1) := by decide +kernel
theorem dX0_remember_27 : decode cX0_remember 27 = .ok (.aload_n 0, 1) := by decide +kernel
theorem dX0_remember_28 : decode cX0_remember 28 = .ok (.getfield 21, 3) := by decide +kernel
theorem dX0_remember_31 : decode cX0_remember 31 = .ok (.iconst 1, 1) := by decide +kernel
theorem dX0_remember_32 : decode cX0_remember 32 = .ok (.iadd, 1) := by decide +kernel
theorem dX0_remember_33 : decode cX0_remember 33 = .ok (.bipush 6, 2) := by decide +kernel
theorem dX0_remember_35 : decode cX0_remember 35 = .ok (.invokestatic 29, 3) := by decide +kernel
theorem dX0_remember_38 : decode cX0_remember 38 = .ok (.putfield 21, 3) := by decide +kernel
theorem dX0_remember_41 : decode cX0_remember 41 = .ok (.return_, 1) := by decide +kernel
theorem dX0_takeBack_0 : decode cX0_takeBack 0 = .ok (.aload_n 0, 1) := by decide +kernel
theorem dX0_takeBack_1 : decode cX0_takeBack 1 = .ok (.aload_n 0, 1) := by decide +kernel
theorem dX0_takeBack_2 : decode cX0_takeBack 2 = .ok (.getfield 17, 3) := by decide +kernel
theorem dX0_takeBack_5 : decode cX0_takeBack 5 = .ok (.bipush 6, 2) := by decide +kernel
theorem dX0_takeBack_7 : decode cX0_takeBack 7 = .ok (.iadd, 1) := by decide +kernel
theorem dX0_takeBack_8 : decode cX0_takeBack 8 = .ok (.iconst 1, 1) := by decide +kernel
theorem dX0_takeBack_9 : decode cX0_takeBack 9 = .ok (.isub, 1) := by decide +kernel
theorem dX0_takeBack_10 : decode cX0_takeBack 10 = .ok (.bipush 6, 2) := by decide +kernel
theorem dX0_takeBack_12 : decode cX0_takeBack 12 = .ok (.irem, 1) := by decide +kernel
theorem dX0_takeBack_13 : decode cX0_takeBack 13 = .ok (.putfield 17, 3) := by decide +kernel
theorem dX0_takeBack_16 : decode cX0_takeBack 16 = .ok (.aload_n 1, 1) := by decide +kernel
theorem dX0_takeBack_17 : decode cX0_takeBack 17 = .ok (.aload_n 0, 1) := by decide +kernel
theorem dX0_takeBack_18 : decode cX0_takeBack 18 = .ok (.getfield 11, 3) := by decide +kernel
theorem dX0_takeBack_21 : decode cX0_takeBack 21 = .ok (.aload_n 0, 1) := by decide +kernel
theorem dX0_takeBack_22 : decode cX0_takeBack 22 = .ok (.getfield 17, 3) := by decide +kernel
theorem dX0_takeBack_25 : decode cX0_takeBack 25 = .ok (.aaload, 1) := by decide +kernel
theorem dX0_takeBack_26 : decode cX0_takeBack 26 = .ok (.invokevirtual 25, 3) := by decide +kernel
theorem dX0_takeBack_29 : decode cX0_takeBack 29 = .ok (.aload_n 0, 1) := by decide +kernel
theorem dX0_takeBack_30 : decode cX0_takeBack 30 = .ok (.dup, 1) := by decide +kernel
theorem dX0_takeBack_31 : decode cX0_takeBack 31 = .ok (.getfield 21, 3) := by decide +kernel
theorem dX0_takeBack_34 : decode cX0_takeBack 34 = .ok (.iconst 1, 1) := by decide +kernel
theorem dX0_takeBack_35 : decode cX0_takeBack 35 = .ok (.isub, 1) := by decide +kernel
theorem dX0_takeBack_36 : decode cX0_takeBack 36 = .ok (.putfield 21, 3) := by decide +kernel
theorem dX0_takeBack_39 : decode cX0_takeBack 39 = .ok (.return_, 1) := by decide +kernel
theorem dX0_takeOver_0 : decode cX0_takeOver 0 = .ok (.iconst 0, 1) := by decide +kernel
theorem dX0_takeOver_1 : decode cX0_takeOver 1 = .ok (.istore_n 2, 1) := by decide +kernel
theorem dX0_takeOver_2 : decode cX0_takeOver 2 = .ok (.iload_n 2, 1) := by decide +kernel
theorem dX0_takeOver_3 : decode cX0_takeOver 3 = .ok (.bipush 6, 2) := by decide +kernel
theorem dX0_takeOver_5 : decode cX0_takeOver 5 = .ok (.if_icmp .ge 24, 3) := by decide +kernel
theorem dX0_takeOver_8 : decode cX0_takeOver 8 = .ok (.aload_n 0, 1) := by decide +kernel
theorem dX0_takeOver_9 : decode cX0_takeOver 9 = .ok (.getfield 11, 3) := by decide +kernel
theorem dX0_takeOver_12 : decode cX0_takeOver 12 = .ok (.iload_n 2, 1) := by decide +kernel
theorem dX0_takeOver_13 : decode cX0_takeOver 13 = .ok (.aaload, 1) := by decide +kernel
theorem dX0_takeOver_14 : decode cX0_takeOver 14 = .ok (.aload_n 1, 1) := by decide +kernel
theorem dX0_takeOver_15 : decode cX0_takeOver 15 = .ok (.getfield 11, 3) := by decide +kernel
theorem dX0_takeOver_18 : decode cX0_takeOver 18 = .ok (.iload_n 2, 1) := by decide +kernel
theorem dX0_takeOver_19 : decode cX0_takeOver 19 = .ok (.aaload, 1) := by decide +kernel
theorem dX0_takeOver_20 : decode cX0_takeOver 20 = .ok (.invokevirtual 25, 3) := by decide +kernel
theorem dX0_takeOver_23 : decode cX0_takeOver 23 = .ok (.iinc 2 1, 3) := by decide +kernel
theorem dX0_takeOver_26 : decode cX0_takeOver 26 = .ok (.goto (-24), 3) := by decide +kernel
theorem dX0_takeOver_29 : decode cX0_takeOver 29 = .ok (.aload_n 0, 1) := by decide +kernel
theorem dX0_takeOver_30 : decode cX0_takeOver 30 = .ok (.aload_n 1, 1) := by decide +kernel
theorem dX0_takeOver_31 : decode cX0_takeOver 31 = .ok (.getfield 17, 3) := by decide +kernel
theorem dX0_takeOver_34 : decode cX0_takeOver 34 = .ok (.putfield 17, 3) := by decide +kernel
theorem dX0_takeOver_37 : decode cX0_takeOver 37 = .ok (.aload_n 0, 1) := by decide +kernel
theorem dX0_takeOver_38 : decode cX0_takeOver 38 = .ok (.aload_n 1, 1) := by decide +kernel
theorem dX0_takeOver_39 : decode cX0_takeOver 39 = .ok (.getfield 21, 3) := by decide +kernel
theorem dX0_takeOver_42 : decode cX0_takeOver 42 = .ok (.putfield 21, 3) := by decide +kernel
theorem dX0_takeOver_45 : decode cX0_takeOver 45 = .ok (.return_, 1) := by decide +kernel
theorem dX1_init_0 : decode cX1_init 0 = .ok (.aload_n 0, 1) := by decide +kernel
theorem dX1_init_1 : decode cX1_init 1 = .ok (.invokespecial 3, 3) := by decide +kernel
theorem dX1_init_4 : decode cX1_init 4 = .ok (.aload_n 0, 1) := by decide +kernel
theorem dX1_init_5 : decode cX1_init 5 = .ok (.bipush 7, 2) := by decide +kernel
theorem dX1_init_7 : decode cX1_init 7 = .ok (.newarray .int, 2) := by decide +kernel
theorem dX1_init_9 : decode cX1_init 9 = .ok (.putfield 9, 3) := by decide +kernel
theorem dX1_init_12 : decode cX1_init 12 = .ok (.aload_n 0, 1) := by decide +kernel
theorem dX1_init_13 : decode cX1_init 13 = .ok (.bipush 7, 2) := by decide +kernel
theorem dX1_init_15 : decode cX1_init 15 = .ok (.newarray .int, 2) := by decide +kernel
theorem dX1_init_17 : decode cX1_init 17 = .ok (.putfield 15, 3) := by decide +kernel
theorem dX1_init_20 : decode cX1_init 20 = .ok (.aload_n 0, 1) := by decide +kernel
theorem dX1_init_21 : decode cX1_init 21 = .ok (.bipush 7, 2) := by decide +kernel
theorem dX1_init_23 : decode cX1_init 23 = .ok (.newarray .int, 2) := by decide +kernel
theorem dX1_init_25 : decode cX1_init 25 = .ok (.putfield 18, 3) := by decide +kernel
theorem dX1_init_28 : decode cX1_init 28 = .ok (.aload_n 0, 1) := by decide +kernel
theorem dX1_init_29 : decode cX1_init 29 = .ok (.bipush 6, 2) := by decide +kernel
theorem dX1_init_31 : decode cX1_init 31 = .ok (.newarray .int, 2) := by decide +kernel
theorem dX1_init_33 : decode cX1_init 33 = .ok (.putfield 21, 3) := by decide +kernel
theorem dX1_init_36 : decode cX1_init 36 = .ok (.aload_n 0, 1) := by decide +kernel
theorem dX1_init_37 : decode cX1_init 37 = .ok (.bipush 6, 2) := by decide +kernel
theorem dX1_init_39 : decode cX1_init 39 = .ok (.newarray .int, 2) := by decide +kernel
theorem dX1_init_41 : decode cX1_init 41 = .ok (.putfield 24, 3) := by decide +kernel
theorem dX1_init_44 : decode cX1_init 44 = .ok (.return_, 1) := by decide +kernel
theorem dX1_compute_0 : decode cX1_compute 0 = .ok (.aload_n 1, 1) := by decide +kernel
theorem dX1_compute_1 : decode cX1_compute 1 = .ok (.iload_n 2, 1) := by decide +kernel
theorem dX1_compute_2 : decode cX1_compute 2 = .ok (.invokevirtual 27, 3) := by decide +kernel
theorem dX1_compute_5 : decode cX1_compute 5 = .ok (.istore_n 3, 1) := by decide +kernel
theorem dX1_compute_6 : decode cX1_compute 6 = .ok (.aload_n 0, 1) := by decide +kernel
theorem dX1_compute_7 : decode cX1_compute 7 = .ok (.aload_n 1, 1) := by decide +kernel
theorem dX1_compute_8 : decode cX1_compute 8 = .ok (.iload_n 2, 1) := by decide +kernel
theorem dX1_compute_9 : decode cX1_compute 9 = .ok (.invokevirtual 33, 3) := by decide +kernel
theorem dX1_compute_12 : decode cX1_compute 12 = .ok (.putfield 36, 3) := by decide +kernel
theorem dX1_compute_15 : decode cX1_compute 15 = .ok (.aload_n 0, 1) := by decide +kernel
theorem dX1_compute_16 : decode cX1_compute 16 = .ok (.getfield 9, 3) := by decide +kernel
theorem dX1_compute_19 : decode cX1_compute 19 = .ok (.iload_n 3, 1) := by decide +kernel
theorem dX1_compute_20 : decode cX1_compute 20 = .ok (.iconst 0, 1) := by decide +kernel
theorem dX1_compute_21 : decode cX1_compute 21 = .ok (.iastore, 1) := by decide +kernel
theorem dX1_compute_22 : decode cX1_compute 22 = .ok (.aload_n 0, 1) := by decide +kernel
theorem dX1_compute_23 : decode cX1_compute 23 = .ok (.getfield 18, 3) := by decide +kernel
theorem dX1_compute_26 : decode cX1_compute 26 = .ok (.iload_n 3, 1) := by decide +kernel
theorem dX1_compute_27 : decode cX1_compute 27 = .ok (.iconst 1, 1) := by decide +kernel
theorem dX1_compute_28 : decode cX1_compute 28 = .ok (.iastore, 1) := by decide +kernel
theorem dX1_compute_29 : decode cX1_compute 29 = .ok (.iload_n 3, 1) := by decide +kernel
theorem dX1_compute_30 : decode cX1_compute 30 = .ok (.iconst 1, 1) := by decide +kernel
theorem dX1_compute_31 : decode cX1_compute 31 = .ok (.isub, 1) := by decide +kernel
theorem dX1_compute_32 : decode cX1_compute 32 = .ok (.istore 4, 2) := by decide +kernel
theorem dX1_compute_34 : decode cX1_compute 34 = .ok (.iload 4, 2) := by decide +kernel
theorem dX1_compute_36 : decode cX1_compute 36 = .ok (.ifCond .lt 17, 3) := by decide +kernel
theorem dX1_compute_39 : decode cX1_compute 39 = .ok (.aload_n 0, 1) := by decide +kernel
theorem dX1_compute_40 : decode cX1_compute 40 = .ok (.aload_n 1, 1) := by decide +kernel
theorem dX1_compute_41 : decode cX1_compute 41 = .ok (.iload_n 2, 1) := by decide +kernel
theorem dX1_compute_42 : decode cX1_compute 42 = .ok (.iload 4, 2) := by decide +kernel
theorem dX1_compute_44 : decode cX1_compute 44 = .ok (.invokevirtual 40, 3) := by decide +kernel
theorem dX1_compute_47 : decode cX1_compute 47 = .ok (.iinc 4 (-1), 3) := by decide +kernel
theorem dX1_compute_50 : decode cX1_compute 50 = .ok (.goto (-16), 3) := by decide +kernel
theorem dX1_compute_53 : decode cX1_compute 53 = .ok (.aload_n 0, 1) := by decide +kernel
theorem dX1_compute_54 : decode cX1_compute 54 = .ok (.aload_n 0, 1) := by decide +kernel
theorem dX1_compute_55 : decode cX1_compute 55 = .ok (.getfield 18, 3) := by decide +kernel
theorem dX1_compute_58 : decode cX1_compute 58 = .ok (.iconst 0, 1) := by decide +kernel
theorem dX1_compute_59 : decode cX1_compute 59 = .ok (.iaload, 1) := by decide +kernel
theorem dX1_compute_60 : decode cX1_compute 60 = .ok (.putfield 44, 3) := by decide +kernel
theorem dX1_compute_63 : decode cX1_compute 63 = .ok (.aload_n 0, 1) := by decide +kernel
theorem dX1_compute_64 : decode cX1_compute 64 = .ok (.aload_n 0, 1) := by decide +kernel
theorem dX1_compute_65 : decode cX1_compute 65 = .ok (.getfield 9, 3) := by decide +kernel
theorem dX1_compute_68 : decode cX1_compute 68 = .ok (.iconst 0, 1) := by decide +kernel
theorem dX1_compute_69 : decode cX1_compute 69 = .ok (.iaload, 1) := by decide +kernel
theorem dX1_compute_70 : decode cX1_compute 70 = .ok (.putfield 47, 3) := by decide +kernel
theorem dX1_compute_73 : decode cX1_compute 73 = .ok (.aload_n 0, 1) := by decide +kernel
theorem dX1_compute_74 : decode cX1_compute 74 = .ok (.getfield 47, 3) := by decide +kernel
theorem dX1_compute_77 : decode cX1_compute 77 = .ok (.bipush (-4), 2) := by decide +kernel
theorem dX1_compute_79 : decode cX1_compute 79 = .ok (.if_icmp .ne 12, 3) := by decide +kernel
theorem dX1_compute_82 : decode cX1_compute 82 = .ok (.aload_n 0, 1) := by decide +kernel
theorem dX1_compute_83 : decode cX1_compute 83 = .ok (.bipush (-4), 2) := by decide +kernel
theorem dX1_compute_85 : decode cX1_compute 85 = .ok (.putfield 50, 3) := by decide +kernel
theorem dX1_compute_88 : decode cX1_compute 88 = .ok (.goto 9, 3) := by decide +kernel
theorem dX1_compute_91 : decode cX1_compute 91 = .ok (.aload_n 0, 1) := by decide +kernel
theorem dX1_compute_92 : decode cX1_compute 92 = .ok (.aload_n 1, 1) := by decide +kernel
theorem dX1_compute_93 : decode cX1_compute 93 = .ok (.iload_n 2, 1) := by decide +kernel
theorem dX1_compute_94 : decode cX1_compute 94 = .ok (.invokevirtual 53, 3) := by decide +kernel
theorem dX1_compute_97 : decode cX1_compute 97 = .ok (.return_, 1) := by decide +kernel
theorem dX1_rowOf_0 : decode cX1_rowOf 0 = .ok (.aload_n 0, 1) := by decide +kernel
theorem dX1_rowOf_1 : decode cX1_rowOf 1 = .ok (.getfield 47, 3) := by decide +kernel
theorem dX1_rowOf_4 : decode cX1_rowOf 4 = .ok (.bipush (-4), 2) := by decide +kernel
theorem dX1_rowOf_6 : decode cX1_rowOf 6 = .ok (.if_icmp .ne 8, 3) := by decide +kernel
theorem dX1_rowOf_9 : decode cX1_rowOf 9 = .ok (.bipush (-4), 2) := by decide +kernel
theorem dX1_rowOf_11 : decode cX1_rowOf 11 = .ok (.goto 9, 3) := by decide +kernel
theorem dX1_rowOf_14 : decode cX1_rowOf 14 = .ok (.aload_n 0, 1) := by decide +kernel
theorem dX1_rowOf_15 : decode cX1_rowOf 15 = .ok (.getfield 21, 3) := by decide +kernel
theorem dX1_rowOf_18 : decode cX1_rowOf 18 = .ok (.iload_n 1, 1) := by decide +kernel
theorem dX1_rowOf_19 : decode cX1_rowOf 19 = .ok (.iaload, 1) := by decide +kernel
theorem dX1_rowOf_20 : decode cX1_rowOf 20 = .ok (.ireturn, 1) := by decide +kernel
theorem dX1_positionOf_0 : decode cX1_positionOf 0 = .ok (.aload_n 0, 1) := by decide +kernel
theorem dX1_positionOf_1 : decode cX1_positionOf 1 = .ok (.getfield 47, 3) := by decide +kernel
theorem dX1_positionOf_4 : decode cX1_positionOf 4 = .ok (.bipush (-4), 2) := by decide +kernel
theorem dX1_positionOf_6 : decode cX1_positionOf 6 = .ok (.if_icmp .ne 8, 3) := by decide +kernel
theorem dX1_positionOf_9 : decode cX1_positionOf 9 = .ok (.bipush (-4), 2) := by decide +kernel
theorem dX1_positionOf_11 : decode cX1_positionOf 11 = .ok (.goto 9, 3) := by decide +kernel
theorem dX1_positionOf_14 : decode cX1_positionOf 14 = .ok (.aload_n 0, 1) := by decide +kernel
theorem dX1_positionOf_15 : decode cX1_positionOf 15 = .ok (.getfield 24, 3) := by decide +kernel
theorem dX1_positionOf_18 : decode cX1_positionOf 18 = .ok (.iload_n 1, 1) := by decide +kernel
theorem dX1_positionOf_19 : decode cX1_positionOf 19 = .ok (.iaload, 1) := by decide +kernel
theorem dX1_positionOf_20 : decode cX1_positionOf 20 = .ok (.ireturn, 1) := by decide +kernel
theorem dX1_beginRow_0 : decode cX1_beginRow 0 = .ok (.aload_n 1, 1) := by decide +kernel
theorem dX1_beginRow_1 : decode cX1_beginRow 1 = .ok (.iload_n 2, 1) := by decide +kernel
theorem dX1_beginRow_2 : decode cX1_beginRow 2 = .ok (.invokevirtual 27, 3) := by decide +kernel
theorem dX1_beginRow_5 : decode cX1_beginRow 5 = .ok (.istore 4, 2) := by decide +kernel
theorem dX1_beginRow_7 : decode cX1_beginRow 7 = .ok (.aload_n 0, 1) := by decide +kernel
theorem dX1_beginRow_8 : decode cX1_beginRow 8 = .ok (.getfield 9, 3) := by decide +kernel
theorem dX1_beginRow_11 : decode cX1_beginRow 11 = .ok (.iload_n 3, 1) := by decide +kernel
theorem dX1_beginRow_12 : decode cX1_beginRow 12 = .ok (.bipush (-4), 2) := by decide +kernel
theorem dX1_beginRow_14 : decode cX1_beginRow 14 = .ok (.iastore, 1) := by decide +kernel
theorem dX1_beginRow_15 : decode cX1_beginRow 15 = .ok (.aload_n 0, 1) := by decide +kernel
theorem dX1_beginRow_16 : decode cX1_beginRow 16 = .ok (.getfield 18, 3) := by decide +kernel
theorem dX1_beginRow_19 : decode cX1_beginRow 19 = .ok (.iload_n 3, 1) := by decide +kernel
theorem dX1_beginRow_20 : decode cX1_beginRow 20 = .ok (.iconst 0, 1) := by decide +kernel
theorem dX1_beginRow_21 : decode cX1_beginRow 21 = .ok (.iastore, 1) := by decide +kernel
theorem dX1_beginRow_22 : decode cX1_beginRow 22 = .ok (.aload_n 0, 1) := by decide +kernel
theorem dX1_beginRow_23 : decode cX1_beginRow 23 = .ok (.aload_n 1, 1) := by decide +kernel
theorem dX1_beginRow_24 : decode cX1_beginRow 24 = .ok (.iload_n 3, 1) := by decide +kernel
theorem dX1_beginRow_25 : decode cX1_beginRow 25 = .ok (.invokevirtual 57, 3) := by decide +kernel
theorem dX1_beginRow_28 : decode cX1_beginRow 28 = .ok (.iconst 1, 1) := by decide +kernel
theorem dX1_beginRow_29 : decode cX1_beginRow 29 = .ok (.isub, 1) := by decide +kernel
theorem dX1_beginRow_30 : decode cX1_beginRow 30 = .ok (.istore 5, 2) := by decide +kernel
theorem dX1_beginRow_32 : decode cX1_beginRow 32 = .ok (.iload_n 3, 1) := by decide +kernel
theorem dX1_beginRow_33 : decode cX1_beginRow 33 = .ok (.iconst 1, 1) := by decide +kernel
theorem dX1_beginRow_34 : decode cX1_beginRow 34 = .ok (.iadd, 1) := by decide +kernel
theorem dX1_beginRow_35 : decode cX1_beginRow 35 = .ok (.istore 6, 2) := by decide +kernel
theorem dX1_beginRow_37 : decode cX1_beginRow 37 = .ok (.iload 6, 2) := by decide +kernel
theorem dX1_beginRow_39 : decode cX1_beginRow 39 = .ok (.iload 4, 2) := by decide +kernel
theorem dX1_beginRow_41 : decode cX1_beginRow 41 = .ok (.if_icmp .gt 141, 3) := by decide +kernel
theorem dX1_beginRow_44 : decode cX1_beginRow 44 = .ok (.iload 5, 2) := by decide +kernel
theorem dX1_beginRow_46 : decode cX1_beginRow 46 = .ok (.iconst 1, 1) := by decide +kernel
theorem dX1_beginRow_47 : decode cX1_beginRow 47 = .ok (.aload_n 1, 1) := by decide +kernel
theorem dX1_beginRow_48 : decode cX1_beginRow 48 = .ok (.iload_n 2, 1) := by decide +kernel
theorem dX1_beginRow_49 : decode cX1_beginRow 49 = .ok (.iload 6, 2) := by decide +kernel
theorem dX1_beginRow_51 : decode cX1_beginRow 51 = .ok (.iconst 1, 1) := by decide +kernel
theorem dX1_beginRow_52 : decode cX1_beginRow 52 = .ok (.isub, 1) := by decide +kernel
theorem dX1_beginRow_53 : decode cX1_beginRow 53 = .ok (.invokevirtual 61, 3) := by decide +kernel
theorem dX1_beginRow_56 : decode cX1_beginRow 56 = .ok (.iadd, 1) := by decide +kernel
theorem dX1_beginRow_57 : decode cX1_beginRow 57 = .ok (.iadd, 1) := by decide +kernel
theorem dX1_beginRow_58 : decode cX1_beginRow 58 = .ok (.istore 5, 2) := by decide +kernel
theorem dX1_beginRow_60 : decode cX1_beginRow 60 = .ok (.iload 5, 2) := by decide +kernel
theorem dX1_beginRow_62 : decode cX1_beginRow 62 = .ok (.aload_n 1, 1) := by decide +kernel
theorem dX1_beginRow_63 : decode cX1_beginRow 63 = .ok (.iconst 0, 1) := by decide +kernel
theorem dX1_beginRow_64 : decode cX1_beginRow 64 = .ok (.invokevirtual 65, 3) := by decide +kernel
theorem dX1_beginRow_67 : decode cX1_beginRow 67 = .ok (.if_icmp .le 4, 3) := by decide +kernel
theorem dX1_beginRow_70 : decode cX1_beginRow 70 = .ok (.return_, 1) := by decide +kernel
theorem dX1_beginRow_71 : decode cX1_beginRow 71 = .ok (.aload_n 0, 1) := by decide +kernel
theorem dX1_beginRow_72 : decode cX1_beginRow 72 = .ok (.getfield 18, 3) := by decide +kernel
theorem dX1_beginRow_75 : decode cX1_beginRow 75 = .ok (.iload_n 3, 1) := by decide +kernel
theorem dX1_beginRow_76 : decode cX1_beginRow 76 = .ok (.dup2, 1) := by decide +kernel
theorem dX1_beginRow_77 : decode cX1_beginRow 77 = .ok (.iaload, 1) := by decide +kernel
theorem dX1_beginRow_78 : decode cX1_beginRow 78 = .ok (.aload_n 0, 1) := by decide +kernel
theorem dX1_beginRow_79 : decode cX1_beginRow 79 = .ok (.getfield 18, 3) := by decide +kernel
theorem dX1_beginRow_82 : decode cX1_beginRow 82 = .ok (.iload 6, 2) := by decide +kernel
theorem dX1_beginRow_84 : decode cX1_beginRow 84 = .ok (.iaload, 1) := by decide +kernel
theorem dX1_beginRow_85 : decode cX1_beginRow 85 = .ok (.iadd, 1) := by decide +kernel
theorem dX1_beginRow_86 : decode cX1_beginRow 86 = .ok (.iastore, 1) := by decide +kernel
theorem dX1_beginRow_87 : decode cX1_beginRow 87 = .ok (.aload_n 0, 1) := by decide +kernel
theorem dX1_beginRow_88 : decode cX1_beginRow 88 = .ok (.getfield 9, 3) := by decide +kernel
theorem dX1_beginRow_91 : decode cX1_beginRow 91 = .ok (.iload 6, 2) := by decide +kernel
theorem dX1_beginRow_93 : decode cX1_beginRow 93 = .ok (.iaload, 1) := by decide +kernel
theorem dX1_beginRow_94 : decode cX1_beginRow 94 = .ok (.bipush (-4), 2) := by decide +kernel
theorem dX1_beginRow_96 : decode cX1_beginRow 96 = .ok (.if_icmp .ne 6, 3) := by decide +kernel
theorem dX1_beginRow_99 : decode cX1_beginRow 99 = .ok (.goto 77, 3) := by decide +kernel
theorem dX1_beginRow_102 : decode cX1_beginRow 102 = .ok (.aload_n 0, 1) := by decide +kernel
theorem dX1_beginRow_103 : decode cX1_beginRow 103 = .ok (.getfield 9, 3) := by decide +kernel
theorem dX1_beginRow_106 : decode cX1_beginRow 106 = .ok (.iload 6, 2) := by decide +kernel
theorem dX1_beginRow_108 : decode cX1_beginRow 108 = .ok (.iaload, 1) := by decide +kernel
theorem dX1_beginRow_109 : decode cX1_beginRow 109 = .ok (.istore 7, 2) := by decide +kernel
theorem dX1_beginRow_111 : decode cX1_beginRow 111 = .ok (.iload 6, 2) := by decide +kernel
theorem dX1_beginRow_113 : decode cX1_beginRow 113 = .ok (.iload 4, 2) := by decide +kernel
theorem dX1_beginRow_115 : decode cX1_beginRow 115 = .ok (.if_icmp .ge 23, 3) := by decide +kernel
theorem dX1_beginRow_118 : decode cX1_beginRow 118 = .ok (.iload 7, 2) := by decide +kernel
theorem dX1_beginRow_120 : decode cX1_beginRow 120 = .ok (.aload_n 1, 1) := by decide +kernel
theorem dX1_beginRow_121 : decode cX1_beginRow 121 = .ok (.aload_n 1, 1) := by decide +kernel
theorem dX1_beginRow_122 : decode cX1_beginRow 122 = .ok (.iload_n 2, 1) := by decide +kernel
theorem dX1_beginRow_123 : decode cX1_beginRow 123 = .ok (.iload 6, 2) := by decide +kernel
theorem dX1_beginRow_125 : decode cX1_beginRow 125 = .ok (.iconst 1, 1) := by decide +kernel
theorem dX1_beginRow_126 : decode cX1_beginRow 126 = .ok (.isub, 1) := by decide +kernel
theorem dX1_beginRow_127 : decode cX1_beginRow 127 = .ok (.invokevirtual 68, 3) := by decide +kernel
theorem dX1_beginRow_130 : decode cX1_beginRow 130 = .ok (.iload 5, 2) := by decide +kernel
theorem dX1_beginRow_132 : decode cX1_beginRow 132 = .ok (.invokestatic 71, 3) := by decide +kernel
theorem dX1_beginRow_135 : decode cX1_beginRow 135 = .ok (.iadd, 1) := by decide +kernel
theorem dX1_beginRow_136 : decode cX1_beginRow 136 = .ok (.istore 7, 2) := by decide +kernel
theorem dX1_beginRow_138 : decode cX1_beginRow 138 = .ok (.aload_n 0, 1) := by decide +kernel
theorem dX1_beginRow_139 : decode cX1_beginRow 139 = .ok (.getfield 9, 3) := by decide +kernel
theorem dX1_beginRow_142 : decode cX1_beginRow 142 = .ok (.iload_n 3, 1) := by decide +kernel
theorem dX1_beginRow_143 : decode cX1_beginRow 143 = .ok (.iaload, 1) := by decide +kernel
theorem dX1_beginRow_144 : decode cX1_beginRow 144 = .ok (.bipush (-4), 2) := by decide +kernel
theorem dX1_beginRow_146 : decode cX1_beginRow 146 = .ok (.if_icmp .eq 14, 3) := by decide +kernel
theorem dX1_beginRow_149 : decode cX1_beginRow 149 = .ok (.iload 7, 2) := by decide +kernel
theorem dX1_beginRow_151 : decode cX1_beginRow 151 = .ok (.aload_n 0, 1) := by decide +kernel
theorem dX1_beginRow_152 : decode cX1_beginRow 152 = .ok (.getfield 9, 3) := by decide +kernel
theorem dX1_beginRow_155 : decode cX1_beginRow 155 = .ok (.iload_n 3, 1) := by decide +kernel
theorem dX1_beginRow_156 : decode cX1_beginRow 156 = .ok (.iaload, 1) := by decide +kernel
theorem dX1_beginRow_157 : decode cX1_beginRow 157 = .ok (.if_icmp .gt 19, 3) := by decide +kernel
theorem dX1_beginRow_160 : decode cX1_beginRow 160 = .ok (.aload_n 0, 1) := by decide +kernel
theorem dX1_beginRow_161 : decode cX1_beginRow 161 = .ok (.getfield 9, 3) := by decide +kernel
theorem dX1_beginRow_164 : decode cX1_beginRow 164 = .ok (.iload_n 3, 1) := by decide +kernel
theorem dX1_beginRow_165 : decode cX1_beginRow 165 = .ok (.iload 7, 2) := by decide +kernel
theorem dX1_beginRow_167 : decode cX1_beginRow 167 = .ok (.iastore, 1) := by decide +kernel
theorem dX1_beginRow_168 : decode cX1_beginRow 168 = .ok (.aload_n 0, 1) := by decide +kernel
theorem dX1_beginRow_169 : decode cX1_beginRow 169 = .ok (.getfield 15, 3) := by decide +kernel
theorem dX1_beginRow_172 : decode cX1_beginRow 172 = .ok (.iload_n 3, 1) := by decide +kernel
theorem dX1_beginRow_173 : decode cX1_beginRow 173 = .ok (.iload 6, 2) := by decide +kernel
theorem dX1_beginRow_175 : decode cX1_beginRow 175 = .ok (.iastore, 1) := by decide +kernel
theorem dX1_beginRow_176 : decode cX1_beginRow 176 = .ok (.iinc 6 1, 3) := by decide +kernel
theorem dX1_beginRow_179 : decode cX1_beginRow 179 = .ok (.goto (-142), 3) := by decide +kernel
theorem dX1_beginRow_182 : decode cX1_beginRow 182 = .ok (.return_, 1) := by decide +kernel
theorem dX1_beginningOf_0 : decode cX1_beginningOf 0 = .ok (.iload_n 2, 1) := by decide +kernel
theorem dX1_beginningOf_1 : decode cX1_beginningOf 1 = .ok (.ifCond .ne 10, 3) := by decide +kernel
theorem dX1_beginningOf_4 : decode cX1_beginningOf 4 = .ok (.aload_n 0, 1) := by decide +kernel
theorem dX1_beginningOf_5 : decode cX1_beginningOf 5 = .ok (.getfield 36, 3) := by decide +kernel
theorem dX1_beginningOf_8 : decode cX1_beginningOf 8 = .ok (.goto 13, 3) := by decide +kernel
theorem dX1_beginningOf_11 : decode cX1_beginningOf 11 = .ok (.aload_n 0, 1) := by decide +kernel
theorem dX1_beginningOf_12 : decode cX1_beginningOf 12 = .ok (.getfield 36, 3) := by decide +kernel
theorem dX1_beginningOf_15 : decode cX1_beginningOf 15 = .ok (.aload_n 1, 1) := by decide +kernel
theorem dX1_beginningOf_16 : decode cX1_beginningOf 16 = .ok (.iconst 2, 1) := by decide +kernel
theorem dX1_beginningOf_17 : decode cX1_beginningOf 17 = .ok (.invokevirtual 65, 3) := by decide +kernel
theorem dX1_beginningOf_20 : decode cX1_beginningOf 20 = .ok (.iadd, 1) := by decide +kernel
theorem dX1_beginningOf_21 : decode cX1_beginningOf 21 = .ok (.ireturn, 1) := by decide +kernel
theorem dX1_rowCost_0 : decode cX1_rowCost 0 = .ok (.aload_n 0, 1) := by decide +kernel
theorem dX1_rowCost_1 : decode cX1_rowCost 1 = .ok (.iconst 0, 1) := by decide +kernel
theorem dX1_rowCost_2 : decode cX1_rowCost 2 = .ok (.invokevirtual 65, 3) := by decide +kernel
theorem dX1_rowCost_5 : decode cX1_rowCost 5 = .ok (.iload_n 2, 1) := by decide +kernel
theorem dX1_rowCost_6 : decode cX1_rowCost 6 = .ok (.isub, 1) := by decide +kernel
theorem dX1_rowCost_7 : decode cX1_rowCost 7 = .ok (.istore_n 3, 1) := by decide +kernel
theorem dX1_rowCost_8 : decode cX1_rowCost 8 = .ok (.aload_n 0, 1) := by decide +kernel
theorem dX1_rowCost_9 : decode cX1_rowCost 9 = .ok (.iconst 5, 1) := by decide +kernel
theorem dX1_rowCost_10 : decode cX1_rowCost 10 = .ok (.invokevirtual 65, 3) := by decide +kernel
theorem dX1_rowCost_13 : decode cX1_rowCost 13 = .ok (.lookupswitch 42 #[(1, 27), (2, 38)], 27) := by decide +kernel
theorem dX1_rowCost_40 : decode cX1_rowCost 40 = .ok (.bipush 10, 2) := by decide +kernel
theorem dX1_rowCost_42 : decode cX1_rowCost 42 = .ok (.iconst 3, 1) := by decide +kernel
theorem dX1_rowCost_43 : decode cX1_rowCost 43 = .ok (.iload_n 1, 1) := by decide +kernel
theorem dX1_rowCost_44 : decode cX1_rowCost 44 = .ok (.isub, 1) := by decide +kernel
theorem dX1_rowCost_45 : decode cX1_rowCost 45 = .ok (.iconst 3, 1) := by decide +kernel
theorem dX1_rowCost_46 : decode cX1_rowCost 46 = .ok (.iload_n 1, 1) := by decide +kernel
theorem dX1_rowCost_47 : decode cX1_rowCost 47 = .ok (.isub, 1) := by decide +kernel
theorem dX1_rowCost_48 : decode cX1_rowCost 48 = .ok (.imul, 1) := by decide +kernel
theorem dX1_rowCost_49 : decode cX1_rowCost 49 = .ok (.iadd, 1) := by decide +kernel
theorem dX1_rowCost_50 : decode cX1_rowCost 50 = .ok (.ireturn, 1) := by decide +kernel
theorem dX1_rowCost_51 : decode cX1_rowCost 51 = .ok (.iload_n 3, 1) := by decide +kernel
theorem dX1_rowCost_52 : decode cX1_rowCost 52 = .ok (.iload_n 3, 1) := by decide +kernel
theorem dX1_rowCost_53 : decode cX1_rowCost 53 = .ok (.imul, 1) := by decide +kernel
theorem dX1_rowCost_54 : decode cX1_rowCost 54 = .ok (.ireturn, 1) := by decide +kernel
theorem dX1_rowCost_55 : decode cX1_rowCost 55 = .ok (.iconst 1, 1) := by decide +kernel
theorem dX1_rowCost_56 : decode cX1_rowCost 56 = .ok (.ireturn, 1) := by decide +kernel
theorem dX1_placeWords_0 : decode cX1_placeWords 0 = .ok (.aload_n 1, 1) := by decide +kernel
theorem dX1_placeWords_1 : decode cX1_placeWords 1 = .ok (.iload_n 2, 1) := by decide +kernel
theorem dX1_placeWords_2 : decode cX1_placeWords 2 = .ok (.invokevirtual 27, 3) := by decide +kernel
theorem dX1_placeWords_5 : decode cX1_placeWords 5 = .ok (.istore_n 3, 1) := by decide +kernel
theorem dX1_placeWords_6 : decode cX1_placeWords 6 = .ok (.iconst 0, 1) := by decide +kernel
theorem dX1_placeWords_7 : decode cX1_placeWords 7 = .ok (.istore 4, 2) := by decide +kernel
theorem dX1_placeWords_9 : decode cX1_placeWords 9 = .ok (.iconst 0, 1) := by decide +kernel
theorem dX1_placeWords_10 : decode cX1_placeWords 10 = .ok (.istore 5, 2) := by decide +kernel
theorem dX1_placeWords_12 : decode cX1_placeWords 12 = .ok (.iconst 0, 1) := by decide +kernel
theorem dX1_placeWords_13 : decode cX1_placeWords 13 = .ok (.istore 6, 2) := by decide +kernel
theorem dX1_placeWords_15 : decode cX1_placeWords 15 = .ok (.iconst 0, 1) := by decide +kernel
theorem dX1_placeWords_16 : decode cX1_placeWords 16 = .ok (.istore 7, 2) := by decide +kernel
theorem dX1_placeWords_18 : decode cX1_placeWords 18 = .ok (.iload 7, 2) := by decide +kernel
theorem dX1_placeWords_20 : decode cX1_placeWords 20 = .ok (.iload_n 3, 1) := by decide +kernel
theorem dX1_placeWords_21 : decode cX1_placeWords 21 = .ok (.if_icmp .ge 71, 3) := by decide +kernel
theorem dX1_placeWords_24 : decode cX1_placeWords 24 = .ok (.iload 7, 2) := by decide +kernel
theorem dX1_placeWords_26 : decode cX1_placeWords 26 = .ok (.iload 5, 2) := by decide +kernel
theorem dX1_placeWords_28 : decode cX1_placeWords 28 = .ok (.if_icmp .ne 24, 3) := by decide +kernel
theorem dX1_placeWords_31 : decode cX1_placeWords 31 = .ok (.iinc 4 1, 3) := by decide +kernel
theorem dX1_placeWords_34 : decode cX1_placeWords 34 = .ok (.aload_n 0, 1) := by decide +kernel
theorem dX1_placeWords_35 : decode cX1_placeWords 35 = .ok (.getfield 15, 3) := by decide +kernel
theorem dX1_placeWords_38 : decode cX1_placeWords 38 = .ok (.iload 7, 2) := by decide +kernel
theorem dX1_placeWords_40 : decode cX1_placeWords 40 = .ok (.iaload, 1) := by decide +kernel
theorem dX1_placeWords_41 : decode cX1_placeWords 41 = .ok (.istore 5, 2) := by decide +kernel
theorem dX1_placeWords_43 : decode cX1_placeWords 43 = .ok (.aload_n 0, 1) := by decide +kernel
theorem dX1_placeWords_44 : decode cX1_placeWords 44 = .ok (.aload_n 1, 1) := by decide +kernel
theorem dX1_placeWords_45 : decode cX1_placeWords 45 = .ok (.iload 7, 2) := by decide +kernel
theorem dX1_placeWords_47 : decode cX1_placeWords 47 = .ok (.invokevirtual 57, 3) := by decide +kernel
theorem dX1_placeWords_50 : decode cX1_placeWords 50 = .ok (.istore 6, 2) := by decide +kernel
theorem dX1_placeWords_52 : decode cX1_placeWords 52 = .ok (.aload_n 0, 1) := by decide +kernel
theorem dX1_placeWords_53 : decode cX1_placeWords 53 = .ok (.getfield 21, 3) := by decide +kernel
theorem dX1_placeWords_56 : decode cX1_placeWords 56 = .ok (.iload 7, 2) := by decide +kernel
theorem dX1_placeWords_58 : decode cX1_placeWords 58 = .ok (.iload 4, 2) := by decide +kernel
theorem dX1_placeWords_60 : decode cX1_placeWords 60 = .ok (.iconst 1, 1) := by decide +kernel
theorem dX1_placeWords_61 : decode cX1_placeWords 61 = .ok (.isub, 1) := by decide +kernel
theorem dX1_placeWords_62 : decode cX1_placeWords 62 = .ok (.iastore, 1) := by decide +kernel
theorem dX1_placeWords_63 : decode cX1_placeWords 63 = .ok (.aload_n 0, 1) := by decide +kernel
theorem dX1_placeWords_64 : decode cX1_placeWords 64 = .ok (.getfield 24, 3) := by decide +kernel
theorem dX1_placeWords_67 : decode cX1_placeWords 67 = .ok (.iload 7, 2) := by decide +kernel
theorem dX1_placeWords_69 : decode cX1_placeWords 69 = .ok (.iload 6, 2) := by decide +kernel
theorem dX1_placeWords_71 : decode cX1_placeWords 71 = .ok (.iastore, 1) := by decide +kernel
theorem dX1_placeWords_72 : decode cX1_placeWords 72 = .ok (.iload 6, 2) := by decide +kernel
theorem dX1_placeWords_74 : decode cX1_placeWords 74 = .ok (.aload_n 1, 1) := by decide +kernel
theorem dX1_placeWords_75 : decode cX1_placeWords 75 = .ok (.iload_n 2, 1) := by decide +kernel
theorem dX1_placeWords_76 : decode cX1_placeWords 76 = .ok (.iload 7, 2) := by decide +kernel
theorem dX1_placeWords_78 : decode cX1_placeWords 78 = .ok (.invokevirtual 61, 3) := by decide +kernel
theorem dX1_placeWords_81 : decode cX1_placeWords 81 = .ok (.iconst 1, 1) := by decide +kernel
theorem dX1_placeWords_82 : decode cX1_placeWords 82 = .ok (.iadd, 1) := by decide +kernel
theorem dX1_placeWords_83 : decode cX1_placeWords 83 = .ok (.iadd, 1) := by decide +kernel
theorem dX1_placeWords_84 : decode cX1_placeWords 84 = .ok (.istore 6, 2) := by decide +kernel
theorem dX1_placeWords_86 : decode cX1_placeWords 86 = .ok (.iinc 7 1, 3) := by decide +kernel
theorem dX1_placeWords_89 : decode cX1_placeWords 89 = .ok (.goto (-71), 3) := by decide +kernel
theorem dX1_placeWords_92 : decode cX1_placeWords 92 = .ok (.aload_n 0, 1) := by decide +kernel
theorem dX1_placeWords_93 : decode cX1_placeWords 93 = .ok (.iload 4, 2) := by decide +kernel
theorem dX1_placeWords_95 : decode cX1_placeWords 95 = .ok (.iconst 1, 1) := by decide +kernel
theorem dX1_placeWords_96 : decode cX1_placeWords 96 = .ok (.invokestatic 75, 3) := by decide +kernel
theorem dX1_placeWords_99 : decode cX1_placeWords 99 = .ok (.putfield 50, 3) := by decide +kernel
theorem dX1_placeWords_102 : decode cX1_placeWords 102 = .ok (.return_, 1) := by decide +kernel
theorem dX2_init_0 : decode cX2_init 0 = .ok (.aload_n 0, 1) := by decide +kernel
theorem dX2_init_1 : decode cX2_init 1 = .ok (.invokespecial 3, 3) := by decide +kernel
theorem dX2_init_4 : decode cX2_init 4 = .ok (.aload_n 0, 1) := by decide +kernel
theorem dX2_init_5 : decode cX2_init 5 = .ok (.bipush 21, 2) := by decide +kernel
theorem dX2_init_7 : decode cX2_init 7 = .ok (.newarray .long, 2) := by decide +kernel
theorem dX2_init_9 : decode cX2_init 9 = .ok (.putfield 9, 3) := by decide +kernel
theorem dX2_init_12 : decode cX2_init 12 = .ok (.return_, 1) := by decide +kernel
theorem dX2_compute_0 : decode cX2_compute 0 = .ok (.aload_n 0, 1) := by decide +kernel
theorem dX2_compute_1 : decode cX2_compute 1 = .ok (.aload_n 2, 1) := by decide +kernel
theorem dX2_compute_2 : decode cX2_compute 2 = .ok (.getfield 15, 3) := by decide +kernel
theorem dX2_compute_5 : decode cX2_compute 5 = .ok (.ifCond .eq 7, 3) := by decide +kernel
theorem dX2_compute_8 : decode cX2_compute 8 = .ok (.lconst 1, 1) := by decide +kernel
theorem dX2_compute_9 : decode cX2_compute 9 = .ok (.goto 4, 3) := by decide +kernel
theorem dX2_compute_12 : decode cX2_compute 12 = .ok (.lconst 0, 1) := by decide +kernel
theorem dX2_compute_13 : decode cX2_compute 13 = .ok (.putfield 21, 3) := by decide +kernel
theorem dX2_compute_16 : decode cX2_compute 16 = .ok (.aload_n 0, 1) := by decide +kernel
theorem dX2_compute_17 : decode cX2_compute 17 = .ok (.lconst 1, 1) := by decide +kernel
theorem dX2_compute_18 : decode cX2_compute 18 = .ok (.putfield 25, 3) := by decide +kernel
theorem dX2_compute_21 : decode cX2_compute 21 = .ok (.aload_n 2, 1) := by decide +kernel
theorem dX2_compute_22 : decode cX2_compute 22 = .ok (.getfield 15, 3) := by decide +kernel
theorem dX2_compute_25 : decode cX2_compute 25 = .ok (.ifCond .ne 4, 3) := by decide +kernel
theorem dX2_compute_28 : decode cX2_compute 28 = .ok (.return_, 1) := by decide +kernel
theorem dX2_compute_29 : decode cX2_compute 29 = .ok (.iconst 0, 1) := by decide +kernel
theorem dX2_compute_30 : decode cX2_compute 30 = .ok (.istore 4, 2) := by decide +kernel
theorem dX2_compute_32 : decode cX2_compute 32 = .ok (.iload 4, 2) := by decide +kernel
theorem dX2_compute_34 : decode cX2_compute 34 = .ok (.aload_n 1, 1) := by decide +kernel
theorem dX2_compute_35 : decode cX2_compute 35 = .ok (.invokevirtual 28, 3) := by decide +kernel
theorem dX2_compute_38 : decode cX2_compute 38 = .ok (.if_icmp .ge 58, 3) := by decide +kernel
theorem dX2_compute_41 : decode cX2_compute 41 = .ok (.aload_n 0, 1) := by decide +kernel
theorem dX2_compute_42 : decode cX2_compute 42 = .ok (.dup, 1) := by decide +kernel
theorem dX2_compute_43 : decode cX2_compute 43 = .ok (.getfield 25, 3) := by decide +kernel
theorem dX2_compute_46 : decode cX2_compute 46 = .ok (.ldc2_w 34, 3) := by decide +kernel
theorem dX2_compute_49 : decode cX2_compute 49 = .ok (.lmul, 1) := by decide +kernel
theorem dX2_compute_50 : decode cX2_compute 50 = .ok (.putfield 25, 3) := by decide +kernel
theorem dX2_compute_53 : decode cX2_compute 53 = .ok (.aload_n 1, 1) := by decide +kernel
theorem dX2_compute_54 : decode cX2_compute 54 = .ok (.iload 4, 2) := by decide +kernel
theorem dX2_compute_56 : decode cX2_compute 56 = .ok (.invokevirtual 36, 3) := by decide +kernel
theorem dX2_compute_59 : decode cX2_compute 59 = .ok (.ifCond .eq 31, 3) := by decide +kernel
theorem dX2_compute_62 : decode cX2_compute 62 = .ok (.aload_n 0, 1) := by decide +kernel
theorem dX2_compute_63 : decode cX2_compute 63 = .ok (.dup, 1) := by decide +kernel
theorem dX2_compute_64 : decode cX2_compute 64 = .ok (.getfield 21, 3) := by decide +kernel
theorem dX2_compute_67 : decode cX2_compute 67 = .ok (.aload_n 0, 1) := by decide +kernel
theorem dX2_compute_68 : decode cX2_compute 68 = .ok (.aload_n 1, 1) := by decide +kernel
theorem dX2_compute_69 : decode cX2_compute 69 = .ok (.iconst 3, 1) := by decide +kernel
theorem dX2_compute_70 : decode cX2_compute 70 = .ok (.invokevirtual 40, 3) := by decide +kernel
theorem dX2_compute_73 : decode cX2_compute 73 = .ok (.aload_n 2, 1) := by decide +kernel
theorem dX2_compute_74 : decode cX2_compute 74 = .ok (.iload 4, 2) := by decide +kernel
theorem dX2_compute_76 : decode cX2_compute 76 = .ok (.aload_n 1, 1) := by decide +kernel
theorem dX2_compute_77 : decode cX2_compute 77 = .ok (.iload 4, 2) := by decide +kernel
theorem dX2_compute_79 : decode cX2_compute 79 = .ok (.invokevirtual 44, 3) := by decide +kernel
theorem dX2_compute_82 : decode cX2_compute 82 = .ok (.iload_n 3, 1) := by decide +kernel
theorem dX2_compute_83 : decode cX2_compute 83 = .ok (.invokevirtual 47, 3) := by decide +kernel
theorem dX2_compute_86 : decode cX2_compute 86 = .ok (.lmul, 1) := by decide +kernel
theorem dX2_compute_87 : decode cX2_compute 87 = .ok (.putfield 21, 3) := by decide +kernel
theorem dX2_compute_90 : decode cX2_compute 90 = .ok (.iinc 4 1, 3) := by decide +kernel
theorem dX2_compute_93 : decode cX2_compute 93 = .ok (.goto (-61), 3) := by decide +kernel
theorem dX2_compute_96 : decode cX2_compute 96 = .ok (.aload_n 0, 1) := by decide +kernel
theorem dX2_compute_97 : decode cX2_compute 97 = .ok (.invokevirtual 51, 3) := by decide +kernel
theorem dX2_compute_100 : decode cX2_compute 100 = .ok (.return_, 1) := by decide +kernel
theorem dX2_fitting_0 : decode cX2_fitting 0 = .ok (.aload_n 0, 1) := by decide +kernel
theorem dX2_fitting_1 : decode cX2_fitting 1 = .ok (.getfield 9, 3) := by decide +kernel
theorem dX2_fitting_4 : decode cX2_fitting 4 = .ok (.lconst 0, 1) := by decide +kernel
theorem dX2_fitting_5 : decode cX2_fitting 5 = .ok (.invokestatic 54, 3) := by decide +kernel
theorem dX2_fitting_8 : decode cX2_fitting 8 = .ok (.aload_n 0, 1) := by decide +kernel
theorem dX2_fitting_9 : decode cX2_fitting 9 = .ok (.getfield 9, 3) := by decide +kernel
theorem dX2_fitting_12 : decode cX2_fitting 12 = .ok (.iconst 0, 1) := by decide +kernel
theorem dX2_fitting_13 : decode cX2_fitting 13 = .ok (.lconst 1, 1) := by decide +kernel
theorem dX2_fitting_14 : decode cX2_fitting 14 = .ok (.lastore, 1) := by decide +kernel
theorem dX2_fitting_15 : decode cX2_fitting 15 = .ok (.iload_n 3, 1) := by decide +kernel
theorem dX2_fitting_16 : decode cX2_fitting 16 = .ok (.istore 6, 2) := by decide +kernel
theorem dX2_fitting_18 : decode cX2_fitting 18 = .ok (.iload 6, 2) := by decide +kernel
theorem dX2_fitting_20 : decode cX2_fitting 20 = .ok (.iload 4, 2) := by decide +kernel
theorem dX2_fitting_22 : decode cX2_fitting 22 = .ok (.if_icmp .ge 83, 3) := by decide +kernel
theorem dX2_fitting_25 : decode cX2_fitting 25 = .ok (.aload_n 2, 1) := by decide +kernel
theorem dX2_fitting_26 : decode cX2_fitting 26 = .ok (.getfield 60, 3) := by decide +kernel
theorem dX2_fitting_29 : decode cX2_fitting 29 = .ok (.iload 6, 2) := by decide +kernel
theorem dX2_fitting_31 : decode cX2_fitting 31 = .ok (.iaload, 1) := by decide +kernel
theorem dX2_fitting_32 : decode cX2_fitting 32 = .ok (.istore 7, 2) := by decide +kernel
theorem dX2_fitting_34 : decode cX2_fitting 34 = .ok (.iload_n 1, 1) := by decide +kernel
theorem dX2_fitting_35 : decode cX2_fitting 35 = .ok (.istore 8, 2) := by decide +kernel
theorem dX2_fitting_37 : decode cX2_fitting 37 = .ok (.iload 8, 2) := by decide +kernel
theorem dX2_fitting_39 : decode cX2_fitting 39 = .ok (.ifCond .lt 60, 3) := by decide +kernel
theorem dX2_fitting_42 : decode cX2_fitting 42 = .ok (.iload 8, 2) := by decide +kernel
theorem dX2_fitting_44 : decode cX2_fitting 44 = .ok (.iload 7, 2) := by decide +kernel
theorem dX2_fitting_46 : decode cX2_fitting 46 = .ok (.if_icmp .lt 16, 3) := by decide +kernel
theorem dX2_fitting_49 : decode cX2_fitting 49 = .ok (.aload_n 0, 1) := by decide +kernel
theorem dX2_fitting_50 : decode cX2_fitting 50 = .ok (.getfield 9, 3) := by decide +kernel
theorem dX2_fitting_53 : decode cX2_fitting 53 = .ok (.iload 8, 2) := by decide +kernel
theorem dX2_fitting_55 : decode cX2_fitting 55 = .ok (.iload 7, 2) := by decide +kernel
theorem dX2_fitting_57 : decode cX2_fitting 57 = .ok (.isub, 1) := by decide +kernel
theorem dX2_fitting_58 : decode cX2_fitting 58 = .ok (.laload, 1) := by decide +kernel
theorem dX2_fitting_59 : decode cX2_fitting 59 = .ok (.goto 4, 3) := by decide +kernel
theorem dX2_fitting_62 : decode cX2_fitting 62 = .ok (.lconst 0, 1) := by decide +kernel
theorem dX2_fitting_63 : decode cX2_fitting 63 = .ok (.lstore 9, 2) := by decide +kernel
theorem dX2_fitting_65 : decode cX2_fitting 65 = .ok (.aload_n 0, 1) := by decide +kernel
theorem dX2_fitting_66 : decode cX2_fitting 66 = .ok (.getfield 9, 3) := by decide +kernel
theorem dX2_fitting_69 : decode cX2_fitting 69 = .ok (.iload 8, 2) := by decide +kernel
theorem dX2_fitting_71 : decode cX2_fitting 71 = .ok (.aload_n 0, 1) := by decide +kernel
theorem dX2_fitting_72 : decode cX2_fitting 72 = .ok (.getfield 9, 3) := by decide +kernel
theorem dX2_fitting_75 : decode cX2_fitting 75 = .ok (.iload 8, 2) := by decide +kernel
theorem dX2_fitting_77 : decode cX2_fitting 77 = .ok (.laload, 1) := by decide +kernel
theorem dX2_fitting_78 : decode cX2_fitting 78 = .ok (.iload 5, 2) := by decide +kernel
theorem dX2_fitting_80 : decode cX2_fitting 80 = .ok (.i2l, 1) := by decide +kernel
theorem dX2_fitting_81 : decode cX2_fitting 81 = .ok (.lmul, 1) := by decide +kernel
theorem dX2_fitting_82 : decode cX2_fitting 82 = .ok (.lload 9, 2) := by decide +kernel
theorem dX2_fitting_84 : decode cX2_fitting 84 = .ok (.bipush 10, 2) := by decide +kernel
theorem dX2_fitting_86 : decode cX2_fitting 86 = .ok (.iload 5, 2) := by decide +kernel
theorem dX2_fitting_88 : decode cX2_fitting 88 = .ok (.isub, 1) := by decide +kernel
theorem dX2_fitting_89 : decode cX2_fitting 89 = .ok (.i2l, 1) := by decide +kernel
theorem dX2_fitting_90 : decode cX2_fitting 90 = .ok (.lmul, 1) := by decide +kernel
theorem dX2_fitting_91 : decode cX2_fitting 91 = .ok (.ladd, 1) := by decide +kernel
theorem dX2_fitting_92 : decode cX2_fitting 92 = .ok (.lastore, 1) := by decide +kernel
theorem dX2_fitting_93 : decode cX2_fitting 93 = .ok (.iinc 8 (-1), 3) := by decide +kernel
theorem dX2_fitting_96 : decode cX2_fitting 96 = .ok (.goto (-59), 3) := by decide +kernel
theorem dX2_fitting_99 : decode cX2_fitting 99 = .ok (.iinc 6 1, 3) := by decide +kernel
theorem dX2_fitting_102 : decode cX2_fitting 102 = .ok (.goto (-84), 3) := by decide +kernel
theorem dX2_fitting_105 : decode cX2_fitting 105 = .ok (.lconst 0, 1) := by decide +kernel
theorem dX2_fitting_106 : decode cX2_fitting 106 = .ok (.lstore 6, 2) := by decide +kernel
theorem dX2_fitting_108 : decode cX2_fitting 108 = .ok (.iconst 0, 1) := by decide +kernel
theorem dX2_fitting_109 : decode cX2_fitting 109 = .ok (.istore 8, 2) := by decide +kernel
theorem dX2_fitting_111 : decode cX2_fitting 111 = .ok (.iload 8, 2) := by decide +kernel
theorem dX2_fitting_113 : decode cX2_fitting 113 = .ok (.iload_n 1, 1) := by decide +kernel
theorem dX2_fitting_114 : decode cX2_fitting 114 = .ok (.if_icmp .gt 21, 3) := by decide +kernel
theorem dX2_fitting_117 : decode cX2_fitting 117 = .ok (.lload 6, 2) := by decide +kernel
theorem dX2_fitting_119 : decode cX2_fitting 119 = .ok (.aload_n 0, 1) := by decide +kernel
theorem dX2_fitting_120 : decode cX2_fitting 120 = .ok (.getfield 9, 3) := by decide +kernel
theorem dX2_fitting_123 : decode cX2_fitting 123 = .ok (.iload 8, 2) := by decide +kernel
theorem dX2_fitting_125 : decode cX2_fitting 125 = .ok (.laload, 1) := by decide +kernel
theorem dX2_fitting_126 : decode cX2_fitting 126 = .ok (.ladd, 1) := by decide +kernel
theorem dX2_fitting_127 : decode cX2_fitting 127 = .ok (.lstore 6, 2) := by decide +kernel
theorem dX2_fitting_129 : decode cX2_fitting 129 = .ok (.iinc 8 1, 3) := by decide +kernel
theorem dX2_fitting_132 : decode cX2_fitting 132 = .ok (.goto (-21), 3) := by decide +kernel
theorem dX2_fitting_135 : decode cX2_fitting 135 = .ok (.lload 6, 2) := by decide +kernel
theorem dX2_fitting_137 : decode cX2_fitting 137 = .ok (.lreturn, 1) := by decide +kernel
theorem dX2_reduce_0 : decode cX2_reduce 0 = .ok (.iconst 0, 1) := by decide +kernel
theorem dX2_reduce_1 : decode cX2_reduce 1 = .ok (.istore_n 1, 1) := by decide +kernel
theorem dX2_reduce_2 : decode cX2_reduce 2 = .ok (.iload_n 1, 1) := by decide +kernel
theorem dX2_reduce_3 : decode cX2_reduce 3 = .ok (.bipush 12, 2) := by decide +kernel
theorem dX2_reduce_5 : decode cX2_reduce 5 = .ok (.if_icmp .ge 19, 3) := by decide +kernel
theorem dX2_reduce_8 : decode cX2_reduce 8 = .ok (.aload_n 0, 1) := by decide +kernel
theorem dX2_reduce_9 : decode cX2_reduce 9 = .ok (.iconst 2, 1) := by decide +kernel
theorem dX2_reduce_10 : decode cX2_reduce 10 = .ok (.invokevirtual 64, 3) := by decide +kernel
theorem dX2_reduce_13 : decode cX2_reduce 13 = .ok (.aload_n 0, 1) := by decide +kernel
theorem dX2_reduce_14 : decode cX2_reduce 14 = .ok (.iconst 5, 1) := by decide +kernel
theorem dX2_reduce_15 : decode cX2_reduce 15 = .ok (.invokevirtual 64, 3) := by decide +kernel
theorem dX2_reduce_18 : decode cX2_reduce 18 = .ok (.iinc 1 1, 3) := by decide +kernel
theorem dX2_reduce_21 : decode cX2_reduce 21 = .ok (.goto (-19), 3) := by decide +kernel
theorem dX2_reduce_24 : decode cX2_reduce 24 = .ok (.return_, 1) := by decide +kernel
theorem dX2_divideBoth_0 : decode cX2_divideBoth 0 = .ok (.iload_n 1, 1) := by decide +kernel
theorem dX2_divideBoth_1 : decode cX2_divideBoth 1 = .ok (.ifCond .le 49, 3) := by decide +kernel
theorem dX2_divideBoth_4 : decode cX2_divideBoth 4 = .ok (.aload_n 0, 1) := by decide +kernel
theorem dX2_divideBoth_5 : decode cX2_divideBoth 5 = .ok (.getfield 21, 3) := by decide +kernel
theorem dX2_divideBoth_8 : decode cX2_divideBoth 8 = .ok (.iload_n 1, 1) := by decide +kernel
theorem dX2_divideBoth_9 : decode cX2_divideBoth 9 = .ok (.i2l, 1) := by decide +kernel
theorem dX2_divideBoth_10 : decode cX2_divideBoth 10 = .ok (.lrem, 1) := by decide +kernel
theorem dX2_divideBoth_11 : decode cX2_divideBoth 11 = .ok (.lconst 0, 1) := by decide +kernel
theorem dX2_divideBoth_12 : decode cX2_divideBoth 12 = .ok (.lcmp, 1) := by decide +kernel
theorem dX2_divideBoth_13 : decode cX2_divideBoth 13 = .ok (.ifCond .ne 37, 3) := by decide +kernel
theorem dX2_divideBoth_16 : decode cX2_divideBoth 16 = .ok (.aload_n 0, 1) := by decide +kernel
theorem dX2_divideBoth_17 : decode cX2_divideBoth 17 = .ok (.getfield 25, 3) := by decide +kernel
theorem dX2_divideBoth_20 : decode cX2_divideBoth 20 = .ok (.iload_n 1, 1) := by decide +kernel
theorem dX2_divideBoth_21 : decode cX2_divideBoth 21 = .ok (.i2l, 1) := by decide +kernel
theorem dX2_divideBoth_22 : decode cX2_divideBoth 22 = .ok (.lrem, 1) := by decide +kernel
theorem dX2_divideBoth_23 : decode cX2_divideBoth 23 = .ok (.lconst 0, 1) := by decide +kernel
theorem dX2_divideBoth_24 : decode cX2_divideBoth 24 = .ok (.lcmp, 1) := by decide +kernel
theorem dX2_divideBoth_25 : decode cX2_divideBoth 25 = .ok (.ifCond .ne 25, 3) := by decide +kernel
theorem dX2_divideBoth_28 : decode cX2_divideBoth 28 = .ok (.aload_n 0, 1) := by decide +kernel
theorem dX2_divideBoth_29 : decode cX2_divideBoth 29 = .ok (.dup, 1) := by decide +kernel
theorem dX2_divideBoth_30 : decode cX2_divideBoth 30 = .ok (.getfield 21, 3) := by decide +kernel
theorem dX2_divideBoth_33 : decode cX2_divideBoth 33 = .ok (.iload_n 1, 1) := by decide +kernel
theorem dX2_divideBoth_34 : decode cX2_divideBoth 34 = .ok (.i2l, 1) := by decide +kernel
theorem dX2_divideBoth_35 : decode cX2_divideBoth 35 = .ok (.ldiv, 1) := by decide +kernel
theorem dX2_divideBoth_36 : decode cX2_divideBoth 36 = .ok (.putfield 21, 3) := by decide +kernel
theorem dX2_divideBoth_39 : decode cX2_divideBoth 39 = .ok (.aload_n 0, 1) := by decide +kernel
theorem dX2_divideBoth_40 : decode cX2_divideBoth 40 = .ok (.dup, 1) := by decide +kernel
theorem dX2_divideBoth_41 : decode cX2_divideBoth 41 = .ok (.getfield 25, 3) := by decide +kernel
theorem dX2_divideBoth_44 : decode cX2_divideBoth 44 = .ok (.iload_n 1, 1) := by decide +kernel
theorem dX2_divideBoth_45 : decode cX2_divideBoth 45 = .ok (.i2l, 1) := by decide +kernel
theorem dX2_divideBoth_46 : decode cX2_divideBoth 46 = .ok (.ldiv, 1) := by decide +kernel
theorem dX2_divideBoth_47 : decode cX2_divideBoth 47 = .ok (.putfield 25, 3) := by decide +kernel
theorem dX2_divideBoth_50 : decode cX2_divideBoth 50 = .ok (.return_, 1) := by decide +kernel
theorem dX3_init_0 : decode cX3_init 0 = .ok (.aload_n 0, 1) := by decide +kernel
theorem dX3_init_1 : decode cX3_init 1 = .ok (.invokespecial 3, 3) := by decide +kernel
theorem dX3_init_4 : decode cX3_init 4 = .ok (.aload_n 0, 1) := by decide +kernel
theorem dX3_init_5 : decode cX3_init 5 = .ok (.bipush 12, 2) := by decide +kernel
theorem dX3_init_7 : decode cX3_init 7 = .ok (.newarray .int, 2) := by decide +kernel
theorem dX3_init_9 : decode cX3_init 9 = .ok (.putfield 9, 3) := by decide +kernel
theorem dX3_init_12 : decode cX3_init 12 = .ok (.aload_n 0, 1) := by decide +kernel
theorem dX3_init_13 : decode cX3_init 13 = .ok (.bipush 13, 2) := by decide +kernel
theorem dX3_init_15 : decode cX3_init 15 = .ok (.newarray .int, 2) := by decide +kernel
theorem dX3_init_17 : decode cX3_init 17 = .ok (.putfield 15, 3) := by decide +kernel
theorem dX3_init_20 : decode cX3_init 20 = .ok (.aload_n 0, 1) := by decide +kernel
theorem dX3_init_21 : decode cX3_init 21 = .ok (.bipush 13, 2) := by decide +kernel
theorem dX3_init_23 : decode cX3_init 23 = .ok (.newarray .int, 2) := by decide +kernel
theorem dX3_init_25 : decode cX3_init 25 = .ok (.putfield 18, 3) := by decide +kernel
theorem dX3_init_28 : decode cX3_init 28 = .ok (.return_, 1) := by decide +kernel
theorem dX3_measure_0 : decode cX3_measure 0 = .ok (.aload_n 0, 1) := by decide +kernel
theorem dX3_measure_1 : decode cX3_measure 1 = .ok (.iconst 1, 1) := by decide +kernel
theorem dX3_measure_2 : decode cX3_measure 2 = .ok (.putfield 21, 3) := by decide +kernel
theorem dX3_measure_5 : decode cX3_measure 5 = .ok (.iconst 0, 1) := by decide +kernel
theorem dX3_measure_6 : decode cX3_measure 6 = .ok (.istore_n 3, 1) := by decide +kernel
theorem dX3_measure_7 : decode cX3_measure 7 = .ok (.iload_n 3, 1) := by decide +kernel
theorem dX3_measure_8 : decode cX3_measure 8 = .ok (.aload_n 1, 1) := by decide +kernel
theorem dX3_measure_9 : decode cX3_measure 9 = .ok (.invokevirtual 25, 3) := by decide +kernel
theorem dX3_measure_12 : decode cX3_measure 12 = .ok (.if_icmp .ge 50, 3) := by decide +kernel
theorem dX3_measure_15 : decode cX3_measure 15 = .ok (.aload_n 2, 1) := by decide +kernel
theorem dX3_measure_16 : decode cX3_measure 16 = .ok (.aload_n 1, 1) := by decide +kernel
theorem dX3_measure_17 : decode cX3_measure 17 = .ok (.iload_n 3, 1) := by decide +kernel
theorem dX3_measure_18 : decode cX3_measure 18 = .ok (.invokevirtual 31, 3) := by decide +kernel
theorem dX3_measure_21 : decode cX3_measure 21 = .ok (.aload_n 0, 1) := by decide +kernel
theorem dX3_measure_22 : decode cX3_measure 22 = .ok (.getfield 9, 3) := by decide +kernel
theorem dX3_measure_25 : decode cX3_measure 25 = .ok (.iload_n 3, 1) := by decide +kernel
theorem dX3_measure_26 : decode cX3_measure 26 = .ok (.aload_n 2, 1) := by decide +kernel
theorem dX3_measure_27 : decode cX3_measure 27 = .ok (.getfield 37, 3) := by decide +kernel
theorem dX3_measure_30 : decode cX3_measure 30 = .ok (.iastore, 1) := by decide +kernel
theorem dX3_measure_31 : decode cX3_measure 31 = .ok (.aload_n 0, 1) := by decide +kernel
theorem dX3_measure_32 : decode cX3_measure 32 = .ok (.aload_n 0, 1) := by decide +kernel
theorem dX3_measure_33 : decode cX3_measure 33 = .ok (.getfield 21, 3) := by decide +kernel
theorem dX3_measure_36 : decode cX3_measure 36 = .ok (.ifCond .eq 16, 3) := by decide +kernel
theorem dX3_measure_39 : decode cX3_measure 39 = .ok (.aload_n 2, 1) := by decide +kernel
theorem dX3_measure_40 : decode cX3_measure 40 = .ok (.getfield 37, 3) := by decide +kernel
theorem dX3_measure_43 : decode cX3_measure 43 = .ok (.bipush (-4), 2) := by decide +kernel
theorem dX3_measure_45 : decode cX3_measure 45 = .ok (.if_icmp .eq 7, 3) := by decide +kernel
theorem dX3_measure_48 : decode cX3_measure 48 = .ok (.iconst 1, 1) := by decide +kernel
theorem dX3_measure_49 : decode cX3_measure 49 = .ok (.goto 4, 3) := by decide +kernel
theorem dX3_measure_52 : decode cX3_measure 52 = .ok (.iconst 0, 1) := by decide +kernel
theorem dX3_measure_53 : decode cX3_measure 53 = .ok (.putfield 21, 3) := by decide +kernel
theorem dX3_measure_56 : decode cX3_measure 56 = .ok (.iinc 3 1, 3) := by decide +kernel
theorem dX3_measure_59 : decode cX3_measure 59 = .ok (.goto (-52), 3) := by decide +kernel
theorem dX3_measure_62 : decode cX3_measure 62 = .ok (.return_, 1) := by decide +kernel
theorem dX3_distribute_0 : decode cX3_distribute 0 = .ok (.aload_n 1, 1) := by decide +kernel
theorem dX3_distribute_1 : decode cX3_distribute 1 = .ok (.invokevirtual 25, 3) := by decide +kernel
theorem dX3_distribute_4 : decode cX3_distribute 4 = .ok (.istore_n 2, 1) := by decide +kernel
theorem dX3_distribute_5 : decode cX3_distribute 5 = .ok (.aload_n 0, 1) := by decide +kernel
theorem dX3_distribute_6 : decode cX3_distribute 6 = .ok (.getfield 15, 3) := by decide +kernel
theorem dX3_distribute_9 : decode cX3_distribute 9 = .ok (.iload_n 2, 1) := by decide +kernel
theorem dX3_distribute_10 : decode cX3_distribute 10 = .ok (.iconst 0, 1) := by decide +kernel
theorem dX3_distribute_11 : decode cX3_distribute 11 = .ok (.iastore, 1) := by decide +kernel
theorem dX3_distribute_12 : decode cX3_distribute 12 = .ok (.iload_n 2, 1) := by decide +kernel
theorem dX3_distribute_13 : decode cX3_distribute 13 = .ok (.iconst 1, 1) := by decide +kernel
theorem dX3_distribute_14 : decode cX3_distribute 14 = .ok (.isub, 1) := by decide +kernel
theorem dX3_distribute_15 : decode cX3_distribute 15 = .ok (.istore_n 3, 1) := by decide +kernel
theorem dX3_distribute_16 : decode cX3_distribute 16 = .ok (.iload_n 3, 1) := by decide +kernel
theorem dX3_distribute_17 : decode cX3_distribute 17 = .ok (.ifCond .lt 15, 3) := by decide +kernel
theorem dX3_distribute_20 : decode cX3_distribute 20 = .ok (.aload_n 0, 1) := by decide +kernel
theorem dX3_distribute_21 : decode cX3_distribute 21 = .ok (.aload_n 1, 1) := by decide +kernel
theorem dX3_distribute_22 : decode cX3_distribute 22 = .ok (.iload_n 3, 1) := by decide +kernel
theorem dX3_distribute_23 : decode cX3_distribute 23 = .ok (.invokevirtual 40, 3) := by decide +kernel
theorem dX3_distribute_26 : decode cX3_distribute 26 = .ok (.iinc 3 (-1), 3) := by decide +kernel
theorem dX3_distribute_29 : decode cX3_distribute 29 = .ok (.goto (-13), 3) := by decide +kernel
theorem dX3_distribute_32 : decode cX3_distribute 32 = .ok (.aload_n 0, 1) := by decide +kernel
theorem dX3_distribute_33 : decode cX3_distribute 33 = .ok (.getfield 21, 3) := by decide +kernel
theorem dX3_distribute_36 : decode cX3_distribute 36 = .ok (.ifCond .ne 11, 3) := by decide +kernel
theorem dX3_distribute_39 : decode cX3_distribute 39 = .ok (.aload_n 0, 1) := by decide +kernel
theorem dX3_distribute_40 : decode cX3_distribute 40 = .ok (.getfield 15, 3) := by decide +kernel
theorem dX3_distribute_43 : decode cX3_distribute 43 = .ok (.iconst 0, 1) := by decide +kernel
theorem dX3_distribute_44 : decode cX3_distribute 44 = .ok (.bipush (-4), 2) := by decide +kernel
theorem dX3_distribute_46 : decode cX3_distribute 46 = .ok (.iastore, 1) := by decide +kernel
theorem dX3_distribute_47 : decode cX3_distribute 47 = .ok (.return_, 1) := by decide +kernel
theorem dX3_beginPage_0 : decode cX3_beginPage 0 = .ok (.aload_n 0, 1) := by decide +kernel
theorem dX3_beginPage_1 : decode cX3_beginPage 1 = .ok (.getfield 15, 3) := by decide +kernel
theorem dX3_beginPage_4 : decode cX3_beginPage 4 = .ok (.iload_n 2, 1) := by decide +kernel
theorem dX3_beginPage_5 : decode cX3_beginPage 5 = .ok (.bipush (-4), 2) := by decide +kernel
theorem dX3_beginPage_7 : decode cX3_beginPage 7 = .ok (.iastore, 1) := by decide +kernel
theorem dX3_beginPage_8 : decode cX3_beginPage 8 = .ok (.iload_n 2, 1) := by decide +kernel
theorem dX3_beginPage_9 : decode cX3_beginPage 9 = .ok (.iconst 1, 1) := by decide +kernel
theorem dX3_beginPage_10 : decode cX3_beginPage 10 = .ok (.iadd, 1) := by decide +kernel
theorem dX3_beginPage_11 : decode cX3_beginPage 11 = .ok (.istore_n 3, 1) := by decide +kernel
theorem dX3_beginPage_12 : decode cX3_beginPage 12 = .ok (.iload_n 3, 1) := by decide +kernel
theorem dX3_beginPage_13 : decode cX3_beginPage 13 = .ok (.aload_n 1, 1) := by decide +kernel
theorem dX3_beginPage_14 : decode cX3_beginPage 14 = .ok (.invokevirtual 25, 3) := by decide +kernel
theorem dX3_beginPage_17 : decode cX3_beginPage 17 = .ok (.if_icmp .gt 95, 3) := by decide +kernel
theorem dX3_beginPage_20 : decode cX3_beginPage 20 = .ok (.aload_n 0, 1) := by decide +kernel
theorem dX3_beginPage_21 : decode cX3_beginPage 21 = .ok (.getfield 15, 3) := by decide +kernel
theorem dX3_beginPage_24 : decode cX3_beginPage 24 = .ok (.iload_n 3, 1) := by decide +kernel
theorem dX3_beginPage_25 : decode cX3_beginPage 25 = .ok (.iaload, 1) := by decide +kernel
theorem dX3_beginPage_26 : decode cX3_beginPage 26 = .ok (.bipush (-4), 2) := by decide +kernel
theorem dX3_beginPage_28 : decode cX3_beginPage 28 = .ok (.if_icmp .eq 78, 3) := by decide +kernel
theorem dX3_beginPage_31 : decode cX3_beginPage 31 = .ok (.aload_n 0, 1) := by decide +kernel
theorem dX3_beginPage_32 : decode cX3_beginPage 32 = .ok (.aload_n 1, 1) := by decide +kernel
theorem dX3_beginPage_33 : decode cX3_beginPage 33 = .ok (.iload_n 2, 1) := by decide +kernel
theorem dX3_beginPage_34 : decode cX3_beginPage 34 = .ok (.iload_n 3, 1) := by decide +kernel
theorem dX3_beginPage_35 : decode cX3_beginPage 35 = .ok (.invokevirtual 43, 3) := by decide +kernel
theorem dX3_beginPage_38 : decode cX3_beginPage 38 = .ok (.ifCond .ne 6, 3) := by decide +kernel
theorem dX3_beginPage_41 : decode cX3_beginPage 41 = .ok (.goto 65, 3) := by decide +kernel
theorem dX3_beginPage_44 : decode cX3_beginPage 44 = .ok (.aload_n 0, 1) := by decide +kernel
theorem dX3_beginPage_45 : decode cX3_beginPage 45 = .ok (.getfield 15, 3) := by decide +kernel
theorem dX3_beginPage_48 : decode cX3_beginPage 48 = .ok (.iload_n 3, 1) := by decide +kernel
theorem dX3_beginPage_49 : decode cX3_beginPage 49 = .ok (.iaload, 1) := by decide +kernel
theorem dX3_beginPage_50 : decode cX3_beginPage 50 = .ok (.iconst 1, 1) := by decide +kernel
theorem dX3_beginPage_51 : decode cX3_beginPage 51 = .ok (.iadd, 1) := by decide +kernel
theorem dX3_beginPage_52 : decode cX3_beginPage 52 = .ok (.aload_n 1, 1) := by decide +kernel
theorem dX3_beginPage_53 : decode cX3_beginPage 53 = .ok (.iload_n 3, 1) := by decide +kernel
theorem dX3_beginPage_54 : decode cX3_beginPage 54 = .ok (.invokevirtual 47, 3) := by decide +kernel
theorem dX3_beginPage_57 : decode cX3_beginPage 57 = .ok (.ifCond .eq 8, 3) := by decide +kernel
theorem dX3_beginPage_60 : decode cX3_beginPage 60 = .ok (.bipush 100, 2) := by decide +kernel
theorem dX3_beginPage_62 : decode cX3_beginPage 62 = .ok (.goto 4, 3) := by decide +kernel
theorem dX3_beginPage_65 : decode cX3_beginPage 65 = .ok (.iconst 0, 1) := by decide +kernel
theorem dX3_beginPage_66 : decode cX3_beginPage 66 = .ok (.iadd, 1) := by decide +kernel
theorem dX3_beginPage_67 : decode cX3_beginPage 67 = .ok (.istore 4, 2) := by decide +kernel
theorem dX3_beginPage_69 : decode cX3_beginPage 69 = .ok (.aload_n 0, 1) := by decide +kernel
theorem dX3_beginPage_70 : decode cX3_beginPage 70 = .ok (.getfield 15, 3) := by decide +kernel
theorem dX3_beginPage_73 : decode cX3_beginPage 73 = .ok (.iload_n 2, 1) := by decide +kernel
theorem dX3_beginPage_74 : decode cX3_beginPage 74 = .ok (.iaload, 1) := by decide +kernel
theorem dX3_beginPage_75 : decode cX3_beginPage 75 = .ok (.bipush (-4), 2) := by decide +kernel
theorem dX3_beginPage_77 : decode cX3_beginPage 77 = .ok (.if_icmp .eq 14, 3) := by decide +kernel
theorem dX3_beginPage_80 : decode cX3_beginPage 80 = .ok (.iload 4, 2) := by decide +kernel
theorem dX3_beginPage_82 : decode cX3_beginPage 82 = .ok (.aload_n 0, 1) := by decide +kernel
theorem dX3_beginPage_83 : decode cX3_beginPage 83 = .ok (.getfield 15, 3) := by decide +kernel
theorem dX3_beginPage_86 : decode cX3_beginPage 86 = .ok (.iload_n 2, 1) := by decide +kernel
theorem dX3_beginPage_87 : decode cX3_beginPage 87 = .ok (.iaload, 1) := by decide +kernel
theorem dX3_beginPage_88 : decode cX3_beginPage 88 = .ok (.if_icmp .gt 18, 3) := by decide +kernel
theorem dX3_beginPage_91 : decode cX3_beginPage 91 = .ok (.aload_n 0, 1) := by decide +kernel
theorem dX3_beginPage_92 : decode cX3_beginPage 92 = .ok (.getfield 15, 3) := by decide +kernel
theorem dX3_beginPage_95 : decode cX3_beginPage 95 = .ok (.iload_n 2, 1) := by decide +kernel
theorem dX3_beginPage_96 : decode cX3_beginPage 96 = .ok (.iload 4, 2) := by decide +kernel
theorem dX3_beginPage_98 : decode cX3_beginPage 98 = .ok (.iastore, 1) := by decide +kernel
theorem dX3_beginPage_99 : decode cX3_beginPage 99 = .ok (.aload_n 0, 1) := by decide +kernel
theorem dX3_beginPage_100 : decode cX3_beginPage 100 = .ok (.getfield 18, 3) := by decide +kernel
theorem dX3_beginPage_103 : decode cX3_beginPage 103 = .ok (.iload_n 2, 1) := by decide +kernel
theorem dX3_beginPage_104 : decode cX3_beginPage 104 = .ok (.iload_n 3, 1) := by decide +kernel
theorem dX3_beginPage_105 : decode cX3_beginPage 105 = .ok (.iastore, 1) := by decide +kernel
theorem dX3_beginPage_106 : decode cX3_beginPage 106 = .ok (.iinc 3 1, 3) := by decide +kernel
theorem dX3_beginPage_109 : decode cX3_beginPage 109 = .ok (.goto (-97), 3) := by decide +kernel
theorem dX3_beginPage_112 : decode cX3_beginPage 112 = .ok (.return_, 1) := by decide +kernel
theorem dX3_isAllowed_0 : decode cX3_isAllowed 0 = .ok (.aload_n 0, 1) := by decide +kernel
theorem dX3_isAllowed_1 : decode cX3_isAllowed 1 = .ok (.aload_n 1, 1) := by decide +kernel
theorem dX3_isAllowed_2 : decode cX3_isAllowed 2 = .ok (.iload_n 2, 1) := by decide +kernel
theorem dX3_isAllowed_3 : decode cX3_isAllowed 3 = .ok (.iload_n 3, 1) := by decide +kernel
theorem dX3_isAllowed_4 : decode cX3_isAllowed 4 = .ok (.invokevirtual 51, 3) := by decide +kernel
theorem dX3_isAllowed_7 : decode cX3_isAllowed 7 = .ok (.aload_n 1, 1) := by decide +kernel
theorem dX3_isAllowed_8 : decode cX3_isAllowed 8 = .ok (.iconst 3, 1) := by decide +kernel
theorem dX3_isAllowed_9 : decode cX3_isAllowed 9 = .ok (.invokevirtual 55, 3) := by decide +kernel
theorem dX3_isAllowed_12 : decode cX3_isAllowed 12 = .ok (.if_icmp .le 5, 3) := by decide +kernel
theorem dX3_isAllowed_15 : decode cX3_isAllowed 15 = .ok (.iconst 0, 1) := by decide +kernel
theorem dX3_isAllowed_16 : decode cX3_isAllowed 16 = .ok (.ireturn, 1) := by decide +kernel
theorem dX3_isAllowed_17 : decode cX3_isAllowed 17 = .ok (.aload_n 1, 1) := by decide +kernel
theorem dX3_isAllowed_18 : decode cX3_isAllowed 18 = .ok (.iload_n 3, 1) := by decide +kernel
theorem dX3_isAllowed_19 : decode cX3_isAllowed 19 = .ok (.invokevirtual 47, 3) := by decide +kernel
theorem dX3_isAllowed_22 : decode cX3_isAllowed 22 = .ok (.ifCond .ne 5, 3) := by decide +kernel
theorem dX3_isAllowed_25 : decode cX3_isAllowed 25 = .ok (.iconst 1, 1) := by decide +kernel
theorem dX3_isAllowed_26 : decode cX3_isAllowed 26 = .ok (.ireturn, 1) := by decide +kernel
theorem dX3_isAllowed_27 : decode cX3_isAllowed 27 = .ok (.iload_n 3, 1) := by decide +kernel
theorem dX3_isAllowed_28 : decode cX3_isAllowed 28 = .ok (.iload_n 2, 1) := by decide +kernel
theorem dX3_isAllowed_29 : decode cX3_isAllowed 29 = .ok (.aload_n 1, 1) := by decide +kernel
theorem dX3_isAllowed_30 : decode cX3_isAllowed 30 = .ok (.iload_n 3, 1) := by decide +kernel
theorem dX3_isAllowed_31 : decode cX3_isAllowed 31 = .ok (.invokevirtual 59, 3) := by decide +kernel
theorem dX3_isAllowed_34 : decode cX3_isAllowed 34 = .ok (.invokestatic 62, 3) := by decide +kernel
theorem dX3_isAllowed_37 : decode cX3_isAllowed 37 = .ok (.isub, 1) := by decide +kernel
theorem dX3_isAllowed_38 : decode cX3_isAllowed 38 = .ok (.istore 4, 2) := by decide +kernel
theorem dX3_isAllowed_40 : decode cX3_isAllowed 40 = .ok (.aload_n 1, 1) := by decide +kernel
theorem dX3_isAllowed_41 : decode cX3_isAllowed 41 = .ok (.iload_n 3, 1) := by decide +kernel
theorem dX3_isAllowed_42 : decode cX3_isAllowed 42 = .ok (.invokevirtual 68, 3) := by decide +kernel
theorem dX3_isAllowed_45 : decode cX3_isAllowed 45 = .ok (.iload_n 3, 1) := by decide +kernel
theorem dX3_isAllowed_46 : decode cX3_isAllowed 46 = .ok (.isub, 1) := by decide +kernel
theorem dX3_isAllowed_47 : decode cX3_isAllowed 47 = .ok (.istore 5, 2) := by decide +kernel
theorem dX3_isAllowed_49 : decode cX3_isAllowed 49 = .ok (.iload 4, 2) := by decide +kernel
theorem dX3_isAllowed_51 : decode cX3_isAllowed 51 = .ok (.iload 5, 2) := by decide +kernel
theorem dX3_isAllowed_53 : decode cX3_isAllowed 53 = .ok (.invokestatic 71, 3) := by decide +kernel
theorem dX3_isAllowed_56 : decode cX3_isAllowed 56 = .ok (.aload_n 1, 1) := by decide +kernel
theorem dX3_isAllowed_57 : decode cX3_isAllowed 57 = .ok (.iconst 4, 1) := by decide +kernel
theorem dX3_isAllowed_58 : decode cX3_isAllowed 58 = .ok (.invokevirtual 55, 3) := by decide +kernel
theorem dX3_isAllowed_61 : decode cX3_isAllowed 61 = .ok (.if_icmp .lt 7, 3) := by decide +kernel
theorem dX3_isAllowed_64 : decode cX3_isAllowed 64 = .ok (.iconst 1, 1) := by decide +kernel
theorem dX3_isAllowed_65 : decode cX3_isAllowed 65 = .ok (.goto 4, 3) := by decide +kernel
theorem dX3_isAllowed_68 : decode cX3_isAllowed 68 = .ok (.iconst 0, 1) := by decide +kernel
theorem dX3_isAllowed_69 : decode cX3_isAllowed 69 = .ok (.ireturn, 1) := by decide +kernel
theorem dX3_heightOf_0 : decode cX3_heightOf 0 = .ok (.iconst 0, 1) := by decide +kernel
theorem dX3_heightOf_1 : decode cX3_heightOf 1 = .ok (.istore 4, 2) := by decide +kernel
theorem dX3_heightOf_3 : decode cX3_heightOf 3 = .ok (.iload_n 2, 1) := by decide +kernel
theorem dX3_heightOf_4 : decode cX3_heightOf 4 = .ok (.istore 5, 2) := by decide +kernel
theorem dX3_heightOf_6 : decode cX3_heightOf 6 = .ok (.iload 5, 2) := by decide +kernel
theorem dX3_heightOf_8 : decode cX3_heightOf 8 = .ok (.iload_n 3, 1) := by decide +kernel
theorem dX3_heightOf_9 : decode cX3_heightOf 9 = .ok (.if_icmp .ge 39, 3) := by decide +kernel
theorem dX3_heightOf_12 : decode cX3_heightOf 12 = .ok (.iload 4, 2) := by decide +kernel
theorem dX3_heightOf_14 : decode cX3_heightOf 14 = .ok (.aload_n 0, 1) := by decide +kernel
theorem dX3_heightOf_15 : decode cX3_heightOf 15 = .ok (.getfield 9, 3) := by decide +kernel
theorem dX3_heightOf_18 : decode cX3_heightOf 18 = .ok (.iload 5, 2) := by decide +kernel
theorem dX3_heightOf_20 : decode cX3_heightOf 20 = .ok (.iaload, 1) := by decide +kernel
theorem dX3_heightOf_21 : decode cX3_heightOf 21 = .ok (.iadd, 1) := by decide +kernel
theorem dX3_heightOf_22 : decode cX3_heightOf 22 = .ok (.istore 4, 2) := by decide +kernel
theorem dX3_heightOf_24 : decode cX3_heightOf 24 = .ok (.iload 5, 2) := by decide +kernel
theorem dX3_heightOf_26 : decode cX3_heightOf 26 = .ok (.iload_n 2, 1) := by decide +kernel
theorem dX3_heightOf_27 : decode cX3_heightOf 27 = .ok (.if_icmp .le 15, 3) := by decide +kernel
theorem dX3_heightOf_30 : decode cX3_heightOf 30 = .ok (.aload_n 1, 1) := by decide +kernel
theorem dX3_heightOf_31 : decode cX3_heightOf 31 = .ok (.iload 5, 2) := by decide +kernel
theorem dX3_heightOf_33 : decode cX3_heightOf 33 = .ok (.invokevirtual 74, 3) := by decide +kernel
theorem dX3_heightOf_36 : decode cX3_heightOf 36 = .ok (.ifCond .eq 6, 3) := by decide +kernel
theorem dX3_heightOf_39 : decode cX3_heightOf 39 = .ok (.iinc 4 1, 3) := by decide +kernel
theorem dX3_heightOf_42 : decode cX3_heightOf 42 = .ok (.iinc 5 1, 3) := by decide +kernel
theorem dX3_heightOf_45 : decode cX3_heightOf 45 = .ok (.goto (-39), 3) := by decide +kernel
theorem dX3_heightOf_48 : decode cX3_heightOf 48 = .ok (.iload 4, 2) := by decide +kernel
theorem dX3_heightOf_50 : decode cX3_heightOf 50 = .ok (.ireturn, 1) := by decide +kernel
theorem dX3_number_0 : decode cX3_number 0 = .ok (.aload_n 0, 1) := by decide +kernel
theorem dX3_number_1 : decode cX3_number 1 = .ok (.getfield 15, 3) := by decide +kernel
theorem dX3_number_4 : decode cX3_number 4 = .ok (.iconst 0, 1) := by decide +kernel
theorem dX3_number_5 : decode cX3_number 5 = .ok (.iaload, 1) := by decide +kernel
theorem dX3_number_6 : decode cX3_number 6 = .ok (.bipush (-4), 2) := by decide +kernel
theorem dX3_number_8 : decode cX3_number 8 = .ok (.if_icmp .ne 8, 3) := by decide +kernel
theorem dX3_number_11 : decode cX3_number 11 = .ok (.bipush (-4), 2) := by decide +kernel
theorem dX3_number_13 : decode cX3_number 13 = .ok (.goto 12, 3) := by decide +kernel
theorem dX3_number_16 : decode cX3_number 16 = .ok (.aload_n 0, 1) := by decide +kernel
theorem dX3_number_17 : decode cX3_number 17 = .ok (.getfield 15, 3) := by decide +kernel
theorem dX3_number_20 : decode cX3_number 20 = .ok (.iconst 0, 1) := by decide +kernel
theorem dX3_number_21 : decode cX3_number 21 = .ok (.iaload, 1) := by decide +kernel
theorem dX3_number_22 : decode cX3_number 22 = .ok (.bipush 100, 2) := by decide +kernel
theorem dX3_number_24 : decode cX3_number 24 = .ok (.irem, 1) := by decide +kernel
theorem dX3_number_25 : decode cX3_number 25 = .ok (.ireturn, 1) := by decide +kernel
theorem dX3_cutStanzas_0 : decode cX3_cutStanzas 0 = .ok (.aload_n 0, 1) := by decide +kernel
theorem dX3_cutStanzas_1 : decode cX3_cutStanzas 1 = .ok (.getfield 15, 3) := by decide +kernel
theorem dX3_cutStanzas_4 : decode cX3_cutStanzas 4 = .ok (.iconst 0, 1) := by decide +kernel
theorem dX3_cutStanzas_5 : decode cX3_cutStanzas 5 = .ok (.iaload, 1) := by decide +kernel
theorem dX3_cutStanzas_6 : decode cX3_cutStanzas 6 = .ok (.bipush (-4), 2) := by decide +kernel
theorem dX3_cutStanzas_8 : decode cX3_cutStanzas 8 = .ok (.if_icmp .ne 8, 3) := by decide +kernel
theorem dX3_cutStanzas_11 : decode cX3_cutStanzas 11 = .ok (.bipush (-4), 2) := by decide +kernel
theorem dX3_cutStanzas_13 : decode cX3_cutStanzas 13 = .ok (.goto 12, 3) := by decide +kernel
theorem dX3_cutStanzas_16 : decode cX3_cutStanzas 16 = .ok (.aload_n 0, 1) := by decide +kernel
theorem dX3_cutStanzas_17 : decode cX3_cutStanzas 17 = .ok (.getfield 15, 3) := by decide +kernel
theorem dX3_cutStanzas_20 : decode cX3_cutStanzas 20 = .ok (.iconst 0, 1) := by decide +kernel
theorem dX3_cutStanzas_21 : decode cX3_cutStanzas 21 = .ok (.iaload, 1) := by decide +kernel
theorem dX3_cutStanzas_22 : decode cX3_cutStanzas 22 = .ok (.bipush 100, 2) := by decide +kernel
theorem dX3_cutStanzas_24 : decode cX3_cutStanzas 24 = .ok (.idiv, 1) := by decide +kernel
theorem dX3_cutStanzas_25 : decode cX3_cutStanzas 25 = .ok (.ireturn, 1) := by decide +kernel
theorem dX3_firstLineOf_0 : decode cX3_firstLineOf 0 = .ok (.iconst 0, 1) := by decide +kernel
theorem dX3_firstLineOf_1 : decode cX3_firstLineOf 1 = .ok (.istore_n 2, 1) := by decide +kernel
theorem dX3_firstLineOf_2 : decode cX3_firstLineOf 2 = .ok (.iconst 0, 1) := by decide +kernel
theorem dX3_firstLineOf_3 : decode cX3_firstLineOf 3 = .ok (.istore_n 3, 1) := by decide +kernel
theorem dX3_firstLineOf_4 : decode cX3_firstLineOf 4 = .ok (.iload_n 3, 1) := by decide +kernel
theorem dX3_firstLineOf_5 : decode cX3_firstLineOf 5 = .ok (.iload_n 1, 1) := by decide +kernel
theorem dX3_firstLineOf_6 : decode cX3_firstLineOf 6 = .ok (.if_icmp .ge 16, 3) := by decide +kernel
theorem dX3_firstLineOf_9 : decode cX3_firstLineOf 9 = .ok (.aload_n 0, 1) := by decide +kernel
theorem dX3_firstLineOf_10 : decode cX3_firstLineOf 10 = .ok (.getfield 18, 3) := by decide +kernel
theorem dX3_firstLineOf_13 : decode cX3_firstLineOf 13 = .ok (.iload_n 2, 1) := by decide +kernel
theorem dX3_firstLineOf_14 : decode cX3_firstLineOf 14 = .ok (.iaload, 1) := by decide +kernel
theorem dX3_firstLineOf_15 : decode cX3_firstLineOf 15 = .ok (.istore_n 2, 1) := by decide +kernel
theorem dX3_firstLineOf_16 : decode cX3_firstLineOf 16 = .ok (.iinc 3 1, 3) := by decide +kernel
theorem dX3_firstLineOf_19 : decode cX3_firstLineOf 19 = .ok (.goto (-15), 3) := by decide +kernel
theorem dX3_firstLineOf_22 : decode cX3_firstLineOf 22 = .ok (.iload_n 2, 1) := by decide +kernel
theorem dX3_firstLineOf_23 : decode cX3_firstLineOf 23 = .ok (.ireturn, 1) := by decide +kernel
theorem dX3_pageOf_0 : decode cX3_pageOf 0 = .ok (.aload_n 0, 1) := by decide +kernel
theorem dX3_pageOf_1 : decode cX3_pageOf 1 = .ok (.getfield 15, 3) := by decide +kernel
theorem dX3_pageOf_4 : decode cX3_pageOf 4 = .ok (.iconst 0, 1) := by decide +kernel
theorem dX3_pageOf_5 : decode cX3_pageOf 5 = .ok (.iaload, 1) := by decide +kernel
theorem dX3_pageOf_6 : decode cX3_pageOf 6 = .ok (.bipush (-4), 2) := by decide +kernel
theorem dX3_pageOf_8 : decode cX3_pageOf 8 = .ok (.if_icmp .ne 6, 3) := by decide +kernel
theorem dX3_pageOf_11 : decode cX3_pageOf 11 = .ok (.bipush (-4), 2) := by decide +kernel
theorem dX3_pageOf_13 : decode cX3_pageOf 13 = .ok (.ireturn, 1) := by decide +kernel
theorem dX3_pageOf_14 : decode cX3_pageOf 14 = .ok (.iconst 0, 1) := by decide +kernel
theorem dX3_pageOf_15 : decode cX3_pageOf 15 = .ok (.istore_n 2, 1) := by decide +kernel
theorem dX3_pageOf_16 : decode cX3_pageOf 16 = .ok (.iload_n 2, 1) := by decide +kernel
theorem dX3_pageOf_17 : decode cX3_pageOf 17 = .ok (.bipush 12, 2) := by decide +kernel
theorem dX3_pageOf_19 : decode cX3_pageOf 19 = .ok (.if_icmp .ge 20, 3) := by decide +kernel
theorem dX3_pageOf_22 : decode cX3_pageOf 22 = .ok (.aload_n 0, 1) := by decide +kernel
theorem dX3_pageOf_23 : decode cX3_pageOf 23 = .ok (.iload_n 2, 1) := by decide +kernel
theorem dX3_pageOf_24 : decode cX3_pageOf 24 = .ok (.iconst 1, 1) := by decide +kernel
theorem dX3_pageOf_25 : decode cX3_pageOf 25 = .ok (.iadd, 1) := by decide +kernel
theorem dX3_pageOf_26 : decode cX3_pageOf 26 = .ok (.invokevirtual 77, 3) := by decide +kernel
theorem dX3_pageOf_29 : decode cX3_pageOf 29 = .ok (.iload_n 1, 1) := by decide +kernel
theorem dX3_pageOf_30 : decode cX3_pageOf 30 = .ok (.if_icmp .gt 9, 3) := by decide +kernel
theorem dX3_pageOf_33 : decode cX3_pageOf 33 = .ok (.iinc 2 1, 3) := by decide +kernel
theorem dX3_pageOf_36 : decode cX3_pageOf 36 = .ok (.goto (-20), 3) := by decide +kernel
theorem dX3_pageOf_39 : decode cX3_pageOf 39 = .ok (.iload_n 2, 1) := by decide +kernel
theorem dX3_pageOf_40 : decode cX3_pageOf 40 = .ok (.ireturn, 1) := by decide +kernel
