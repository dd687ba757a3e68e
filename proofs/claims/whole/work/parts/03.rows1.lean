theorem dX3_needOf_53 : decode cX3_needOf 53 = .ok (.iconst 1, 1) := by decide +kernel
theorem dX3_needOf_54 : decode cX3_needOf 54 = .ok (.iadd, 1) := by decide +kernel
theorem dX3_needOf_55 : decode cX3_needOf 55 = .ok (.invokestatic 41, 3) := by decide +kernel
theorem dX3_needOf_58 : decode cX3_needOf 58 = .ok (.istore_n 3, 1) := by decide +kernel
theorem dX3_needOf_59 : decode cX3_needOf 59 = .ok (.iinc 4 1, 3) := by decide +kernel
theorem dX3_needOf_62 : decode cX3_needOf 62 = .ok (.goto (-51), 3) := by decide +kernel
theorem dX3_needOf_65 : decode cX3_needOf 65 = .ok (.iload_n 3, 1) := by decide +kernel
theorem dX3_needOf_66 : decode cX3_needOf 66 = .ok (.ireturn, 1) := by decide +kernel
theorem dX3_size_0 : decode cX3_size 0 = .ok (.aload_n 0, 1) := by decide +kernel
theorem dX3_size_1 : decode cX3_size 1 = .ok (.getfield 9, 3) := by decide +kernel
theorem dX3_size_4 : decode cX3_size 4 = .ok (.aload_n 0, 1) := by decide +kernel
theorem dX3_size_5 : decode cX3_size 5 = .ok (.getfield 19, 3) := by decide +kernel
theorem dX3_size_8 : decode cX3_size 8 = .ok (.invokevirtual 23, 3) := by decide +kernel
theorem dX3_size_11 : decode cX3_size 11 = .ok (.iaload, 1) := by decide +kernel
theorem dX3_size_12 : decode cX3_size 12 = .ok (.istore_n 1, 1) := by decide +kernel
theorem dX3_size_13 : decode cX3_size 13 = .ok (.iload_n 1, 1) := by decide +kernel
theorem dX3_size_14 : decode cX3_size 14 = .ok (.bipush 8, 2) := by decide +kernel
theorem dX3_size_16 : decode cX3_size 16 = .ok (.if_icmp .le 8, 3) := by decide +kernel
theorem dX3_size_19 : decode cX3_size 19 = .ok (.bipush (-9), 2) := by decide +kernel
theorem dX3_size_21 : decode cX3_size 21 = .ok (.goto 4, 3) := by decide +kernel
theorem dX3_size_24 : decode cX3_size 24 = .ok (.iload_n 1, 1) := by decide +kernel
theorem dX3_size_25 : decode cX3_size 25 = .ok (.ireturn, 1) := by decide +kernel
theorem dX3_cellOf_0 : decode cX3_cellOf 0 = .ok (.iload_n 1, 1) := by decide +kernel
theorem dX3_cellOf_1 : decode cX3_cellOf 1 = .ok (.ifCond .lt 11, 3) := by decide +kernel
theorem dX3_cellOf_4 : decode cX3_cellOf 4 = .ok (.iload_n 1, 1) := by decide +kernel
theorem dX3_cellOf_5 : decode cX3_cellOf 5 = .ok (.aload_n 0, 1) := by decide +kernel
theorem dX3_cellOf_6 : decode cX3_cellOf 6 = .ok (.invokevirtual 47, 3) := by decide +kernel
theorem dX3_cellOf_9 : decode cX3_cellOf 9 = .ok (.if_icmp .lt 6, 3) := by decide +kernel
theorem dX3_cellOf_12 : decode cX3_cellOf 12 = .ok (.bipush (-9), 2) := by decide +kernel
theorem dX3_cellOf_14 : decode cX3_cellOf 14 = .ok (.ireturn, 1) := by decide +kernel
theorem dX3_cellOf_15 : decode cX3_cellOf 15 = .ok (.aload_n 0, 1) := by decide +kernel
theorem dX3_cellOf_16 : decode cX3_cellOf 16 = .ok (.getfield 19, 3) := by decide +kernel
theorem dX3_cellOf_19 : decode cX3_cellOf 19 = .ok (.invokevirtual 23, 3) := by decide +kernel
theorem dX3_cellOf_22 : decode cX3_cellOf 22 = .ok (.istore_n 2, 1) := by decide +kernel
theorem dX3_cellOf_23 : decode cX3_cellOf 23 = .ok (.bipush (-9), 2) := by decide +kernel
theorem dX3_cellOf_25 : decode cX3_cellOf 25 = .ok (.istore_n 3, 1) := by decide +kernel
theorem dX3_cellOf_26 : decode cX3_cellOf 26 = .ok (.iconst 0, 1) := by decide +kernel
theorem dX3_cellOf_27 : decode cX3_cellOf 27 = .ok (.istore 4, 2) := by decide +kernel
theorem dX3_cellOf_29 : decode cX3_cellOf 29 = .ok (.iload 4, 2) := by decide +kernel
theorem dX3_cellOf_31 : decode cX3_cellOf 31 = .ok (.iload_n 1, 1) := by decide +kernel
theorem dX3_cellOf_32 : decode cX3_cellOf 32 = .ok (.if_icmp .gt 37, 3) := by decide +kernel
theorem dX3_cellOf_35 : decode cX3_cellOf 35 = .ok (.aload_n 0, 1) := by decide +kernel
theorem dX3_cellOf_36 : decode cX3_cellOf 36 = .ok (.iload_n 2, 1) := by decide +kernel
theorem dX3_cellOf_37 : decode cX3_cellOf 37 = .ok (.invokevirtual 48, 3) := by decide +kernel
theorem dX3_cellOf_40 : decode cX3_cellOf 40 = .ok (.istore_n 3, 1) := by decide +kernel
theorem dX3_cellOf_41 : decode cX3_cellOf 41 = .ok (.iload_n 3, 1) := by decide +kernel
theorem dX3_cellOf_42 : decode cX3_cellOf 42 = .ok (.bipush (-9), 2) := by decide +kernel
theorem dX3_cellOf_44 : decode cX3_cellOf 44 = .ok (.if_icmp .ne 6, 3) := by decide +kernel
theorem dX3_cellOf_47 : decode cX3_cellOf 47 = .ok (.bipush (-9), 2) := by decide +kernel
theorem dX3_cellOf_49 : decode cX3_cellOf 49 = .ok (.ireturn, 1) := by decide +kernel
theorem dX3_cellOf_50 : decode cX3_cellOf 50 = .ok (.iload_n 2, 1) := by decide +kernel
theorem dX3_cellOf_51 : decode cX3_cellOf 51 = .ok (.aload_n 0, 1) := by decide +kernel
theorem dX3_cellOf_52 : decode cX3_cellOf 52 = .ok (.getfield 19, 3) := by decide +kernel
theorem dX3_cellOf_55 : decode cX3_cellOf 55 = .ok (.iload_n 3, 1) := by decide +kernel
theorem dX3_cellOf_56 : decode cX3_cellOf 56 = .ok (.invokevirtual 38, 3) := by decide +kernel
theorem dX3_cellOf_59 : decode cX3_cellOf 59 = .ok (.iconst (-1), 1) := by decide +kernel
theorem dX3_cellOf_60 : decode cX3_cellOf 60 = .ok (.ixor, 1) := by decide +kernel
theorem dX3_cellOf_61 : decode cX3_cellOf 61 = .ok (.iand, 1) := by decide +kernel
theorem dX3_cellOf_62 : decode cX3_cellOf 62 = .ok (.istore_n 2, 1) := by decide +kernel
theorem dX3_cellOf_63 : decode cX3_cellOf 63 = .ok (.iinc 4 1, 3) := by decide +kernel
theorem dX3_cellOf_66 : decode cX3_cellOf 66 = .ok (.goto (-37), 3) := by decide +kernel
theorem dX3_cellOf_69 : decode cX3_cellOf 69 = .ok (.iload_n 3, 1) := by decide +kernel
theorem dX3_cellOf_70 : decode cX3_cellOf 70 = .ok (.ireturn, 1) := by decide +kernel
theorem dX3_leastHelper_0 : decode cX3_leastHelper 0 = .ok (.iconst 0, 1) := by decide +kernel
theorem dX3_leastHelper_1 : decode cX3_leastHelper 1 = .ok (.istore_n 2, 1) := by decide +kernel
theorem dX3_leastHelper_2 : decode cX3_leastHelper 2 = .ok (.iload_n 2, 1) := by decide +kernel
theorem dX3_leastHelper_3 : decode cX3_leastHelper 3 = .ok (.aload_n 0, 1) := by decide +kernel
theorem dX3_leastHelper_4 : decode cX3_leastHelper 4 = .ok (.getfield 15, 3) := by decide +kernel
theorem dX3_leastHelper_7 : decode cX3_leastHelper 7 = .ok (.invokevirtual 33, 3) := by decide +kernel
theorem dX3_leastHelper_10 : decode cX3_leastHelper 10 = .ok (.if_icmp .ge 39, 3) := by decide +kernel
theorem dX3_leastHelper_13 : decode cX3_leastHelper 13 = .ok (.aload_n 0, 1) := by decide +kernel
theorem dX3_leastHelper_14 : decode cX3_leastHelper 14 = .ok (.getfield 9, 3) := by decide +kernel
theorem dX3_leastHelper_17 : decode cX3_leastHelper 17 = .ok (.iload_n 1, 1) := by decide +kernel
theorem dX3_leastHelper_18 : decode cX3_leastHelper 18 = .ok (.aload_n 0, 1) := by decide +kernel
theorem dX3_leastHelper_19 : decode cX3_leastHelper 19 = .ok (.getfield 19, 3) := by decide +kernel
theorem dX3_leastHelper_22 : decode cX3_leastHelper 22 = .ok (.iload_n 2, 1) := by decide +kernel
theorem dX3_leastHelper_23 : decode cX3_leastHelper 23 = .ok (.invokevirtual 38, 3) := by decide +kernel
theorem dX3_leastHelper_26 : decode cX3_leastHelper 26 = .ok (.iconst (-1), 1) := by decide +kernel
theorem dX3_leastHelper_27 : decode cX3_leastHelper 27 = .ok (.ixor, 1) := by decide +kernel
theorem dX3_leastHelper_28 : decode cX3_leastHelper 28 = .ok (.iand, 1) := by decide +kernel
theorem dX3_leastHelper_29 : decode cX3_leastHelper 29 = .ok (.iaload, 1) := by decide +kernel
theorem dX3_leastHelper_30 : decode cX3_leastHelper 30 = .ok (.aload_n 0, 1) := by decide +kernel
theorem dX3_leastHelper_31 : decode cX3_leastHelper 31 = .ok (.getfield 9, 3) := by decide +kernel
theorem dX3_leastHelper_34 : decode cX3_leastHelper 34 = .ok (.iload_n 1, 1) := by decide +kernel
theorem dX3_leastHelper_35 : decode cX3_leastHelper 35 = .ok (.iaload, 1) := by decide +kernel
theorem dX3_leastHelper_36 : decode cX3_leastHelper 36 = .ok (.iconst 1, 1) := by decide +kernel
theorem dX3_leastHelper_37 : decode cX3_leastHelper 37 = .ok (.isub, 1) := by decide +kernel
theorem dX3_leastHelper_38 : decode cX3_leastHelper 38 = .ok (.if_icmp .ne 5, 3) := by decide +kernel
theorem dX3_leastHelper_41 : decode cX3_leastHelper 41 = .ok (.iload_n 2, 1) := by decide +kernel
theorem dX3_leastHelper_42 : decode cX3_leastHelper 42 = .ok (.ireturn, 1) := by decide +kernel
theorem dX3_leastHelper_43 : decode cX3_leastHelper 43 = .ok (.iinc 2 1, 3) := by decide +kernel
theorem dX3_leastHelper_46 : decode cX3_leastHelper 46 = .ok (.goto (-44), 3) := by decide +kernel
theorem dX3_leastHelper_49 : decode cX3_leastHelper 49 = .ok (.bipush (-9), 2) := by decide +kernel
theorem dX3_leastHelper_51 : decode cX3_leastHelper 51 = .ok (.ireturn, 1) := by decide +kernel
theorem dX4_init_0 : decode cX4_init 0 = .ok (.aload_n 0, 1) := by decide +kernel
theorem dX4_init_1 : decode cX4_init 1 = .ok (.invokespecial 3, 3) := by decide +kernel
theorem dX4_init_4 : decode cX4_init 4 = .ok (.aload_n 0, 1) := by decide +kernel
theorem dX4_init_5 : decode cX4_init 5 = .ok (.bipush 24, 2) := by decide +kernel
theorem dX4_init_7 : decode cX4_init 7 = .ok (.newarray .int, 2) := by decide +kernel
theorem dX4_init_9 : decode cX4_init 9 = .ok (.putfield 9, 3) := by decide +kernel
theorem dX4_init_12 : decode cX4_init 12 = .ok (.aload_n 0, 1) := by decide +kernel
theorem dX4_init_13 : decode cX4_init 13 = .ok (.iconst 4, 1) := by decide +kernel
theorem dX4_init_14 : decode cX4_init 14 = .ok (.newarray .int, 2) := by decide +kernel
theorem dX4_init_16 : decode cX4_init 16 = .ok (.putfield 15, 3) := by decide +kernel
theorem dX4_init_19 : decode cX4_init 19 = .ok (.aload_n 0, 1) := by decide +kernel
theorem dX4_init_20 : decode cX4_init 20 = .ok (.iconst 4, 1) := by decide +kernel
theorem dX4_init_21 : decode cX4_init 21 = .ok (.newarray .int, 2) := by decide +kernel
theorem dX4_init_23 : decode cX4_init 23 = .ok (.putfield 18, 3) := by decide +kernel
theorem dX4_init_26 : decode cX4_init 26 = .ok (.return_, 1) := by decide +kernel
theorem dX4_clear_0 : decode cX4_clear 0 = .ok (.aload_n 0, 1) := by decide +kernel
theorem dX4_clear_1 : decode cX4_clear 1 = .ok (.getfield 15, 3) := by decide +kernel
theorem dX4_clear_4 : decode cX4_clear 4 = .ok (.iconst 0, 1) := by decide +kernel
theorem dX4_clear_5 : decode cX4_clear 5 = .ok (.invokestatic 21, 3) := by decide +kernel
theorem dX4_clear_8 : decode cX4_clear 8 = .ok (.aload_n 0, 1) := by decide +kernel
theorem dX4_clear_9 : decode cX4_clear 9 = .ok (.getfield 18, 3) := by decide +kernel
theorem dX4_clear_12 : decode cX4_clear 12 = .ok (.iconst 0, 1) := by decide +kernel
theorem dX4_clear_13 : decode cX4_clear 13 = .ok (.invokestatic 21, 3) := by decide +kernel
theorem dX4_clear_16 : decode cX4_clear 16 = .ok (.return_, 1) := by decide +kernel
theorem dX4_lengthOf_0 : decode cX4_lengthOf 0 = .ok (.aload_n 0, 1) := by decide +kernel
theorem dX4_lengthOf_1 : decode cX4_lengthOf 1 = .ok (.getfield 15, 3) := by decide +kernel
theorem dX4_lengthOf_4 : decode cX4_lengthOf 4 = .ok (.iload_n 1, 1) := by decide +kernel
theorem dX4_lengthOf_5 : decode cX4_lengthOf 5 = .ok (.iaload, 1) := by decide +kernel
theorem dX4_lengthOf_6 : decode cX4_lengthOf 6 = .ok (.ireturn, 1) := by decide +kernel
theorem dX4_shiftOf_0 : decode cX4_shiftOf 0 = .ok (.aload_n 0, 1) := by decide +kernel
theorem dX4_shiftOf_1 : decode cX4_shiftOf 1 = .ok (.getfield 18, 3) := by decide +kernel
theorem dX4_shiftOf_4 : decode cX4_shiftOf 4 = .ok (.iload_n 1, 1) := by decide +kernel
theorem dX4_shiftOf_5 : decode cX4_shiftOf 5 = .ok (.iaload, 1) := by decide +kernel
theorem dX4_shiftOf_6 : decode cX4_shiftOf 6 = .ok (.ireturn, 1) := by decide +kernel
theorem dX4_changeShift_0 : decode cX4_changeShift 0 = .ok (.aload_n 0, 1) := by decide +kernel
theorem dX4_changeShift_1 : decode cX4_changeShift 1 = .ok (.getfield 18, 3) := by decide +kernel
theorem dX4_changeShift_4 : decode cX4_changeShift 4 = .ok (.iload_n 1, 1) := by decide +kernel
theorem dX4_changeShift_5 : decode cX4_changeShift 5 = .ok (.iload_n 2, 1) := by decide +kernel
theorem dX4_changeShift_6 : decode cX4_changeShift 6 = .ok (.iastore, 1) := by decide +kernel
theorem dX4_changeShift_7 : decode cX4_changeShift 7 = .ok (.return_, 1) := by decide +kernel
theorem dX4_cellOf_0 : decode cX4_cellOf 0 = .ok (.aload_n 0, 1) := by decide +kernel
theorem dX4_cellOf_1 : decode cX4_cellOf 1 = .ok (.getfield 9, 3) := by decide +kernel
theorem dX4_cellOf_4 : decode cX4_cellOf 4 = .ok (.iload_n 1, 1) := by decide +kernel
theorem dX4_cellOf_5 : decode cX4_cellOf 5 = .ok (.bipush 6, 2) := by decide +kernel
theorem dX4_cellOf_7 : decode cX4_cellOf 7 = .ok (.imul, 1) := by decide +kernel
theorem dX4_cellOf_8 : decode cX4_cellOf 8 = .ok (.iload_n 2, 1) := by decide +kernel
theorem dX4_cellOf_9 : decode cX4_cellOf 9 = .ok (.iadd, 1) := by decide +kernel
theorem dX4_cellOf_10 : decode cX4_cellOf 10 = .ok (.iaload, 1) := by decide +kernel
theorem dX4_cellOf_11 : decode cX4_cellOf 11 = .ok (.ireturn, 1) := by decide +kernel
theorem dX4_firstOf_0 : decode cX4_firstOf 0 = .ok (.aload_n 0, 1) := by decide +kernel
theorem dX4_firstOf_1 : decode cX4_firstOf 1 = .ok (.getfield 15, 3) := by decide +kernel
theorem dX4_firstOf_4 : decode cX4_firstOf 4 = .ok (.iload_n 1, 1) := by decide +kernel
theorem dX4_firstOf_5 : decode cX4_firstOf 5 = .ok (.iaload, 1) := by decide +kernel
theorem dX4_firstOf_6 : decode cX4_firstOf 6 = .ok (.ifCond .ne 8, 3) := by decide +kernel
theorem dX4_firstOf_9 : decode cX4_firstOf 9 = .ok (.bipush (-9), 2) := by decide +kernel
theorem dX4_firstOf_11 : decode cX4_firstOf 11 = .ok (.goto 9, 3) := by decide +kernel
theorem dX4_firstOf_14 : decode cX4_firstOf 14 = .ok (.aload_n 0, 1) := by decide +kernel
theorem dX4_firstOf_15 : decode cX4_firstOf 15 = .ok (.iload_n 1, 1) := by decide +kernel
theorem dX4_firstOf_16 : decode cX4_firstOf 16 = .ok (.iconst 0, 1) := by decide +kernel
theorem dX4_firstOf_17 : decode cX4_firstOf 17 = .ok (.invokevirtual 27, 3) := by decide +kernel
theorem dX4_firstOf_20 : decode cX4_firstOf 20 = .ok (.ireturn, 1) := by decide +kernel
theorem dX4_lastOf_0 : decode cX4_lastOf 0 = .ok (.aload_n 0, 1) := by decide +kernel
theorem dX4_lastOf_1 : decode cX4_lastOf 1 = .ok (.getfield 15, 3) := by decide +kernel
theorem dX4_lastOf_4 : decode cX4_lastOf 4 = .ok (.iload_n 1, 1) := by decide +kernel
theorem dX4_lastOf_5 : decode cX4_lastOf 5 = .ok (.iaload, 1) := by decide +kernel
theorem dX4_lastOf_6 : decode cX4_lastOf 6 = .ok (.ifCond .ne 8, 3) := by decide +kernel
theorem dX4_lastOf_9 : decode cX4_lastOf 9 = .ok (.bipush (-9), 2) := by decide +kernel
theorem dX4_lastOf_11 : decode cX4_lastOf 11 = .ok (.goto 16, 3) := by decide +kernel
theorem dX4_lastOf_14 : decode cX4_lastOf 14 = .ok (.aload_n 0, 1) := by decide +kernel
theorem dX4_lastOf_15 : decode cX4_lastOf 15 = .ok (.iload_n 1, 1) := by decide +kernel
theorem dX4_lastOf_16 : decode cX4_lastOf 16 = .ok (.aload_n 0, 1) := by decide +kernel
theorem dX4_lastOf_17 : decode cX4_lastOf 17 = .ok (.getfield 15, 3) := by decide +kernel
theorem dX4_lastOf_20 : decode cX4_lastOf 20 = .ok (.iload_n 1, 1) := by decide +kernel
theorem dX4_lastOf_21 : decode cX4_lastOf 21 = .ok (.iaload, 1) := by decide +kernel
theorem dX4_lastOf_22 : decode cX4_lastOf 22 = .ok (.iconst 1, 1) := by decide +kernel
theorem dX4_lastOf_23 : decode cX4_lastOf 23 = .ok (.isub, 1) := by decide +kernel
theorem dX4_lastOf_24 : decode cX4_lastOf 24 = .ok (.invokevirtual 27, 3) := by decide +kernel
theorem dX4_lastOf_27 : decode cX4_lastOf 27 = .ok (.ireturn, 1) := by decide +kernel
theorem dX4_lengthen_0 : decode cX4_lengthen 0 = .ok (.aload_n 0, 1) := by decide +kernel
theorem dX4_lengthen_1 : decode cX4_lengthen 1 = .ok (.getfield 15, 3) := by decide +kernel
theorem dX4_lengthen_4 : decode cX4_lengthen 4 = .ok (.iload_n 1, 1) := by decide +kernel
theorem dX4_lengthen_5 : decode cX4_lengthen 5 = .ok (.iaload, 1) := by decide +kernel
theorem dX4_lengthen_6 : decode cX4_lengthen 6 = .ok (.bipush 6, 2) := by decide +kernel
theorem dX4_lengthen_8 : decode cX4_lengthen 8 = .ok (.if_icmp .lt 6, 3) := by decide +kernel
theorem dX4_lengthen_11 : decode cX4_lengthen 11 = .ok (.bipush (-4), 2) := by decide +kernel
theorem dX4_lengthen_13 : decode cX4_lengthen 13 = .ok (.ireturn, 1) := by decide +kernel
theorem dX4_lengthen_14 : decode cX4_lengthen 14 = .ok (.aload_n 0, 1) := by decide +kernel
theorem dX4_lengthen_15 : decode cX4_lengthen 15 = .ok (.getfield 9, 3) := by decide +kernel
theorem dX4_lengthen_18 : decode cX4_lengthen 18 = .ok (.iload_n 1, 1) := by decide +kernel
theorem dX4_lengthen_19 : decode cX4_lengthen 19 = .ok (.bipush 6, 2) := by decide +kernel
theorem dX4_lengthen_21 : decode cX4_lengthen 21 = .ok (.imul, 1) := by decide +kernel
theorem dX4_lengthen_22 : decode cX4_lengthen 22 = .ok (.aload_n 0, 1) := by decide +kernel
theorem dX4_lengthen_23 : decode cX4_lengthen 23 = .ok (.getfield 15, 3) := by decide +kernel
theorem dX4_lengthen_26 : decode cX4_lengthen 26 = .ok (.iload_n 1, 1) := by decide +kernel
theorem dX4_lengthen_27 : decode cX4_lengthen 27 = .ok (.iaload, 1) := by decide +kernel
theorem dX4_lengthen_28 : decode cX4_lengthen 28 = .ok (.iadd, 1) := by decide +kernel
theorem dX4_lengthen_29 : decode cX4_lengthen 29 = .ok (.iload_n 2, 1) := by decide +kernel
theorem dX4_lengthen_30 : decode cX4_lengthen 30 = .ok (.iastore, 1) := by decide +kernel
theorem dX4_lengthen_31 : decode cX4_lengthen 31 = .ok (.aload_n 0, 1) := by decide +kernel
theorem dX4_lengthen_32 : decode cX4_lengthen 32 = .ok (.getfield 15, 3) := by decide +kernel
theorem dX4_lengthen_35 : decode cX4_lengthen 35 = .ok (.iload_n 1, 1) := by decide +kernel
theorem dX4_lengthen_36 : decode cX4_lengthen 36 = .ok (.dup2, 1) := by decide +kernel
theorem dX4_lengthen_37 : decode cX4_lengthen 37 = .ok (.iaload, 1) := by decide +kernel
theorem dX4_lengthen_38 : decode cX4_lengthen 38 = .ok (.iconst 1, 1) := by decide +kernel
theorem dX4_lengthen_39 : decode cX4_lengthen 39 = .ok (.iadd, 1) := by decide +kernel
theorem dX4_lengthen_40 : decode cX4_lengthen 40 = .ok (.iastore, 1) := by decide +kernel
theorem dX4_lengthen_41 : decode cX4_lengthen 41 = .ok (.aload_n 0, 1) := by decide +kernel
theorem dX4_lengthen_42 : decode cX4_lengthen 42 = .ok (.getfield 15, 3) := by decide +kernel
theorem dX4_lengthen_45 : decode cX4_lengthen 45 = .ok (.iload_n 1, 1) := by decide +kernel
theorem dX4_lengthen_46 : decode cX4_lengthen 46 = .ok (.iaload, 1) := by decide +kernel
theorem dX4_lengthen_47 : decode cX4_lengthen 47 = .ok (.ireturn, 1) := by decide +kernel
theorem dX4_drop_0 : decode cX4_drop 0 = .ok (.aload_n 0, 1) := by decide +kernel
theorem dX4_drop_1 : decode cX4_drop 1 = .ok (.getfield 15, 3) := by decide +kernel
theorem dX4_drop_4 : decode cX4_drop 4 = .ok (.iload_n 1, 1) := by decide +kernel
theorem dX4_drop_5 : decode cX4_drop 5 = .ok (.iaload, 1) := by decide +kernel
theorem dX4_drop_6 : decode cX4_drop 6 = .ok (.istore_n 2, 1) := by decide +kernel
theorem dX4_drop_7 : decode cX4_drop 7 = .ok (.aload_n 0, 1) := by decide +kernel
theorem dX4_drop_8 : decode cX4_drop 8 = .ok (.getfield 15, 3) := by decide +kernel
theorem dX4_drop_11 : decode cX4_drop 11 = .ok (.iload_n 1, 1) := by decide +kernel
theorem dX4_drop_12 : decode cX4_drop 12 = .ok (.iconst 0, 1) := by decide +kernel
theorem dX4_drop_13 : decode cX4_drop 13 = .ok (.iastore, 1) := by decide +kernel
theorem dX4_drop_14 : decode cX4_drop 14 = .ok (.iload_n 2, 1) := by decide +kernel
theorem dX4_drop_15 : decode cX4_drop 15 = .ok (.ireturn, 1) := by decide +kernel
theorem dX4_placeAt_0 : decode cX4_placeAt 0 = .ok (.aload_n 0, 1) := by decide +kernel
theorem dX4_placeAt_1 : decode cX4_placeAt 1 = .ok (.getfield 15, 3) := by decide +kernel
theorem dX4_placeAt_4 : decode cX4_placeAt 4 = .ok (.iload_n 1, 1) := by decide +kernel
theorem dX4_placeAt_5 : decode cX4_placeAt 5 = .ok (.iaload, 1) := by decide +kernel
theorem dX4_placeAt_6 : decode cX4_placeAt 6 = .ok (.istore_n 3, 1) := by decide +kernel
theorem dX4_placeAt_7 : decode cX4_placeAt 7 = .ok (.iload_n 3, 1) := by decide +kernel
theorem dX4_placeAt_8 : decode cX4_placeAt 8 = .ok (.ifCond .ne 8, 3) := by decide +kernel
theorem dX4_placeAt_11 : decode cX4_placeAt 11 = .ok (.bipush (-9), 2) := by decide +kernel
theorem dX4_placeAt_13 : decode cX4_placeAt 13 = .ok (.goto 18, 3) := by decide +kernel
theorem dX4_placeAt_16 : decode cX4_placeAt 16 = .ok (.aload_n 0, 1) := by decide +kernel
theorem dX4_placeAt_17 : decode cX4_placeAt 17 = .ok (.iload_n 1, 1) := by decide +kernel
theorem dX4_placeAt_18 : decode cX4_placeAt 18 = .ok (.iload_n 2, 1) := by decide +kernel
theorem dX4_placeAt_19 : decode cX4_placeAt 19 = .ok (.aload_n 0, 1) := by decide +kernel
theorem dX4_placeAt_20 : decode cX4_placeAt 20 = .ok (.getfield 18, 3) := by decide +kernel
theorem dX4_placeAt_23 : decode cX4_placeAt 23 = .ok (.iload_n 1, 1) := by decide +kernel
theorem dX4_placeAt_24 : decode cX4_placeAt 24 = .ok (.iaload, 1) := by decide +kernel
theorem dX4_placeAt_25 : decode cX4_placeAt 25 = .ok (.iadd, 1) := by decide +kernel
theorem dX4_placeAt_26 : decode cX4_placeAt 26 = .ok (.iload_n 3, 1) := by decide +kernel
theorem dX4_placeAt_27 : decode cX4_placeAt 27 = .ok (.irem, 1) := by decide +kernel
theorem dX4_placeAt_28 : decode cX4_placeAt 28 = .ok (.invokevirtual 27, 3) := by decide +kernel
theorem dX4_placeAt_31 : decode cX4_placeAt 31 = .ok (.ireturn, 1) := by decide +kernel
theorem dX4_howMany_0 : decode cX4_howMany 0 = .ok (.iconst 0, 1) := by decide +kernel
theorem dX4_howMany_1 : decode cX4_howMany 1 = .ok (.istore_n 1, 1) := by decide +kernel
theorem dX4_howMany_2 : decode cX4_howMany 2 = .ok (.iconst 0, 1) := by decide +kernel
theorem dX4_howMany_3 : decode cX4_howMany 3 = .ok (.istore_n 2, 1) := by decide +kernel
theorem dX4_howMany_4 : decode cX4_howMany 4 = .ok (.iload_n 2, 1) := by decide +kernel
theorem dX4_howMany_5 : decode cX4_howMany 5 = .ok (.iconst 4, 1) := by decide +kernel
theorem dX4_howMany_6 : decode cX4_howMany 6 = .ok (.if_icmp .ge 26, 3) := by decide +kernel
theorem dX4_howMany_9 : decode cX4_howMany 9 = .ok (.iload_n 1, 1) := by decide +kernel
theorem dX4_howMany_10 : decode cX4_howMany 10 = .ok (.aload_n 0, 1) := by decide +kernel
theorem dX4_howMany_11 : decode cX4_howMany 11 = .ok (.getfield 15, 3) := by decide +kernel
theorem dX4_howMany_14 : decode cX4_howMany 14 = .ok (.iload_n 2, 1) := by decide +kernel
theorem dX4_howMany_15 : decode cX4_howMany 15 = .ok (.iaload, 1) := by decide +kernel
theorem dX4_howMany_16 : decode cX4_howMany 16 = .ok (.ifCond .le 7, 3) := by decide +kernel
theorem dX4_howMany_19 : decode cX4_howMany 19 = .ok (.iconst 1, 1) := by decide +kernel
theorem dX4_howMany_20 : decode cX4_howMany 20 = .ok (.goto 4, 3) := by decide +kernel
theorem dX4_howMany_23 : decode cX4_howMany 23 = .ok (.iconst 0, 1) := by decide +kernel
theorem dX4_howMany_24 : decode cX4_howMany 24 = .ok (.iadd, 1) := by decide +kernel
theorem dX4_howMany_25 : decode cX4_howMany 25 = .ok (.istore_n 1, 1) := by decide +kernel
theorem dX4_howMany_26 : decode cX4_howMany 26 = .ok (.iinc 2 1, 3) := by decide +kernel
theorem dX4_howMany_29 : decode cX4_howMany 29 = .ok (.goto (-25), 3) := by decide +kernel
theorem dX4_howMany_32 : decode cX4_howMany 32 = .ok (.iload_n 1, 1) := by decide +kernel
theorem dX4_howMany_33 : decode cX4_howMany 33 = .ok (.ireturn, 1) := by decide +kernel
theorem dX4_commonLength_0 : decode cX4_commonLength 0 = .ok (.iconst 1, 1) := by decide +kernel
theorem dX4_commonLength_1 : decode cX4_commonLength 1 = .ok (.istore_n 1, 1) := by decide +kernel
theorem dX4_commonLength_2 : decode cX4_commonLength 2 = .ok (.iload_n 1, 1) := by decide +kernel
theorem dX4_commonLength_3 : decode cX4_commonLength 3 = .ok (.bipush 60, 2) := by decide +kernel
theorem dX4_commonLength_5 : decode cX4_commonLength 5 = .ok (.if_icmp .ge 19, 3) := by decide +kernel
theorem dX4_commonLength_8 : decode cX4_commonLength 8 = .ok (.aload_n 0, 1) := by decide +kernel
theorem dX4_commonLength_9 : decode cX4_commonLength 9 = .ok (.iload_n 1, 1) := by decide +kernel
theorem dX4_commonLength_10 : decode cX4_commonLength 10 = .ok (.invokevirtual 31, 3) := by decide +kernel
theorem dX4_commonLength_13 : decode cX4_commonLength 13 = .ok (.ifCond .eq 5, 3) := by decide +kernel
theorem dX4_commonLength_16 : decode cX4_commonLength 16 = .ok (.iload_n 1, 1) := by decide +kernel
theorem dX4_commonLength_17 : decode cX4_commonLength 17 = .ok (.ireturn, 1) := by decide +kernel
theorem dX4_commonLength_18 : decode cX4_commonLength 18 = .ok (.iinc 1 1, 3) := by decide +kernel
theorem dX4_commonLength_21 : decode cX4_commonLength 21 = .ok (.goto (-19), 3) := by decide +kernel
theorem dX4_commonLength_24 : decode cX4_commonLength 24 = .ok (.bipush 60, 2) := by decide +kernel
theorem dX4_commonLength_26 : decode cX4_commonLength 26 = .ok (.ireturn, 1) := by decide +kernel
theorem dX4_allDivide_0 : decode cX4_allDivide 0 = .ok (.iconst 0, 1) := by decide +kernel
theorem dX4_allDivide_1 : decode cX4_allDivide 1 = .ok (.istore_n 2, 1) := by decide +kernel
theorem dX4_allDivide_2 : decode cX4_allDivide 2 = .ok (.iload_n 2, 1) := by decide +kernel
theorem dX4_allDivide_3 : decode cX4_allDivide 3 = .ok (.iconst 4, 1) := by decide +kernel
theorem dX4_allDivide_4 : decode cX4_allDivide 4 = .ok (.if_icmp .ge 31, 3) := by decide +kernel
theorem dX4_allDivide_7 : decode cX4_allDivide 7 = .ok (.aload_n 0, 1) := by decide +kernel
theorem dX4_allDivide_8 : decode cX4_allDivide 8 = .ok (.getfield 15, 3) := by decide +kernel
theorem dX4_allDivide_11 : decode cX4_allDivide 11 = .ok (.iload_n 2, 1) := by decide +kernel
theorem dX4_allDivide_12 : decode cX4_allDivide 12 = .ok (.iaload, 1) := by decide +kernel
theorem dX4_allDivide_13 : decode cX4_allDivide 13 = .ok (.ifCond .le 16, 3) := by decide +kernel
theorem dX4_allDivide_16 : decode cX4_allDivide 16 = .ok (.iload_n 1, 1) := by decide +kernel
theorem dX4_allDivide_17 : decode cX4_allDivide 17 = .ok (.aload_n 0, 1) := by decide +kernel
theorem dX4_allDivide_18 : decode cX4_allDivide 18 = .ok (.getfield 15, 3) := by decide +kernel
theorem dX4_allDivide_21 : decode cX4_allDivide 21 = .ok (.iload_n 2, 1) := by decide +kernel
theorem dX4_allDivide_22 : decode cX4_allDivide 22 = .ok (.iaload, 1) := by decide +kernel
theorem dX4_allDivide_23 : decode cX4_allDivide 23 = .ok (.irem, 1) := by decide +kernel
theorem dX4_allDivide_24 : decode cX4_allDivide 24 = .ok (.ifCond .eq 5, 3) := by decide +kernel
theorem dX4_allDivide_27 : decode cX4_allDivide 27 = .ok (.iconst 0, 1) := by decide +kernel
theorem dX4_allDivide_28 : decode cX4_allDivide 28 = .ok (.ireturn, 1) := by decide +kernel
theorem dX4_allDivide_29 : decode cX4_allDivide 29 = .ok (.iinc 2 1, 3) := by decide +kernel
theorem dX4_allDivide_32 : decode cX4_allDivide 32 = .ok (.goto (-30), 3) := by decide +kernel
theorem dX4_allDivide_35 : decode cX4_allDivide 35 = .ok (.iconst 1, 1) := by decide +kernel
theorem dX4_allDivide_36 : decode cX4_allDivide 36 = .ok (.ireturn, 1) := by decide +kernel
theorem dX4_relocate_0 : decode cX4_relocate 0 = .ok (.iconst 0, 1) := by decide +kernel
theorem dX4_relocate_1 : decode cX4_relocate 1 = .ok (.istore_n 2, 1) := by decide +kernel
theorem dX4_relocate_2 : decode cX4_relocate 2 = .ok (.iload_n 2, 1) := by decide +kernel
theorem dX4_relocate_3 : decode cX4_relocate 3 = .ok (.iconst 4, 1) := by decide +kernel
theorem dX4_relocate_4 : decode cX4_relocate 4 = .ok (.if_icmp .ge 51, 3) := by decide +kernel
theorem dX4_relocate_7 : decode cX4_relocate 7 = .ok (.iconst 0, 1) := by decide +kernel
theorem dX4_relocate_8 : decode cX4_relocate 8 = .ok (.istore_n 3, 1) := by decide +kernel
theorem dX4_relocate_9 : decode cX4_relocate 9 = .ok (.iload_n 3, 1) := by decide +kernel
theorem dX4_relocate_10 : decode cX4_relocate 10 = .ok (.aload_n 0, 1) := by decide +kernel
theorem dX4_relocate_11 : decode cX4_relocate 11 = .ok (.getfield 15, 3) := by decide +kernel
theorem dX4_relocate_14 : decode cX4_relocate 14 = .ok (.iload_n 2, 1) := by decide +kernel
theorem dX4_relocate_15 : decode cX4_relocate 15 = .ok (.iaload, 1) := by decide +kernel
theorem dX4_relocate_16 : decode cX4_relocate 16 = .ok (.if_icmp .ge 33, 3) := by decide +kernel
theorem dX4_relocate_19 : decode cX4_relocate 19 = .ok (.aload_n 0, 1) := by decide +kernel
theorem dX4_relocate_20 : decode cX4_relocate 20 = .ok (.getfield 9, 3) := by decide +kernel
theorem dX4_relocate_23 : decode cX4_relocate 23 = .ok (.iload_n 2, 1) := by decide +kernel
theorem dX4_relocate_24 : decode cX4_relocate 24 = .ok (.bipush 6, 2) := by decide +kernel
theorem dX4_relocate_26 : decode cX4_relocate 26 = .ok (.imul, 1) := by decide +kernel
theorem dX4_relocate_27 : decode cX4_relocate 27 = .ok (.iload_n 3, 1) := by decide +kernel
theorem dX4_relocate_28 : decode cX4_relocate 28 = .ok (.iadd, 1) := by decide +kernel
theorem dX4_relocate_29 : decode cX4_relocate 29 = .ok (.aload_n 1, 1) := by decide +kernel
theorem dX4_relocate_30 : decode cX4_relocate 30 = .ok (.aload_n 0, 1) := by decide +kernel
theorem dX4_relocate_31 : decode cX4_relocate 31 = .ok (.getfield 9, 3) := by decide +kernel
theorem dX4_relocate_34 : decode cX4_relocate 34 = .ok (.iload_n 2, 1) := by decide +kernel
theorem dX4_relocate_35 : decode cX4_relocate 35 = .ok (.bipush 6, 2) := by decide +kernel
theorem dX4_relocate_37 : decode cX4_relocate 37 = .ok (.imul, 1) := by decide +kernel
theorem dX4_relocate_38 : decode cX4_relocate 38 = .ok (.iload_n 3, 1) := by decide +kernel
theorem dX4_relocate_39 : decode cX4_relocate 39 = .ok (.iadd, 1) := by decide +kernel
theorem dX4_relocate_40 : decode cX4_relocate 40 = .ok (.iaload, 1) := by decide +kernel
theorem dX4_relocate_41 : decode cX4_relocate 41 = .ok (.iaload, 1) := by decide +kernel
theorem dX4_relocate_42 : decode cX4_relocate 42 = .ok (.iastore, 1) := by decide +kernel
theorem dX4_relocate_43 : decode cX4_relocate 43 = .ok (.iinc 3 1, 3) := by decide +kernel
theorem dX4_relocate_46 : decode cX4_relocate 46 = .ok (.goto (-37), 3) := by decide +kernel
theorem dX4_relocate_49 : decode cX4_relocate 49 = .ok (.iinc 2 1, 3) := by decide +kernel
theorem dX4_relocate_52 : decode cX4_relocate 52 = .ok (.goto (-50), 3) := by decide +kernel
theorem dX4_relocate_55 : decode cX4_relocate 55 = .ok (.return_, 1) := by decide +kernel
theorem dX5_init_0 : decode cX5_init 0 = .ok (.aload_n 0, 1) := by decide +kernel
theorem dX5_init_1 : decode cX5_init 1 = .ok (.invokespecial 3, 3) := by decide +kernel
theorem dX5_init_4 : decode cX5_init 4 = .ok (.aload_n 0, 1) := by decide +kernel
theorem dX5_init_5 : decode cX5_init 5 = .ok (.iconst 2, 1) := by decide +kernel
theorem dX5_init_6 : decode cX5_init 6 = .ok (.putfield 9, 3) := by decide +kernel
theorem dX5_init_9 : decode cX5_init 9 = .ok (.aload_n 0, 1) := by decide +kernel
theorem dX5_init_10 : decode cX5_init 10 = .ok (.bipush 8, 2) := by decide +kernel
theorem dX5_init_12 : decode cX5_init 12 = .ok (.putfield 15, 3) := by decide +kernel
theorem dX5_init_15 : decode cX5_init 15 = .ok (.aload_n 0, 1) := by decide +kernel
theorem dX5_init_16 : decode cX5_init 16 = .ok (.aload_n 1, 1) := by decide +kernel
theorem dX5_init_17 : decode cX5_init 17 = .ok (.putfield 18, 3) := by decide +kernel
theorem dX5_init_20 : decode cX5_init 20 = .ok (.return_, 1) := by decide +kernel
theorem dX5_changeLaw_0 : decode cX5_changeLaw 0 = .ok (.aload_n 0, 1) := by decide +kernel
theorem dX5_changeLaw_1 : decode cX5_changeLaw 1 = .ok (.getfield 9, 3) := by decide +kernel
theorem dX5_changeLaw_4 : decode cX5_changeLaw 4 = .ok (.istore_n 2, 1) := by decide +kernel
theorem dX5_changeLaw_5 : decode cX5_changeLaw 5 = .ok (.aload_n 0, 1) := by decide +kernel
theorem dX5_changeLaw_6 : decode cX5_changeLaw 6 = .ok (.iload_n 1, 1) := by decide +kernel
theorem dX5_changeLaw_7 : decode cX5_changeLaw 7 = .ok (.putfield 9, 3) := by decide +kernel
theorem dX5_changeLaw_10 : decode cX5_changeLaw 10 = .ok (.iload_n 2, 1) := by decide +kernel
theorem dX5_changeLaw_11 : decode cX5_changeLaw 11 = .ok (.ireturn, 1) := by decide +kernel
theorem dX5_changeRange_0 : decode cX5_changeRange 0 = .ok (.aload_n 0, 1) := by decide +kernel
theorem dX5_changeRange_1 : decode cX5_changeRange 1 = .ok (.getfield 15, 3) := by decide +kernel
theorem dX5_changeRange_4 : decode cX5_changeRange 4 = .ok (.istore_n 2, 1) := by decide +kernel
theorem dX5_changeRange_5 : decode cX5_changeRange 5 = .ok (.aload_n 0, 1) := by decide +kernel
theorem dX5_changeRange_6 : decode cX5_changeRange 6 = .ok (.iload_n 1, 1) := by decide +kernel
theorem dX5_changeRange_7 : decode cX5_changeRange 7 = .ok (.putfield 15, 3) := by decide +kernel
theorem dX5_changeRange_10 : decode cX5_changeRange 10 = .ok (.iload_n 2, 1) := by decide +kernel
theorem dX5_changeRange_11 : decode cX5_changeRange 11 = .ok (.ireturn, 1) := by decide +kernel
theorem dX5_reaches_0 : decode cX5_reaches 0 = .ok (.iload_n 1, 1) := by decide +kernel
theorem dX5_reaches_1 : decode cX5_reaches 1 = .ok (.iload_n 2, 1) := by decide +kernel
theorem dX5_reaches_2 : decode cX5_reaches 2 = .ok (.if_icmp .ne 12, 3) := by decide +kernel
theorem dX5_reaches_5 : decode cX5_reaches 5 = .ok (.aload_n 0, 1) := by decide +kernel
theorem dX5_reaches_6 : decode cX5_reaches 6 = .ok (.getfield 18, 3) := by decide +kernel
theorem dX5_reaches_9 : decode cX5_reaches 9 = .ok (.iload_n 1, 1) := by decide +kernel
theorem dX5_reaches_10 : decode cX5_reaches 10 = .ok (.invokevirtual 22, 3) := by decide +kernel
theorem dX5_reaches_13 : decode cX5_reaches 13 = .ok (.ireturn, 1) := by decide +kernel
theorem dX5_reaches_14 : decode cX5_reaches 14 = .ok (.aload_n 0, 1) := by decide +kernel
theorem dX5_reaches_15 : decode cX5_reaches 15 = .ok (.getfield 18, 3) := by decide +kernel
theorem dX5_reaches_18 : decode cX5_reaches 18 = .ok (.iload_n 1, 1) := by decide +kernel
theorem dX5_reaches_19 : decode cX5_reaches 19 = .ok (.invokevirtual 28, 3) := by decide +kernel
theorem dX5_reaches_22 : decode cX5_reaches 22 = .ok (.ifCond .eq 14, 3) := by decide +kernel
theorem dX5_reaches_25 : decode cX5_reaches 25 = .ok (.aload_n 0, 1) := by decide +kernel
theorem dX5_reaches_26 : decode cX5_reaches 26 = .ok (.getfield 18, 3) := by decide +kernel
theorem dX5_reaches_29 : decode cX5_reaches 29 = .ok (.iload_n 2, 1) := by decide +kernel
theorem dX5_reaches_30 : decode cX5_reaches 30 = .ok (.invokevirtual 28, 3) := by decide +kernel
theorem dX5_reaches_33 : decode cX5_reaches 33 = .ok (.ifCond .ne 5, 3) := by decide +kernel
theorem dX5_reaches_36 : decode cX5_reaches 36 = .ok (.iconst 0, 1) := by decide +kernel
theorem dX5_reaches_37 : decode cX5_reaches 37 = .ok (.ireturn, 1) := by decide +kernel
theorem dX5_reaches_38 : decode cX5_reaches 38 = .ok (.aload_n 0, 1) := by decide +kernel
theorem dX5_reaches_39 : decode cX5_reaches 39 = .ok (.getfield 18, 3) := by decide +kernel
theorem dX5_reaches_42 : decode cX5_reaches 42 = .ok (.iload_n 1, 1) := by decide +kernel
theorem dX5_reaches_43 : decode cX5_reaches 43 = .ok (.invokevirtual 31, 3) := by decide +kernel
theorem dX5_reaches_46 : decode cX5_reaches 46 = .ok (.aload_n 0, 1) := by decide +kernel
theorem dX5_reaches_47 : decode cX5_reaches 47 = .ok (.getfield 18, 3) := by decide +kernel
theorem dX5_reaches_50 : decode cX5_reaches 50 = .ok (.iload_n 2, 1) := by decide +kernel
theorem dX5_reaches_51 : decode cX5_reaches 51 = .ok (.invokevirtual 31, 3) := by decide +kernel
theorem dX5_reaches_54 : decode cX5_reaches 54 = .ok (.isub, 1) := by decide +kernel
theorem dX5_reaches_55 : decode cX5_reaches 55 = .ok (.invokestatic 35, 3) := by decide +kernel
theorem dX5_reaches_58 : decode cX5_reaches 58 = .ok (.istore_n 3, 1) := by decide +kernel
theorem dX5_reaches_59 : decode cX5_reaches 59 = .ok (.aload_n 0, 1) := by decide +kernel
theorem dX5_reaches_60 : decode cX5_reaches 60 = .ok (.getfield 18, 3) := by decide +kernel
theorem dX5_reaches_63 : decode cX5_reaches 63 = .ok (.iload_n 1, 1) := by decide +kernel
theorem dX5_reaches_64 : decode cX5_reaches 64 = .ok (.invokevirtual 40, 3) := by decide +kernel
theorem dX5_reaches_67 : decode cX5_reaches 67 = .ok (.aload_n 0, 1) := by decide +kernel
theorem dX5_reaches_68 : decode cX5_reaches 68 = .ok (.getfield 18, 3) := by decide +kernel
theorem dX5_reaches_71 : decode cX5_reaches 71 = .ok (.iload_n 2, 1) := by decide +kernel
theorem dX5_reaches_72 : decode cX5_reaches 72 = .ok (.invokevirtual 40, 3) := by decide +kernel
theorem dX5_reaches_75 : decode cX5_reaches 75 = .ok (.isub, 1) := by decide +kernel
theorem dX5_reaches_76 : decode cX5_reaches 76 = .ok (.invokestatic 35, 3) := by decide +kernel
theorem dX5_reaches_79 : decode cX5_reaches 79 = .ok (.istore 4, 2) := by decide +kernel
theorem dX5_reaches_81 : decode cX5_reaches 81 = .ok (.iload_n 3, 1) := by decide +kernel
theorem dX5_reaches_82 : decode cX5_reaches 82 = .ok (.aload_n 0, 1) := by decide +kernel
theorem dX5_reaches_83 : decode cX5_reaches 83 = .ok (.getfield 15, 3) := by decide +kernel
theorem dX5_reaches_86 : decode cX5_reaches 86 = .ok (.if_icmp .gt 12, 3) := by decide +kernel
theorem dX5_reaches_89 : decode cX5_reaches 89 = .ok (.iload 4, 2) := by decide +kernel
theorem dX5_reaches_91 : decode cX5_reaches 91 = .ok (.aload_n 0, 1) := by decide +kernel
theorem dX5_reaches_92 : decode cX5_reaches 92 = .ok (.getfield 15, 3) := by decide +kernel
theorem dX5_reaches_95 : decode cX5_reaches 95 = .ok (.if_icmp .le 5, 3) := by decide +kernel
theorem dX5_reaches_98 : decode cX5_reaches 98 = .ok (.iconst 0, 1) := by decide +kernel
theorem dX5_reaches_99 : decode cX5_reaches 99 = .ok (.ireturn, 1) := by decide +kernel
theorem dX5_reaches_100 : decode cX5_reaches 100 = .ok (.aload_n 0, 1) := by decide +kernel
theorem dX5_reaches_101 : decode cX5_reaches 101 = .ok (.getfield 9, 3) := by decide +kernel
theorem dX5_reaches_104 : decode cX5_reaches 104 = .ok (.iconst 2, 1) := by decide +kernel
theorem dX5_reaches_105 : decode cX5_reaches 105 = .ok (.if_icmp .ne 10, 3) := by decide +kernel
theorem dX5_reaches_108 : decode cX5_reaches 108 = .ok (.aload_n 0, 1) := by decide +kernel
theorem dX5_reaches_109 : decode cX5_reaches 109 = .ok (.iload_n 1, 1) := by decide +kernel
theorem dX5_reaches_110 : decode cX5_reaches 110 = .ok (.iload_n 2, 1) := by decide +kernel
theorem dX5_reaches_111 : decode cX5_reaches 111 = .ok (.invokevirtual 43, 3) := by decide +kernel
theorem dX5_reaches_114 : decode cX5_reaches 114 = .ok (.ireturn, 1) := by decide +kernel
theorem dX5_reaches_115 : decode cX5_reaches 115 = .ok (.aload_n 0, 1) := by decide +kernel
theorem dX5_reaches_116 : decode cX5_reaches 116 = .ok (.getfield 9, 3) := by decide +kernel
theorem dX5_reaches_119 : decode cX5_reaches 119 = .ok (.iconst 1, 1) := by decide +kernel
theorem dX5_reaches_120 : decode cX5_reaches 120 = .ok (.if_icmp .eq 12, 3) := by decide +kernel
theorem dX5_reaches_123 : decode cX5_reaches 123 = .ok (.iload_n 3, 1) := by decide +kernel
theorem dX5_reaches_124 : decode cX5_reaches 124 = .ok (.ifCond .eq 8, 3) := by decide +kernel
theorem dX5_reaches_127 : decode cX5_reaches 127 = .ok (.iload 4, 2) := by decide +kernel
theorem dX5_reaches_129 : decode cX5_reaches 129 = .ok (.ifCond .ne 16, 3) := by decide +kernel
theorem dX5_reaches_132 : decode cX5_reaches 132 = .ok (.aload_n 0, 1) := by decide +kernel
theorem dX5_reaches_133 : decode cX5_reaches 133 = .ok (.iload_n 1, 1) := by decide +kernel
theorem dX5_reaches_134 : decode cX5_reaches 134 = .ok (.iload_n 2, 1) := by decide +kernel
theorem dX5_reaches_135 : decode cX5_reaches 135 = .ok (.invokevirtual 47, 3) := by decide +kernel
theorem dX5_reaches_138 : decode cX5_reaches 138 = .ok (.ifCond .eq 7, 3) := by decide +kernel
theorem dX5_reaches_141 : decode cX5_reaches 141 = .ok (.iconst 1, 1) := by decide +kernel
theorem dX5_reaches_142 : decode cX5_reaches 142 = .ok (.goto 4, 3) := by decide +kernel
theorem dX5_reaches_145 : decode cX5_reaches 145 = .ok (.iconst 0, 1) := by decide +kernel
theorem dX5_reaches_146 : decode cX5_reaches 146 = .ok (.ireturn, 1) := by decide +kernel
theorem dX5_boardFrom_0 : decode cX5_boardFrom 0 = .ok (.lconst 0, 1) := by decide +kernel
theorem dX5_boardFrom_1 : decode cX5_boardFrom 1 = .ok (.lstore_n 2, 1) := by decide +kernel
theorem dX5_boardFrom_2 : decode cX5_boardFrom 2 = .ok (.iconst 0, 1) := by decide +kernel
theorem dX5_boardFrom_3 : decode cX5_boardFrom 3 = .ok (.istore 4, 2) := by decide +kernel
theorem dX5_boardFrom_5 : decode cX5_boardFrom 5 = .ok (.iload 4, 2) := by decide +kernel
theorem dX5_boardFrom_7 : decode cX5_boardFrom 7 = .ok (.aload_n 0, 1) := by decide +kernel
theorem dX5_boardFrom_8 : decode cX5_boardFrom 8 = .ok (.getfield 18, 3) := by decide +kernel
theorem dX5_boardFrom_11 : decode cX5_boardFrom 11 = .ok (.invokevirtual 50, 3) := by decide +kernel
theorem dX5_boardFrom_14 : decode cX5_boardFrom 14 = .ok (.if_icmp .ge 30, 3) := by decide +kernel
theorem dX5_boardFrom_17 : decode cX5_boardFrom 17 = .ok (.lload_n 2, 1) := by decide +kernel
theorem dX5_boardFrom_18 : decode cX5_boardFrom 18 = .ok (.aload_n 0, 1) := by decide +kernel
theorem dX5_boardFrom_19 : decode cX5_boardFrom 19 = .ok (.iload_n 1, 1) := by decide +kernel
theorem dX5_boardFrom_20 : decode cX5_boardFrom 20 = .ok (.iload 4, 2) := by decide +kernel
theorem dX5_boardFrom_22 : decode cX5_boardFrom 22 = .ok (.invokevirtual 54, 3) := by decide +kernel
theorem dX5_boardFrom_25 : decode cX5_boardFrom 25 = .ok (.ifCond .eq 10, 3) := by decide +kernel
theorem dX5_boardFrom_28 : decode cX5_boardFrom 28 = .ok (.lconst 1, 1) := by decide +kernel
theorem dX5_boardFrom_29 : decode cX5_boardFrom 29 = .ok (.iload 4, 2) := by decide +kernel
theorem dX5_boardFrom_31 : decode cX5_boardFrom 31 = .ok (.lshl, 1) := by decide +kernel
theorem dX5_boardFrom_32 : decode cX5_boardFrom 32 = .ok (.goto 4, 3) := by decide +kernel
theorem dX5_boardFrom_35 : decode cX5_boardFrom 35 = .ok (.lconst 0, 1) := by decide +kernel
theorem dX5_boardFrom_36 : decode cX5_boardFrom 36 = .ok (.lor, 1) := by decide +kernel
theorem dX5_boardFrom_37 : decode cX5_boardFrom 37 = .ok (.lstore_n 2, 1) := by decide +kernel
theorem dX5_boardFrom_38 : decode cX5_boardFrom 38 = .ok (.iinc 4 1, 3) := by decide +kernel
theorem dX5_boardFrom_41 : decode cX5_boardFrom 41 = .ok (.goto (-36), 3) := by decide +kernel
theorem dX5_boardFrom_44 : decode cX5_boardFrom 44 = .ok (.lload_n 2, 1) := by decide +kernel
theorem dX5_boardFrom_45 : decode cX5_boardFrom 45 = .ok (.lreturn, 1) := by decide +kernel
theorem dX5_isBoxClear_0 : decode cX5_isBoxClear 0 = .ok (.aload_n 0, 1) := by decide +kernel
theorem dX5_isBoxClear_1 : decode cX5_isBoxClear 1 = .ok (.getfield 18, 3) := by decide +kernel
theorem dX5_isBoxClear_4 : decode cX5_isBoxClear 4 = .ok (.iload_n 1, 1) := by decide +kernel
theorem dX5_isBoxClear_5 : decode cX5_isBoxClear 5 = .ok (.invokevirtual 31, 3) := by decide +kernel
theorem dX5_isBoxClear_8 : decode cX5_isBoxClear 8 = .ok (.aload_n 0, 1) := by decide +kernel
theorem dX5_isBoxClear_9 : decode cX5_isBoxClear 9 = .ok (.getfield 18, 3) := by decide +kernel
theorem dX5_isBoxClear_12 : decode cX5_isBoxClear 12 = .ok (.iload_n 2, 1) := by decide +kernel
theorem dX5_isBoxClear_13 : decode cX5_isBoxClear 13 = .ok (.invokevirtual 31, 3) := by decide +kernel
theorem dX5_isBoxClear_16 : decode cX5_isBoxClear 16 = .ok (.invokestatic 57, 3) := by decide +kernel
theorem dX5_isBoxClear_19 : decode cX5_isBoxClear 19 = .ok (.istore_n 3, 1) := by decide +kernel
theorem dX5_isBoxClear_20 : decode cX5_isBoxClear 20 = .ok (.aload_n 0, 1) := by decide +kernel
theorem dX5_isBoxClear_21 : decode cX5_isBoxClear 21 = .ok (.getfield 18, 3) := by decide +kernel
theorem dX5_isBoxClear_24 : decode cX5_isBoxClear 24 = .ok (.iload_n 1, 1) := by decide +kernel
theorem dX5_isBoxClear_25 : decode cX5_isBoxClear 25 = .ok (.invokevirtual 40, 3) := by decide +kernel
theorem dX5_isBoxClear_28 : decode cX5_isBoxClear 28 = .ok (.aload_n 0, 1) := by decide +kernel
theorem dX5_isBoxClear_29 : decode cX5_isBoxClear 29 = .ok (.getfield 18, 3) := by decide +kernel
theorem dX5_isBoxClear_32 : decode cX5_isBoxClear 32 = .ok (.iload_n 2, 1) := by decide +kernel
theorem dX5_isBoxClear_33 : decode cX5_isBoxClear 33 = .ok (.invokevirtual 40, 3) := by decide +kernel
theorem dX5_isBoxClear_36 : decode cX5_isBoxClear 36 = .ok (.invokestatic 57, 3) := by decide +kernel
theorem dX5_isBoxClear_39 : decode cX5_isBoxClear 39 = .ok (.istore 4, 2) := by decide +kernel
theorem dX5_isBoxClear_41 : decode cX5_isBoxClear 41 = .ok (.aload_n 0, 1) := by decide +kernel
theorem dX5_isBoxClear_42 : decode cX5_isBoxClear 42 = .ok (.getfield 18, 3) := by decide +kernel
theorem dX5_isBoxClear_45 : decode cX5_isBoxClear 45 = .ok (.iload_n 1, 1) := by decide +kernel
theorem dX5_isBoxClear_46 : decode cX5_isBoxClear 46 = .ok (.invokevirtual 40, 3) := by decide +kernel
theorem dX5_isBoxClear_49 : decode cX5_isBoxClear 49 = .ok (.aload_n 0, 1) := by decide +kernel
theorem dX5_isBoxClear_50 : decode cX5_isBoxClear 50 = .ok (.getfield 18, 3) := by decide +kernel
theorem dX5_isBoxClear_53 : decode cX5_isBoxClear 53 = .ok (.iload_n 2, 1) := by decide +kernel
theorem dX5_isBoxClear_54 : decode cX5_isBoxClear 54 = .ok (.invokevirtual 40, 3) := by decide +kernel
theorem dX5_isBoxClear_57 : decode cX5_isBoxClear 57 = .ok (.invokestatic 61, 3) := by decide +kernel
theorem dX5_isBoxClear_60 : decode cX5_isBoxClear 60 = .ok (.istore 5, 2) := by decide +kernel
theorem dX5_isBoxClear_62 : decode cX5_isBoxClear 62 = .ok (.iload 5, 2) := by decide +kernel
theorem dX5_isBoxClear_64 : decode cX5_isBoxClear 64 = .ok (.iload 4, 2) := by decide +kernel
theorem dX5_isBoxClear_66 : decode cX5_isBoxClear 66 = .ok (.if_icmp .gt 58, 3) := by decide +kernel
theorem dX5_isBoxClear_69 : decode cX5_isBoxClear 69 = .ok (.aload_n 0, 1) := by decide +kernel
theorem dX5_isBoxClear_70 : decode cX5_isBoxClear 70 = .ok (.getfield 18, 3) := by decide +kernel
theorem dX5_isBoxClear_73 : decode cX5_isBoxClear 73 = .ok (.iload_n 1, 1) := by decide +kernel
theorem dX5_isBoxClear_74 : decode cX5_isBoxClear 74 = .ok (.invokevirtual 31, 3) := by decide +kernel
theorem dX5_isBoxClear_77 : decode cX5_isBoxClear 77 = .ok (.aload_n 0, 1) := by decide +kernel
theorem dX5_isBoxClear_78 : decode cX5_isBoxClear 78 = .ok (.getfield 18, 3) := by decide +kernel
theorem dX5_isBoxClear_81 : decode cX5_isBoxClear 81 = .ok (.iload_n 2, 1) := by decide +kernel
theorem dX5_isBoxClear_82 : decode cX5_isBoxClear 82 = .ok (.invokevirtual 31, 3) := by decide +kernel
theorem dX5_isBoxClear_85 : decode cX5_isBoxClear 85 = .ok (.invokestatic 61, 3) := by decide +kernel
theorem dX5_isBoxClear_88 : decode cX5_isBoxClear 88 = .ok (.istore 6, 2) := by decide +kernel
theorem dX5_isBoxClear_90 : decode cX5_isBoxClear 90 = .ok (.iload 6, 2) := by decide +kernel
theorem dX5_isBoxClear_92 : decode cX5_isBoxClear 92 = .ok (.iload_n 3, 1) := by decide +kernel
theorem dX5_isBoxClear_93 : decode cX5_isBoxClear 93 = .ok (.if_icmp .gt 25, 3) := by decide +kernel
theorem dX5_isBoxClear_96 : decode cX5_isBoxClear 96 = .ok (.aload_n 0, 1) := by decide +kernel
theorem dX5_isBoxClear_97 : decode cX5_isBoxClear 97 = .ok (.getfield 18, 3) := by decide +kernel
theorem dX5_isBoxClear_100 : decode cX5_isBoxClear 100 = .ok (.iload 6, 2) := by decide +kernel
theorem dX5_isBoxClear_102 : decode cX5_isBoxClear 102 = .ok (.iload 5, 2) := by decide +kernel
theorem dX5_isBoxClear_104 : decode cX5_isBoxClear 104 = .ok (.invokevirtual 64, 3) := by decide +kernel
theorem dX5_isBoxClear_107 : decode cX5_isBoxClear 107 = .ok (.ifCond .ne 5, 3) := by decide +kernel
theorem dX5_isBoxClear_110 : decode cX5_isBoxClear 110 = .ok (.iconst 0, 1) := by decide +kernel
theorem dX5_isBoxClear_111 : decode cX5_isBoxClear 111 = .ok (.ireturn, 1) := by decide +kernel
theorem dX5_isBoxClear_112 : decode cX5_isBoxClear 112 = .ok (.iinc 6 1, 3) := by decide +kernel
theorem dX5_isBoxClear_115 : decode cX5_isBoxClear 115 = .ok (.goto (-25), 3) := by decide +kernel
theorem dX5_isBoxClear_118 : decode cX5_isBoxClear 118 = .ok (.iinc 5 1, 3) := by decide +kernel
theorem dX5_isBoxClear_121 : decode cX5_isBoxClear 121 = .ok (.goto (-59), 3) := by decide +kernel
theorem dX5_isBoxClear_124 : decode cX5_isBoxClear 124 = .ok (.iconst 1, 1) := by decide +kernel
theorem dX5_isBoxClear_125 : decode cX5_isBoxClear 125 = .ok (.ireturn, 1) := by decide +kernel
theorem dX5_isWayClear_0 : decode cX5_isWayClear 0 = .ok (.aload_n 0, 1) := by decide +kernel
theorem dX5_isWayClear_1 : decode cX5_isWayClear 1 = .ok (.getfield 18, 3) := by decide +kernel
theorem dX5_isWayClear_4 : decode cX5_isWayClear 4 = .ok (.iload_n 1, 1) := by decide +kernel
theorem dX5_isWayClear_5 : decode cX5_isWayClear 5 = .ok (.invokevirtual 31, 3) := by decide +kernel
theorem dX5_isWayClear_8 : decode cX5_isWayClear 8 = .ok (.istore_n 3, 1) := by decide +kernel
theorem dX5_isWayClear_9 : decode cX5_isWayClear 9 = .ok (.aload_n 0, 1) := by decide +kernel
theorem dX5_isWayClear_10 : decode cX5_isWayClear 10 = .ok (.getfield 18, 3) := by decide +kernel
theorem dX5_isWayClear_13 : decode cX5_isWayClear 13 = .ok (.iload_n 1, 1) := by decide +kernel
theorem dX5_isWayClear_14 : decode cX5_isWayClear 14 = .ok (.invokevirtual 40, 3) := by decide +kernel
theorem dX5_isWayClear_17 : decode cX5_isWayClear 17 = .ok (.istore 4, 2) := by decide +kernel
theorem dX5_isWayClear_19 : decode cX5_isWayClear 19 = .ok (.aload_n 0, 1) := by decide +kernel
theorem dX5_isWayClear_20 : decode cX5_isWayClear 20 = .ok (.getfield 18, 3) := by decide +kernel
theorem dX5_isWayClear_23 : decode cX5_isWayClear 23 = .ok (.iload_n 2, 1) := by decide +kernel
theorem dX5_isWayClear_24 : decode cX5_isWayClear 24 = .ok (.invokevirtual 31, 3) := by decide +kernel
theorem dX5_isWayClear_27 : decode cX5_isWayClear 27 = .ok (.iload_n 3, 1) := by decide +kernel
theorem dX5_isWayClear_28 : decode cX5_isWayClear 28 = .ok (.isub, 1) := by decide +kernel
theorem dX5_isWayClear_29 : decode cX5_isWayClear 29 = .ok (.invokestatic 35, 3) := by decide +kernel
theorem dX5_isWayClear_32 : decode cX5_isWayClear 32 = .ok (.istore 5, 2) := by decide +kernel
theorem dX5_isWayClear_34 : decode cX5_isWayClear 34 = .ok (.aload_n 0, 1) := by decide +kernel
theorem dX5_isWayClear_35 : decode cX5_isWayClear 35 = .ok (.getfield 18, 3) := by decide +kernel
theorem dX5_isWayClear_38 : decode cX5_isWayClear 38 = .ok (.iload_n 2, 1) := by decide +kernel
theorem dX5_isWayClear_39 : decode cX5_isWayClear 39 = .ok (.invokevirtual 40, 3) := by decide +kernel
theorem dX5_isWayClear_42 : decode cX5_isWayClear 42 = .ok (.iload 4, 2) := by decide +kernel
theorem dX5_isWayClear_44 : decode cX5_isWayClear 44 = .ok (.isub, 1) := by decide +kernel
theorem dX5_isWayClear_45 : decode cX5_isWayClear 45 = .ok (.invokestatic 35, 3) := by decide +kernel
theorem dX5_isWayClear_48 : decode cX5_isWayClear 48 = .ok (.istore 6, 2) := by decide +kernel
theorem dX5_isWayClear_50 : decode cX5_isWayClear 50 = .ok (.aload_n 0, 1) := by decide +kernel
theorem dX5_isWayClear_51 : decode cX5_isWayClear 51 = .ok (.getfield 18, 3) := by decide +kernel
theorem dX5_isWayClear_54 : decode cX5_isWayClear 54 = .ok (.iload_n 2, 1) := by decide +kernel
theorem dX5_isWayClear_55 : decode cX5_isWayClear 55 = .ok (.invokevirtual 31, 3) := by decide +kernel
theorem dX5_isWayClear_58 : decode cX5_isWayClear 58 = .ok (.iload_n 3, 1) := by decide +kernel
theorem dX5_isWayClear_59 : decode cX5_isWayClear 59 = .ok (.if_icmp .ge 7, 3) := by decide +kernel
theorem dX5_isWayClear_62 : decode cX5_isWayClear 62 = .ok (.iconst (-1), 1) := by decide +kernel
theorem dX5_isWayClear_63 : decode cX5_isWayClear 63 = .ok (.goto 4, 3) := by decide +kernel
theorem dX5_isWayClear_66 : decode cX5_isWayClear 66 = .ok (.iconst 1, 1) := by decide +kernel
theorem dX5_isWayClear_67 : decode cX5_isWayClear 67 = .ok (.istore 7, 2) := by decide +kernel
theorem dX5_isWayClear_69 : decode cX5_isWayClear 69 = .ok (.aload_n 0, 1) := by decide +kernel
theorem dX5_isWayClear_70 : decode cX5_isWayClear 70 = .ok (.getfield 18, 3) := by decide +kernel
theorem dX5_isWayClear_73 : decode cX5_isWayClear 73 = .ok (.iload_n 2, 1) := by decide +kernel
theorem dX5_isWayClear_74 : decode cX5_isWayClear 74 = .ok (.invokevirtual 40, 3) := by decide +kernel
theorem dX5_isWayClear_77 : decode cX5_isWayClear 77 = .ok (.iload 4, 2) := by decide +kernel
theorem dX5_isWayClear_79 : decode cX5_isWayClear 79 = .ok (.if_icmp .ge 7, 3) := by decide +kernel
theorem dX5_isWayClear_82 : decode cX5_isWayClear 82 = .ok (.iconst (-1), 1) := by decide +kernel
theorem dX5_isWayClear_83 : decode cX5_isWayClear 83 = .ok (.goto 4, 3) := by decide +kernel
theorem dX5_isWayClear_86 : decode cX5_isWayClear 86 = .ok (.iconst 1, 1) := by decide +kernel
theorem dX5_isWayClear_87 : decode cX5_isWayClear 87 = .ok (.istore 8, 2) := by decide +kernel
theorem dX5_isWayClear_89 : decode cX5_isWayClear 89 = .ok (.iconst 0, 1) := by decide +kernel
theorem dX5_isWayClear_90 : decode cX5_isWayClear 90 = .ok (.istore 9, 2) := by decide +kernel
theorem dX5_isWayClear_92 : decode cX5_isWayClear 92 = .ok (.iconst 0, 1) := by decide +kernel
theorem dX5_isWayClear_93 : decode cX5_isWayClear 93 = .ok (.istore 10, 2) := by decide +kernel
theorem dX5_isWayClear_95 : decode cX5_isWayClear 95 = .ok (.iload 9, 2) := by decide +kernel
theorem dX5_isWayClear_97 : decode cX5_isWayClear 97 = .ok (.iload 10, 2) := by decide +kernel
theorem dX5_isWayClear_99 : decode cX5_isWayClear 99 = .ok (.iadd, 1) := by decide +kernel
theorem dX5_isWayClear_100 : decode cX5_isWayClear 100 = .ok (.iload 5, 2) := by decide +kernel
theorem dX5_isWayClear_102 : decode cX5_isWayClear 102 = .ok (.iload 6, 2) := by decide +kernel
theorem dX5_isWayClear_104 : decode cX5_isWayClear 104 = .ok (.iadd, 1) := by decide +kernel
theorem dX5_isWayClear_105 : decode cX5_isWayClear 105 = .ok (.if_icmp .ge 109, 3) := by decide +kernel
theorem dX5_isWayClear_108 : decode cX5_isWayClear 108 = .ok (.iconst 1, 1) := by decide +kernel
theorem dX5_isWayClear_109 : decode cX5_isWayClear 109 = .ok (.iconst 2, 1) := by decide +kernel
theorem dX5_isWayClear_110 : decode cX5_isWayClear 110 = .ok (.iload 9, 2) := by decide +kernel
theorem dX5_isWayClear_112 : decode cX5_isWayClear 112 = .ok (.imul, 1) := by decide +kernel
theorem dX5_isWayClear_113 : decode cX5_isWayClear 113 = .ok (.iadd, 1) := by decide +kernel
theorem dX5_isWayClear_114 : decode cX5_isWayClear 114 = .ok (.iload 6, 2) := by decide +kernel
theorem dX5_isWayClear_116 : decode cX5_isWayClear 116 = .ok (.imul, 1) := by decide +kernel
theorem dX5_isWayClear_117 : decode cX5_isWayClear 117 = .ok (.iconst 1, 1) := by decide +kernel
theorem dX5_isWayClear_118 : decode cX5_isWayClear 118 = .ok (.iconst 2, 1) := by decide +kernel
theorem dX5_isWayClear_119 : decode cX5_isWayClear 119 = .ok (.iload 10, 2) := by decide +kernel
theorem dX5_isWayClear_121 : decode cX5_isWayClear 121 = .ok (.imul, 1) := by decide +kernel
theorem dX5_isWayClear_122 : decode cX5_isWayClear 122 = .ok (.iadd, 1) := by decide +kernel
theorem dX5_isWayClear_123 : decode cX5_isWayClear 123 = .ok (.iload 5, 2) := by decide +kernel
theorem dX5_isWayClear_125 : decode cX5_isWayClear 125 = .ok (.imul, 1) := by decide +kernel
theorem dX5_isWayClear_126 : decode cX5_isWayClear 126 = .ok (.isub, 1) := by decide +kernel
theorem dX5_isWayClear_127 : decode cX5_isWayClear 127 = .ok (.istore 11, 2) := by decide +kernel
theorem dX5_isWayClear_129 : decode cX5_isWayClear 129 = .ok (.iload 11, 2) := by decide +kernel
theorem dX5_isWayClear_131 : decode cX5_isWayClear 131 = .ok (.ifCond .ne 37, 3) := by decide +kernel
theorem dX5_isWayClear_134 : decode cX5_isWayClear 134 = .ok (.aload_n 0, 1) := by decide +kernel
theorem dX5_isWayClear_135 : decode cX5_isWayClear 135 = .ok (.getfield 18, 3) := by decide +kernel
theorem dX5_isWayClear_138 : decode cX5_isWayClear 138 = .ok (.iload_n 3, 1) := by decide +kernel
theorem dX5_isWayClear_139 : decode cX5_isWayClear 139 = .ok (.iload 7, 2) := by decide +kernel
theorem dX5_isWayClear_141 : decode cX5_isWayClear 141 = .ok (.iadd, 1) := by decide +kernel
theorem dX5_isWayClear_142 : decode cX5_isWayClear 142 = .ok (.iload 4, 2) := by decide +kernel
theorem dX5_isWayClear_144 : decode cX5_isWayClear 144 = .ok (.invokevirtual 64, 3) := by decide +kernel
theorem dX5_isWayClear_147 : decode cX5_isWayClear 147 = .ok (.ifCond .ne 21, 3) := by decide +kernel
theorem dX5_isWayClear_150 : decode cX5_isWayClear 150 = .ok (.aload_n 0, 1) := by decide +kernel
theorem dX5_isWayClear_151 : decode cX5_isWayClear 151 = .ok (.getfield 18, 3) := by decide +kernel
theorem dX5_isWayClear_154 : decode cX5_isWayClear 154 = .ok (.iload_n 3, 1) := by decide +kernel
theorem dX5_isWayClear_155 : decode cX5_isWayClear 155 = .ok (.iload 4, 2) := by decide +kernel
theorem dX5_isWayClear_157 : decode cX5_isWayClear 157 = .ok (.iload 8, 2) := by decide +kernel
theorem dX5_isWayClear_159 : decode cX5_isWayClear 159 = .ok (.iadd, 1) := by decide +kernel
theorem dX5_isWayClear_160 : decode cX5_isWayClear 160 = .ok (.invokevirtual 64, 3) := by decide +kernel
theorem dX5_isWayClear_163 : decode cX5_isWayClear 163 = .ok (.ifCond .ne 5, 3) := by decide +kernel
theorem dX5_isWayClear_166 : decode cX5_isWayClear 166 = .ok (.iconst 0, 1) := by decide +kernel
theorem dX5_isWayClear_167 : decode cX5_isWayClear 167 = .ok (.ireturn, 1) := by decide +kernel
theorem dX5_isWayClear_168 : decode cX5_isWayClear 168 = .ok (.iload 11, 2) := by decide +kernel
theorem dX5_isWayClear_170 : decode cX5_isWayClear 170 = .ok (.ifCond .gt 11, 3) := by decide +kernel
theorem dX5_isWayClear_173 : decode cX5_isWayClear 173 = .ok (.iload_n 3, 1) := by decide +kernel
theorem dX5_isWayClear_174 : decode cX5_isWayClear 174 = .ok (.iload 7, 2) := by decide +kernel
theorem dX5_isWayClear_176 : decode cX5_isWayClear 176 = .ok (.iadd, 1) := by decide +kernel
theorem dX5_isWayClear_177 : decode cX5_isWayClear 177 = .ok (.istore_n 3, 1) := by decide +kernel
theorem dX5_isWayClear_178 : decode cX5_isWayClear 178 = .ok (.iinc 9 1, 3) := by decide +kernel
theorem dX5_isWayClear_181 : decode cX5_isWayClear 181 = .ok (.iload 11, 2) := by decide +kernel
theorem dX5_isWayClear_183 : decode cX5_isWayClear 183 = .ok (.ifCond .lt 13, 3) := by decide +kernel
theorem dX5_isWayClear_186 : decode cX5_isWayClear 186 = .ok (.iload 4, 2) := by decide +kernel
theorem dX5_isWayClear_188 : decode cX5_isWayClear 188 = .ok (.iload 8, 2) := by decide +kernel
theorem dX5_isWayClear_190 : decode cX5_isWayClear 190 = .ok (.iadd, 1) := by decide +kernel
theorem dX5_isWayClear_191 : decode cX5_isWayClear 191 = .ok (.istore 4, 2) := by decide +kernel
theorem dX5_isWayClear_193 : decode cX5_isWayClear 193 = .ok (.iinc 10 1, 3) := by decide +kernel
theorem dX5_isWayClear_196 : decode cX5_isWayClear 196 = .ok (.aload_n 0, 1) := by decide +kernel
theorem dX5_isWayClear_197 : decode cX5_isWayClear 197 = .ok (.getfield 18, 3) := by decide +kernel
theorem dX5_isWayClear_200 : decode cX5_isWayClear 200 = .ok (.iload_n 3, 1) := by decide +kernel
theorem dX5_isWayClear_201 : decode cX5_isWayClear 201 = .ok (.iload 4, 2) := by decide +kernel
theorem dX5_isWayClear_203 : decode cX5_isWayClear 203 = .ok (.invokevirtual 64, 3) := by decide +kernel
theorem dX5_isWayClear_206 : decode cX5_isWayClear 206 = .ok (.ifCond .ne 5, 3) := by decide +kernel
theorem dX5_isWayClear_209 : decode cX5_isWayClear 209 = .ok (.iconst 0, 1) := by decide +kernel
theorem dX5_isWayClear_210 : decode cX5_isWayClear 210 = .ok (.ireturn, 1) := by decide +kernel
theorem dX5_isWayClear_211 : decode cX5_isWayClear 211 = .ok (.goto (-116), 3) := by decide +kernel
theorem dX5_isWayClear_214 : decode cX5_isWayClear 214 = .ok (.iconst 1, 1) := by decide +kernel
theorem dX5_isWayClear_215 : decode cX5_isWayClear 215 = .ok (.ireturn, 1) := by decide +kernel
theorem dX6_init_0 : decode cX6_init 0 = .ok (.aload_n 0, 1) := by decide +kernel
theorem dX6_init_1 : decode cX6_init 1 = .ok (.invokespecial 3, 3) := by decide +kernel
theorem dX6_init_4 : decode cX6_init 4 = .ok (.aload_n 0, 1) := by decide +kernel
theorem dX6_init_5 : decode cX6_init 5 = .ok (.bipush 60, 2) := by decide +kernel
theorem dX6_init_7 : decode cX6_init 7 = .ok (.newarray .long, 2) := by decide +kernel
theorem dX6_init_9 : decode cX6_init 9 = .ok (.putfield 9, 3) := by decide +kernel
theorem dX6_init_12 : decode cX6_init 12 = .ok (.aload_n 0, 1) := by decide +kernel
theorem dX6_init_13 : decode cX6_init 13 = .ok (.bipush 60, 2) := by decide +kernel
theorem dX6_init_15 : decode cX6_init 15 = .ok (.newarray .long, 2) := by decide +kernel
theorem dX6_init_17 : decode cX6_init 17 = .ok (.putfield 15, 3) := by decide +kernel
theorem dX6_init_20 : decode cX6_init 20 = .ok (.aload_n 0, 1) := by decide +kernel
theorem dX6_init_21 : decode cX6_init 21 = .ok (.aload_n 1, 1) := by decide +kernel
theorem dX6_init_22 : decode cX6_init 22 = .ok (.putfield 18, 3) := by decide +kernel
theorem dX6_init_25 : decode cX6_init 25 = .ok (.aload_n 0, 1) := by decide +kernel
theorem dX6_init_26 : decode cX6_init 26 = .ok (.aload_n 2, 1) := by decide +kernel
theorem dX6_init_27 : decode cX6_init 27 = .ok (.putfield 22, 3) := by decide +kernel
theorem dX6_init_30 : decode cX6_init 30 = .ok (.aload_n 0, 1) := by decide +kernel
theorem dX6_init_31 : decode cX6_init 31 = .ok (.aload_n 3, 1) := by decide +kernel
theorem dX6_init_32 : decode cX6_init 32 = .ok (.putfield 26, 3) := by decide +kernel
theorem dX6_init_35 : decode cX6_init 35 = .ok (.aload_n 0, 1) := by decide +kernel
theorem dX6_init_36 : decode cX6_init 36 = .ok (.aload 4, 2) := by decide +kernel
theorem dX6_init_38 : decode cX6_init 38 = .ok (.putfield 30, 3) := by decide +kernel
theorem dX6_init_41 : decode cX6_init 41 = .ok (.return_, 1) := by decide +kernel
theorem dX6_survey_0 : decode cX6_survey 0 = .ok (.aload_n 0, 1) := by decide +kernel
theorem dX6_survey_1 : decode cX6_survey 1 = .ok (.aload_n 0, 1) := by decide +kernel
theorem dX6_survey_2 : decode cX6_survey 2 = .ok (.getfield 26, 3) := by decide +kernel
theorem dX6_survey_5 : decode cX6_survey 5 = .ok (.invokevirtual 34, 3) := by decide +kernel
theorem dX6_survey_8 : decode cX6_survey 8 = .ok (.putfield 40, 3) := by decide +kernel
theorem dX6_survey_11 : decode cX6_survey 11 = .ok (.aload_n 0, 1) := by decide +kernel
theorem dX6_survey_12 : decode cX6_survey 12 = .ok (.getfield 9, 3) := by decide +kernel
theorem dX6_survey_15 : decode cX6_survey 15 = .ok (.aload_n 0, 1) := by decide +kernel
theorem dX6_survey_16 : decode cX6_survey 16 = .ok (.getfield 18, 3) := by decide +kernel
theorem dX6_survey_19 : decode cX6_survey 19 = .ok (.invokevirtual 43, 3) := by decide +kernel
theorem dX6_survey_22 : decode cX6_survey 22 = .ok (.invokestatic 49, 3) := by decide +kernel
theorem dX6_survey_25 : decode cX6_survey 25 = .ok (.iconst 0, 1) := by decide +kernel
theorem dX6_survey_26 : decode cX6_survey 26 = .ok (.istore_n 1, 1) := by decide +kernel
theorem dX6_survey_27 : decode cX6_survey 27 = .ok (.iload_n 1, 1) := by decide +kernel
theorem dX6_survey_28 : decode cX6_survey 28 = .ok (.iconst 4, 1) := by decide +kernel
theorem dX6_survey_29 : decode cX6_survey 29 = .ok (.if_icmp .ge 103, 3) := by decide +kernel
theorem dX6_survey_32 : decode cX6_survey 32 = .ok (.aload_n 0, 1) := by decide +kernel
theorem dX6_survey_33 : decode cX6_survey 33 = .ok (.getfield 26, 3) := by decide +kernel
theorem dX6_survey_36 : decode cX6_survey 36 = .ok (.iload_n 1, 1) := by decide +kernel
theorem dX6_survey_37 : decode cX6_survey 37 = .ok (.invokevirtual 55, 3) := by decide +kernel
theorem dX6_survey_40 : decode cX6_survey 40 = .ok (.istore_n 2, 1) := by decide +kernel
theorem dX6_survey_41 : decode cX6_survey 41 = .ok (.iconst 0, 1) := by decide +kernel
theorem dX6_survey_42 : decode cX6_survey 42 = .ok (.istore_n 3, 1) := by decide +kernel
theorem dX6_survey_43 : decode cX6_survey 43 = .ok (.iload_n 3, 1) := by decide +kernel
theorem dX6_survey_44 : decode cX6_survey 44 = .ok (.iload_n 2, 1) := by decide +kernel
theorem dX6_survey_45 : decode cX6_survey 45 = .ok (.if_icmp .ge 81, 3) := by decide +kernel
theorem dX6_survey_48 : decode cX6_survey 48 = .ok (.aload_n 0, 1) := by decide +kernel
theorem dX6_survey_49 : decode cX6_survey 49 = .ok (.getfield 22, 3) := by decide +kernel
theorem dX6_survey_52 : decode cX6_survey 52 = .ok (.aload_n 0, 1) := by decide +kernel
theorem dX6_survey_53 : decode cX6_survey 53 = .ok (.getfield 26, 3) := by decide +kernel
theorem dX6_survey_56 : decode cX6_survey 56 = .ok (.iload_n 1, 1) := by decide +kernel
theorem dX6_survey_57 : decode cX6_survey 57 = .ok (.iload_n 3, 1) := by decide +kernel
theorem dX6_survey_58 : decode cX6_survey 58 = .ok (.invokevirtual 59, 3) := by decide +kernel
theorem dX6_survey_61 : decode cX6_survey 61 = .ok (.invokevirtual 63, 3) := by decide +kernel
theorem dX6_survey_64 : decode cX6_survey 64 = .ok (.lstore 4, 2) := by decide +kernel
theorem dX6_survey_66 : decode cX6_survey 66 = .ok (.iload_n 3, 1) := by decide +kernel
theorem dX6_survey_67 : decode cX6_survey 67 = .ok (.aload_n 0, 1) := by decide +kernel
theorem dX6_survey_68 : decode cX6_survey 68 = .ok (.getfield 26, 3) := by decide +kernel
theorem dX6_survey_71 : decode cX6_survey 71 = .ok (.iload_n 1, 1) := by decide +kernel
theorem dX6_survey_72 : decode cX6_survey 72 = .ok (.invokevirtual 69, 3) := by decide +kernel
theorem dX6_survey_75 : decode cX6_survey 75 = .ok (.isub, 1) := by decide +kernel
theorem dX6_survey_76 : decode cX6_survey 76 = .ok (.iload_n 2, 1) := by decide +kernel
theorem dX6_survey_77 : decode cX6_survey 77 = .ok (.invokestatic 72, 3) := by decide +kernel
theorem dX6_survey_80 : decode cX6_survey 80 = .ok (.istore 6, 2) := by decide +kernel
theorem dX6_survey_82 : decode cX6_survey 82 = .ok (.iload 6, 2) := by decide +kernel
theorem dX6_survey_84 : decode cX6_survey 84 = .ok (.istore 7, 2) := by decide +kernel
theorem dX6_survey_86 : decode cX6_survey 86 = .ok (.iload 7, 2) := by decide +kernel
theorem dX6_survey_88 : decode cX6_survey 88 = .ok (.aload_n 0, 1) := by decide +kernel
theorem dX6_survey_89 : decode cX6_survey 89 = .ok (.getfield 40, 3) := by decide +kernel
theorem dX6_survey_92 : decode cX6_survey 92 = .ok (.if_icmp .ge 28, 3) := by decide +kernel
theorem dX6_survey_95 : decode cX6_survey 95 = .ok (.aload_n 0, 1) := by decide +kernel
theorem dX6_survey_96 : decode cX6_survey 96 = .ok (.getfield 9, 3) := by decide +kernel
theorem dX6_survey_99 : decode cX6_survey 99 = .ok (.iload 7, 2) := by decide +kernel
theorem dX6_survey_101 : decode cX6_survey 101 = .ok (.dup2, 1) := by decide +kernel
theorem dX6_survey_102 : decode cX6_survey 102 = .ok (.laload, 1) := by decide +kernel
theorem dX6_survey_103 : decode cX6_survey 103 = .ok (.lload 4, 2) := by decide +kernel
theorem dX6_survey_105 : decode cX6_survey 105 = .ok (.ldc2_w 77, 3) := by decide +kernel
theorem dX6_survey_108 : decode cX6_survey 108 = .ok (.lxor, 1) := by decide +kernel
theorem dX6_survey_109 : decode cX6_survey 109 = .ok (.land, 1) := by decide +kernel
theorem dX6_survey_110 : decode cX6_survey 110 = .ok (.lastore, 1) := by decide +kernel
theorem dX6_survey_111 : decode cX6_survey 111 = .ok (.iload 7, 2) := by decide +kernel
theorem dX6_survey_113 : decode cX6_survey 113 = .ok (.iload_n 2, 1) := by decide +kernel
theorem dX6_survey_114 : decode cX6_survey 114 = .ok (.iadd, 1) := by decide +kernel
theorem dX6_survey_115 : decode cX6_survey 115 = .ok (.istore 7, 2) := by decide +kernel
theorem dX6_survey_117 : decode cX6_survey 117 = .ok (.goto (-31), 3) := by decide +kernel
theorem dX6_survey_120 : decode cX6_survey 120 = .ok (.iinc 3 1, 3) := by decide +kernel
theorem dX6_survey_123 : decode cX6_survey 123 = .ok (.goto (-80), 3) := by decide +kernel
theorem dX6_survey_126 : decode cX6_survey 126 = .ok (.iinc 1 1, 3) := by decide +kernel
theorem dX6_survey_129 : decode cX6_survey 129 = .ok (.goto (-102), 3) := by decide +kernel
theorem dX6_survey_132 : decode cX6_survey 132 = .ok (.return_, 1) := by decide +kernel
theorem dX6_lengthOf_0 : decode cX6_lengthOf 0 = .ok (.aload_n 0, 1) := by decide +kernel
theorem dX6_lengthOf_1 : decode cX6_lengthOf 1 = .ok (.getfield 30, 3) := by decide +kernel
theorem dX6_lengthOf_4 : decode cX6_lengthOf 4 = .ok (.aload_n 0, 1) := by decide +kernel
theorem dX6_lengthOf_5 : decode cX6_lengthOf 5 = .ok (.iload_n 1, 1) := by decide +kernel
theorem dX6_lengthOf_6 : decode cX6_lengthOf 6 = .ok (.iload_n 2, 1) := by decide +kernel
theorem dX6_lengthOf_7 : decode cX6_lengthOf 7 = .ok (.iload_n 3, 1) := by decide +kernel
theorem dX6_lengthOf_8 : decode cX6_lengthOf 8 = .ok (.invokevirtual 79, 3) := by decide +kernel
theorem dX6_lengthOf_11 : decode cX6_lengthOf 11 = .ok (.invokevirtual 83, 3) := by decide +kernel
theorem dX6_lengthOf_14 : decode cX6_lengthOf 14 = .ok (.ireturn, 1) := by decide +kernel
theorem dX6_moveOf_0 : decode cX6_moveOf 0 = .ok (.aload_n 0, 1) := by decide +kernel
theorem dX6_moveOf_1 : decode cX6_moveOf 1 = .ok (.getfield 30, 3) := by decide +kernel
theorem dX6_moveOf_4 : decode cX6_moveOf 4 = .ok (.aload_n 0, 1) := by decide +kernel
theorem dX6_moveOf_5 : decode cX6_moveOf 5 = .ok (.iload_n 1, 1) := by decide +kernel
theorem dX6_moveOf_6 : decode cX6_moveOf 6 = .ok (.iload_n 2, 1) := by decide +kernel
theorem dX6_moveOf_7 : decode cX6_moveOf 7 = .ok (.iload_n 3, 1) := by decide +kernel
theorem dX6_moveOf_8 : decode cX6_moveOf 8 = .ok (.invokevirtual 79, 3) := by decide +kernel
theorem dX6_moveOf_11 : decode cX6_moveOf 11 = .ok (.iload 4, 2) := by decide +kernel
theorem dX6_moveOf_13 : decode cX6_moveOf 13 = .ok (.invokevirtual 88, 3) := by decide +kernel
theorem dX6_moveOf_16 : decode cX6_moveOf 16 = .ok (.ireturn, 1) := by decide +kernel
theorem dX6_after_0 : decode cX6_after 0 = .ok (.iload_n 1, 1) := by decide +kernel
theorem dX6_after_1 : decode cX6_after 1 = .ok (.iconst 1, 1) := by decide +kernel
theorem dX6_after_2 : decode cX6_after 2 = .ok (.iadd, 1) := by decide +kernel
theorem dX6_after_3 : decode cX6_after 3 = .ok (.aload_n 0, 1) := by decide +kernel
theorem dX6_after_4 : decode cX6_after 4 = .ok (.getfield 40, 3) := by decide +kernel
theorem dX6_after_7 : decode cX6_after 7 = .ok (.if_icmp .ge 9, 3) := by decide +kernel
theorem dX6_after_10 : decode cX6_after 10 = .ok (.iload_n 1, 1) := by decide +kernel
theorem dX6_after_11 : decode cX6_after 11 = .ok (.iconst 1, 1) := by decide +kernel
theorem dX6_after_12 : decode cX6_after 12 = .ok (.iadd, 1) := by decide +kernel
theorem dX6_after_13 : decode cX6_after 13 = .ok (.goto 4, 3) := by decide +kernel
theorem dX6_after_16 : decode cX6_after 16 = .ok (.iconst 0, 1) := by decide +kernel
theorem dX6_after_17 : decode cX6_after 17 = .ok (.ireturn, 1) := by decide +kernel
theorem dX6_search_0 : decode cX6_search 0 = .ok (.aload_n 0, 1) := by decide +kernel
theorem dX6_search_1 : decode cX6_search 1 = .ok (.getfield 30, 3) := by decide +kernel
theorem dX6_search_4 : decode cX6_search 4 = .ok (.invokevirtual 91, 3) := by decide +kernel
theorem dX6_search_7 : decode cX6_search 7 = .ok (.iload_n 3, 1) := by decide +kernel
theorem dX6_search_8 : decode cX6_search 8 = .ok (.iconst 1, 1) := by decide +kernel
theorem dX6_search_9 : decode cX6_search 9 = .ok (.aload_n 0, 1) := by decide +kernel
theorem dX6_search_10 : decode cX6_search 10 = .ok (.getfield 40, 3) := by decide +kernel
theorem dX6_search_13 : decode cX6_search 13 = .ok (.invokestatic 94, 3) := by decide +kernel
theorem dX6_search_16 : decode cX6_search 16 = .ok (.irem, 1) := by decide +kernel
theorem dX6_search_17 : decode cX6_search 17 = .ok (.istore 4, 2) := by decide +kernel
theorem dX6_search_19 : decode cX6_search 19 = .ok (.aload_n 0, 1) := by decide +kernel
theorem dX6_search_20 : decode cX6_search 20 = .ok (.getfield 9, 3) := by decide +kernel
theorem dX6_search_23 : decode cX6_search 23 = .ok (.iload 4, 2) := by decide +kernel
theorem dX6_search_25 : decode cX6_search 25 = .ok (.laload, 1) := by decide +kernel
theorem dX6_search_26 : decode cX6_search 26 = .ok (.iload_n 2, 1) := by decide +kernel
theorem dX6_search_27 : decode cX6_search 27 = .ok (.invokestatic 97, 3) := by decide +kernel
theorem dX6_search_30 : decode cX6_search 30 = .ok (.ifCond .eq 29, 3) := by decide +kernel
theorem dX6_search_33 : decode cX6_search 33 = .ok (.aload_n 0, 1) := by decide +kernel
theorem dX6_search_34 : decode cX6_search 34 = .ok (.getfield 30, 3) := by decide +kernel
theorem dX6_search_37 : decode cX6_search 37 = .ok (.aload_n 0, 1) := by decide +kernel
theorem dX6_search_38 : decode cX6_search 38 = .ok (.iload_n 2, 1) := by decide +kernel
theorem dX6_search_39 : decode cX6_search 39 = .ok (.iload_n 1, 1) := by decide +kernel
theorem dX6_search_40 : decode cX6_search 40 = .ok (.if_icmp .ne 7, 3) := by decide +kernel
theorem dX6_search_43 : decode cX6_search 43 = .ok (.iconst 1, 1) := by decide +kernel
theorem dX6_search_44 : decode cX6_search 44 = .ok (.goto 4, 3) := by decide +kernel
theorem dX6_search_47 : decode cX6_search 47 = .ok (.iconst 0, 1) := by decide +kernel
theorem dX6_search_48 : decode cX6_search 48 = .ok (.iload 4, 2) := by decide +kernel
theorem dX6_search_50 : decode cX6_search 50 = .ok (.invokevirtual 101, 3) := by decide +kernel
theorem dX6_search_53 : decode cX6_search 53 = .ok (.iload_n 2, 1) := by decide +kernel
theorem dX6_search_54 : decode cX6_search 54 = .ok (.iconst 4, 1) := by decide +kernel
theorem dX6_search_55 : decode cX6_search 55 = .ok (.iconst 0, 1) := by decide +kernel
theorem dX6_search_56 : decode cX6_search 56 = .ok (.invokevirtual 105, 3) := by decide +kernel
theorem dX6_search_59 : decode cX6_search 59 = .ok (.iconst 0, 1) := by decide +kernel
theorem dX6_search_60 : decode cX6_search 60 = .ok (.istore 5, 2) := by decide +kernel
theorem dX6_search_62 : decode cX6_search 62 = .ok (.iload 5, 2) := by decide +kernel
theorem dX6_search_64 : decode cX6_search 64 = .ok (.sipush 16384, 3) := by decide +kernel
theorem dX6_search_67 : decode cX6_search 67 = .ok (.if_icmp .ge 105, 3) := by decide +kernel
theorem dX6_search_70 : decode cX6_search 70 = .ok (.iload 5, 2) := by decide +kernel
theorem dX6_search_72 : decode cX6_search 72 = .ok (.aload_n 0, 1) := by decide +kernel
theorem dX6_search_73 : decode cX6_search 73 = .ok (.getfield 30, 3) := by decide +kernel
theorem dX6_search_76 : decode cX6_search 76 = .ok (.invokevirtual 109, 3) := by decide +kernel
theorem dX6_search_79 : decode cX6_search 79 = .ok (.if_icmp .ge 93, 3) := by decide +kernel
theorem dX6_search_82 : decode cX6_search 82 = .ok (.aload_n 0, 1) := by decide +kernel
theorem dX6_search_83 : decode cX6_search 83 = .ok (.getfield 30, 3) := by decide +kernel
theorem dX6_search_86 : decode cX6_search 86 = .ok (.iload 5, 2) := by decide +kernel
theorem dX6_search_88 : decode cX6_search 88 = .ok (.invokevirtual 112, 3) := by decide +kernel
theorem dX6_search_91 : decode cX6_search 91 = .ok (.aload_n 0, 1) := by decide +kernel
theorem dX6_search_92 : decode cX6_search 92 = .ok (.getfield 40, 3) := by decide +kernel
theorem dX6_search_95 : decode cX6_search 95 = .ok (.if_icmp .lt 7, 3) := by decide +kernel
theorem dX6_search_98 : decode cX6_search 98 = .ok (.iconst 1, 1) := by decide +kernel
theorem dX6_search_99 : decode cX6_search 99 = .ok (.goto 4, 3) := by decide +kernel
theorem dX6_search_102 : decode cX6_search 102 = .ok (.iconst 0, 1) := by decide +kernel
theorem dX6_search_103 : decode cX6_search 103 = .ok (.istore 6, 2) := by decide +kernel
theorem dX6_search_105 : decode cX6_search 105 = .ok (.iload 6, 2) := by decide +kernel
theorem dX6_search_107 : decode cX6_search 107 = .ok (.ifCond .eq 19, 3) := by decide +kernel
theorem dX6_search_110 : decode cX6_search 110 = .ok (.aload_n 0, 1) := by decide +kernel
theorem dX6_search_111 : decode cX6_search 111 = .ok (.getfield 30, 3) := by decide +kernel
theorem dX6_search_114 : decode cX6_search 114 = .ok (.iload 5, 2) := by decide +kernel
theorem dX6_search_116 : decode cX6_search 116 = .ok (.invokevirtual 115, 3) := by decide +kernel
theorem dX6_search_119 : decode cX6_search 119 = .ok (.iload_n 2, 1) := by decide +kernel
theorem dX6_search_120 : decode cX6_search 120 = .ok (.if_icmp .ne 6, 3) := by decide +kernel
theorem dX6_search_123 : decode cX6_search 123 = .ok (.iload 5, 2) := by decide +kernel
theorem dX6_search_125 : decode cX6_search 125 = .ok (.ireturn, 1) := by decide +kernel
theorem dX6_search_126 : decode cX6_search 126 = .ok (.aload_n 0, 1) := by decide +kernel
theorem dX6_search_127 : decode cX6_search 127 = .ok (.getfield 30, 3) := by decide +kernel
theorem dX6_search_130 : decode cX6_search 130 = .ok (.iload 5, 2) := by decide +kernel
theorem dX6_search_132 : decode cX6_search 132 = .ok (.invokevirtual 112, 3) := by decide +kernel
theorem dX6_search_135 : decode cX6_search 135 = .ok (.iload 6, 2) := by decide +kernel
theorem dX6_search_137 : decode cX6_search 137 = .ok (.ifCond .eq 10, 3) := by decide +kernel
theorem dX6_search_140 : decode cX6_search 140 = .ok (.aload_n 0, 1) := by decide +kernel
theorem dX6_search_141 : decode cX6_search 141 = .ok (.getfield 40, 3) := by decide +kernel
theorem dX6_search_144 : decode cX6_search 144 = .ok (.goto 4, 3) := by decide +kernel
theorem dX6_search_147 : decode cX6_search 147 = .ok (.iconst 0, 1) := by decide +kernel
theorem dX6_search_148 : decode cX6_search 148 = .ok (.isub, 1) := by decide +kernel
theorem dX6_search_149 : decode cX6_search 149 = .ok (.istore 7, 2) := by decide +kernel
theorem dX6_search_151 : decode cX6_search 151 = .ok (.aload_n 0, 1) := by decide +kernel
theorem dX6_search_152 : decode cX6_search 152 = .ok (.iload 5, 2) := by decide +kernel
theorem dX6_search_154 : decode cX6_search 154 = .ok (.iload 6, 2) := by decide +kernel
theorem dX6_search_156 : decode cX6_search 156 = .ok (.aload_n 0, 1) := by decide +kernel
theorem dX6_search_157 : decode cX6_search 157 = .ok (.iload 7, 2) := by decide +kernel
theorem dX6_search_159 : decode cX6_search 159 = .ok (.invokevirtual 118, 3) := by decide +kernel
theorem dX6_search_162 : decode cX6_search 162 = .ok (.iload_n 1, 1) := by decide +kernel
theorem dX6_search_163 : decode cX6_search 163 = .ok (.invokevirtual 121, 3) := by decide +kernel
theorem dX6_search_166 : decode cX6_search 166 = .ok (.iinc 5 1, 3) := by decide +kernel
theorem dX6_search_169 : decode cX6_search 169 = .ok (.goto (-107), 3) := by decide +kernel
theorem dX6_search_172 : decode cX6_search 172 = .ok (.iconst (-1), 1) := by decide +kernel
theorem dX6_search_173 : decode cX6_search 173 = .ok (.ireturn, 1) := by decide +kernel
theorem dX6_layerFor_0 : decode cX6_layerFor 0 = .ok (.iload_n 1, 1) := by decide +kernel
theorem dX6_layerFor_1 : decode cX6_layerFor 1 = .ok (.ifCond .eq 12, 3) := by decide +kernel
theorem dX6_layerFor_4 : decode cX6_layerFor 4 = .ok (.aload_n 0, 1) := by decide +kernel
theorem dX6_layerFor_5 : decode cX6_layerFor 5 = .ok (.getfield 40, 3) := by decide +kernel
theorem dX6_layerFor_8 : decode cX6_layerFor 8 = .ok (.iload_n 2, 1) := by decide +kernel
theorem dX6_layerFor_9 : decode cX6_layerFor 9 = .ok (.iadd, 1) := by decide +kernel
theorem dX6_layerFor_10 : decode cX6_layerFor 10 = .ok (.goto 4, 3) := by decide +kernel
theorem dX6_layerFor_13 : decode cX6_layerFor 13 = .ok (.iload_n 2, 1) := by decide +kernel
theorem dX6_layerFor_14 : decode cX6_layerFor 14 = .ok (.ireturn, 1) := by decide +kernel
theorem dX6_goOn_0 : decode cX6_goOn 0 = .ok (.iconst 0, 1) := by decide +kernel
theorem dX6_goOn_1 : decode cX6_goOn 1 = .ok (.istore 5, 2) := by decide +kernel
theorem dX6_goOn_3 : decode cX6_goOn 3 = .ok (.iload 5, 2) := by decide +kernel
theorem dX6_goOn_5 : decode cX6_goOn 5 = .ok (.iconst 5, 1) := by decide +kernel
theorem dX6_goOn_6 : decode cX6_goOn 6 = .ok (.if_icmp .ge 81, 3) := by decide +kernel
theorem dX6_goOn_9 : decode cX6_goOn 9 = .ok (.aload_n 0, 1) := by decide +kernel
theorem dX6_goOn_10 : decode cX6_goOn 10 = .ok (.getfield 18, 3) := by decide +kernel
theorem dX6_goOn_13 : decode cX6_goOn 13 = .ok (.aload_n 0, 1) := by decide +kernel
theorem dX6_goOn_14 : decode cX6_goOn 14 = .ok (.getfield 30, 3) := by decide +kernel
theorem dX6_goOn_17 : decode cX6_goOn 17 = .ok (.iload_n 1, 1) := by decide +kernel
theorem dX6_goOn_18 : decode cX6_goOn 18 = .ok (.invokevirtual 115, 3) := by decide +kernel
theorem dX6_goOn_21 : decode cX6_goOn 21 = .ok (.iload 5, 2) := by decide +kernel
theorem dX6_goOn_23 : decode cX6_goOn 23 = .ok (.invokevirtual 125, 3) := by decide +kernel
theorem dX6_goOn_26 : decode cX6_goOn 26 = .ok (.istore 6, 2) := by decide +kernel
theorem dX6_goOn_28 : decode cX6_goOn 28 = .ok (.iload 6, 2) := by decide +kernel
theorem dX6_goOn_30 : decode cX6_goOn 30 = .ok (.iconst (-1), 1) := by decide +kernel
theorem dX6_goOn_31 : decode cX6_goOn 31 = .ok (.if_icmp .eq 50, 3) := by decide +kernel
theorem dX6_goOn_34 : decode cX6_goOn 34 = .ok (.aload_n 0, 1) := by decide +kernel
theorem dX6_goOn_35 : decode cX6_goOn 35 = .ok (.getfield 9, 3) := by decide +kernel
theorem dX6_goOn_38 : decode cX6_goOn 38 = .ok (.iload_n 3, 1) := by decide +kernel
theorem dX6_goOn_39 : decode cX6_goOn 39 = .ok (.laload, 1) := by decide +kernel
theorem dX6_goOn_40 : decode cX6_goOn 40 = .ok (.iload 6, 2) := by decide +kernel
theorem dX6_goOn_42 : decode cX6_goOn 42 = .ok (.invokestatic 97, 3) := by decide +kernel
theorem dX6_goOn_45 : decode cX6_goOn 45 = .ok (.ifCond .eq 36, 3) := by decide +kernel
theorem dX6_goOn_48 : decode cX6_goOn 48 = .ok (.aload_n 0, 1) := by decide +kernel
theorem dX6_goOn_49 : decode cX6_goOn 49 = .ok (.getfield 30, 3) := by decide +kernel
theorem dX6_goOn_52 : decode cX6_goOn 52 = .ok (.aload_n 0, 1) := by decide +kernel
theorem dX6_goOn_53 : decode cX6_goOn 53 = .ok (.iload_n 2, 1) := by decide +kernel
theorem dX6_goOn_54 : decode cX6_goOn 54 = .ok (.ifCond .ne 10, 3) := by decide +kernel
theorem dX6_goOn_57 : decode cX6_goOn 57 = .ok (.iload 6, 2) := by decide +kernel
theorem dX6_goOn_59 : decode cX6_goOn 59 = .ok (.iload 4, 2) := by decide +kernel
theorem dX6_goOn_61 : decode cX6_goOn 61 = .ok (.if_icmp .ne 7, 3) := by decide +kernel
theorem dX6_goOn_64 : decode cX6_goOn 64 = .ok (.iconst 1, 1) := by decide +kernel
theorem dX6_goOn_65 : decode cX6_goOn 65 = .ok (.goto 4, 3) := by decide +kernel
theorem dX6_goOn_68 : decode cX6_goOn 68 = .ok (.iconst 0, 1) := by decide +kernel
theorem dX6_goOn_69 : decode cX6_goOn 69 = .ok (.iload_n 3, 1) := by decide +kernel
theorem dX6_goOn_70 : decode cX6_goOn 70 = .ok (.invokevirtual 101, 3) := by decide +kernel
theorem dX6_goOn_73 : decode cX6_goOn 73 = .ok (.iload 6, 2) := by decide +kernel
theorem dX6_goOn_75 : decode cX6_goOn 75 = .ok (.iload 5, 2) := by decide +kernel
theorem dX6_goOn_77 : decode cX6_goOn 77 = .ok (.iload_n 1, 1) := by decide +kernel
theorem dX6_goOn_78 : decode cX6_goOn 78 = .ok (.invokevirtual 105, 3) := by decide +kernel
theorem dX6_goOn_81 : decode cX6_goOn 81 = .ok (.iinc 5 1, 3) := by decide +kernel
theorem dX6_goOn_84 : decode cX6_goOn 84 = .ok (.goto (-81), 3) := by decide +kernel
theorem dX6_goOn_87 : decode cX6_goOn 87 = .ok (.return_, 1) := by decide +kernel
theorem dX6_goodHours_0 : decode cX6_goodHours 0 = .ok (.aload_n 0, 1) := by decide +kernel
theorem dX6_goodHours_1 : decode cX6_goodHours 1 = .ok (.iload_n 2, 1) := by decide +kernel
theorem dX6_goodHours_2 : decode cX6_goodHours 2 = .ok (.iconst 1, 1) := by decide +kernel
theorem dX6_goodHours_3 : decode cX6_goodHours 3 = .ok (.invokevirtual 128, 3) := by decide +kernel
theorem dX6_goodHours_6 : decode cX6_goodHours 6 = .ok (.aload_n 0, 1) := by decide +kernel
theorem dX6_goodHours_7 : decode cX6_goodHours 7 = .ok (.invokevirtual 132, 3) := by decide +kernel
theorem dX6_goodHours_10 : decode cX6_goodHours 10 = .ok (.aload_n 0, 1) := by decide +kernel
theorem dX6_goodHours_11 : decode cX6_goodHours 11 = .ok (.iload_n 1, 1) := by decide +kernel
theorem dX6_goodHours_12 : decode cX6_goodHours 12 = .ok (.iconst 0, 1) := by decide +kernel
theorem dX6_goodHours_13 : decode cX6_goodHours 13 = .ok (.invokevirtual 128, 3) := by decide +kernel
theorem dX6_goodHours_16 : decode cX6_goodHours 16 = .ok (.aload_n 0, 1) := by decide +kernel
theorem dX6_goodHours_17 : decode cX6_goodHours 17 = .ok (.invokevirtual 132, 3) := by decide +kernel
theorem dX6_goodHours_20 : decode cX6_goodHours 20 = .ok (.iconst 0, 1) := by decide +kernel
theorem dX6_goodHours_21 : decode cX6_goodHours 21 = .ok (.istore_n 3, 1) := by decide +kernel
theorem dX6_goodHours_22 : decode cX6_goodHours 22 = .ok (.iconst 0, 1) := by decide +kernel
theorem dX6_goodHours_23 : decode cX6_goodHours 23 = .ok (.istore 4, 2) := by decide +kernel
theorem dX6_goodHours_25 : decode cX6_goodHours 25 = .ok (.iload 4, 2) := by decide +kernel
theorem dX6_goodHours_27 : decode cX6_goodHours 27 = .ok (.aload_n 0, 1) := by decide +kernel
theorem dX6_goodHours_28 : decode cX6_goodHours 28 = .ok (.getfield 40, 3) := by decide +kernel
theorem dX6_goodHours_31 : decode cX6_goodHours 31 = .ok (.if_icmp .ge 31, 3) := by decide +kernel
theorem dX6_goodHours_34 : decode cX6_goodHours 34 = .ok (.iload_n 3, 1) := by decide +kernel
theorem dX6_goodHours_35 : decode cX6_goodHours 35 = .ok (.aload_n 0, 1) := by decide +kernel
theorem dX6_goodHours_36 : decode cX6_goodHours 36 = .ok (.getfield 15, 3) := by decide +kernel
theorem dX6_goodHours_39 : decode cX6_goodHours 39 = .ok (.iload 4, 2) := by decide +kernel
theorem dX6_goodHours_41 : decode cX6_goodHours 41 = .ok (.laload, 1) := by decide +kernel
theorem dX6_goodHours_42 : decode cX6_goodHours 42 = .ok (.iload_n 2, 1) := by decide +kernel
theorem dX6_goodHours_43 : decode cX6_goodHours 43 = .ok (.invokestatic 97, 3) := by decide +kernel
theorem dX6_goodHours_46 : decode cX6_goodHours 46 = .ok (.ifCond .eq 7, 3) := by decide +kernel
theorem dX6_goodHours_49 : decode cX6_goodHours 49 = .ok (.iconst 1, 1) := by decide +kernel
theorem dX6_goodHours_50 : decode cX6_goodHours 50 = .ok (.goto 4, 3) := by decide +kernel
theorem dX6_goodHours_53 : decode cX6_goodHours 53 = .ok (.iconst 0, 1) := by decide +kernel
theorem dX6_goodHours_54 : decode cX6_goodHours 54 = .ok (.iadd, 1) := by decide +kernel
theorem dX6_goodHours_55 : decode cX6_goodHours 55 = .ok (.istore_n 3, 1) := by decide +kernel
theorem dX6_goodHours_56 : decode cX6_goodHours 56 = .ok (.iinc 4 1, 3) := by decide +kernel
theorem dX6_goodHours_59 : decode cX6_goodHours 59 = .ok (.goto (-34), 3) := by decide +kernel
theorem dX6_goodHours_62 : decode cX6_goodHours 62 = .ok (.iload_n 3, 1) := by decide +kernel
theorem dX6_goodHours_63 : decode cX6_goodHours 63 = .ok (.ireturn, 1) := by decide +kernel
theorem dX6_narrowTo_0 : decode cX6_narrowTo 0 = .ok (.iconst 0, 1) := by decide +kernel
theorem dX6_narrowTo_1 : decode cX6_narrowTo 1 = .ok (.istore_n 3, 1) := by decide +kernel
theorem dX6_narrowTo_2 : decode cX6_narrowTo 2 = .ok (.iload_n 3, 1) := by decide +kernel
theorem dX6_narrowTo_3 : decode cX6_narrowTo 3 = .ok (.aload_n 0, 1) := by decide +kernel
theorem dX6_narrowTo_4 : decode cX6_narrowTo 4 = .ok (.getfield 40, 3) := by decide +kernel
theorem dX6_narrowTo_7 : decode cX6_narrowTo 7 = .ok (.if_icmp .ge 38, 3) := by decide +kernel
theorem dX6_narrowTo_10 : decode cX6_narrowTo 10 = .ok (.aload_n 0, 1) := by decide +kernel
theorem dX6_narrowTo_11 : decode cX6_narrowTo 11 = .ok (.getfield 15, 3) := by decide +kernel
theorem dX6_narrowTo_14 : decode cX6_narrowTo 14 = .ok (.iload_n 3, 1) := by decide +kernel
theorem dX6_narrowTo_15 : decode cX6_narrowTo 15 = .ok (.iload_n 2, 1) := by decide +kernel
theorem dX6_narrowTo_16 : decode cX6_narrowTo 16 = .ok (.ifCond .eq 12, 3) := by decide +kernel
theorem dX6_narrowTo_19 : decode cX6_narrowTo 19 = .ok (.aload_n 0, 1) := by decide +kernel
theorem dX6_narrowTo_20 : decode cX6_narrowTo 20 = .ok (.getfield 9, 3) := by decide +kernel
theorem dX6_narrowTo_23 : decode cX6_narrowTo 23 = .ok (.iload_n 3, 1) := by decide +kernel
theorem dX6_narrowTo_24 : decode cX6_narrowTo 24 = .ok (.laload, 1) := by decide +kernel
theorem dX6_narrowTo_25 : decode cX6_narrowTo 25 = .ok (.goto 9, 3) := by decide +kernel
theorem dX6_narrowTo_28 : decode cX6_narrowTo 28 = .ok (.aload_n 0, 1) := by decide +kernel
theorem dX6_narrowTo_29 : decode cX6_narrowTo 29 = .ok (.getfield 15, 3) := by decide +kernel
theorem dX6_narrowTo_32 : decode cX6_narrowTo 32 = .ok (.iload_n 3, 1) := by decide +kernel
theorem dX6_narrowTo_33 : decode cX6_narrowTo 33 = .ok (.laload, 1) := by decide +kernel
theorem dX6_narrowTo_34 : decode cX6_narrowTo 34 = .ok (.lconst 1, 1) := by decide +kernel
theorem dX6_narrowTo_35 : decode cX6_narrowTo 35 = .ok (.iload_n 1, 1) := by decide +kernel
theorem dX6_narrowTo_36 : decode cX6_narrowTo 36 = .ok (.lshl, 1) := by decide +kernel
theorem dX6_narrowTo_37 : decode cX6_narrowTo 37 = .ok (.land, 1) := by decide +kernel
theorem dX6_narrowTo_38 : decode cX6_narrowTo 38 = .ok (.lastore, 1) := by decide +kernel
theorem dX6_narrowTo_39 : decode cX6_narrowTo 39 = .ok (.iinc 3 1, 3) := by decide +kernel
theorem dX6_narrowTo_42 : decode cX6_narrowTo 42 = .ok (.goto (-40), 3) := by decide +kernel
theorem dX6_narrowTo_45 : decode cX6_narrowTo 45 = .ok (.return_, 1) := by decide +kernel
theorem dX6_leadBack_0 : decode cX6_leadBack 0 = .ok (.iconst 1, 1) := by decide +kernel
theorem dX6_leadBack_1 : decode cX6_leadBack 1 = .ok (.istore_n 1, 1) := by decide +kernel
theorem dX6_leadBack_2 : decode cX6_leadBack 2 = .ok (.iconst 0, 1) := by decide +kernel
theorem dX6_leadBack_3 : decode cX6_leadBack 3 = .ok (.istore_n 2, 1) := by decide +kernel
theorem dX6_leadBack_4 : decode cX6_leadBack 4 = .ok (.iload_n 1, 1) := by decide +kernel
theorem dX6_leadBack_5 : decode cX6_leadBack 5 = .ok (.ifCond .eq 98, 3) := by decide +kernel
theorem dX6_leadBack_8 : decode cX6_leadBack 8 = .ok (.iload_n 2, 1) := by decide +kernel
theorem dX6_leadBack_9 : decode cX6_leadBack 9 = .ok (.sipush 3840, 3) := by decide +kernel
theorem dX6_leadBack_12 : decode cX6_leadBack 12 = .ok (.if_icmp .gt 91, 3) := by decide +kernel
theorem dX6_leadBack_15 : decode cX6_leadBack 15 = .ok (.iconst 0, 1) := by decide +kernel
theorem dX6_leadBack_16 : decode cX6_leadBack 16 = .ok (.istore_n 1, 1) := by decide +kernel
theorem dX6_leadBack_17 : decode cX6_leadBack 17 = .ok (.aload_n 0, 1) := by decide +kernel
theorem dX6_leadBack_18 : decode cX6_leadBack 18 = .ok (.getfield 40, 3) := by decide +kernel
theorem dX6_leadBack_21 : decode cX6_leadBack 21 = .ok (.iconst 1, 1) := by decide +kernel
theorem dX6_leadBack_22 : decode cX6_leadBack 22 = .ok (.isub, 1) := by decide +kernel
theorem dX6_leadBack_23 : decode cX6_leadBack 23 = .ok (.istore_n 3, 1) := by decide +kernel
theorem dX6_leadBack_24 : decode cX6_leadBack 24 = .ok (.iload_n 3, 1) := by decide +kernel
theorem dX6_leadBack_25 : decode cX6_leadBack 25 = .ok (.ifCond .lt 72, 3) := by decide +kernel
theorem dX6_leadBack_28 : decode cX6_leadBack 28 = .ok (.aload_n 0, 1) := by decide +kernel
theorem dX6_leadBack_29 : decode cX6_leadBack 29 = .ok (.getfield 15, 3) := by decide +kernel
theorem dX6_leadBack_32 : decode cX6_leadBack 32 = .ok (.iload_n 3, 1) := by decide +kernel
theorem dX6_leadBack_33 : decode cX6_leadBack 33 = .ok (.laload, 1) := by decide +kernel
theorem dX6_leadBack_34 : decode cX6_leadBack 34 = .ok (.aload_n 0, 1) := by decide +kernel
theorem dX6_leadBack_35 : decode cX6_leadBack 35 = .ok (.getfield 9, 3) := by decide +kernel
theorem dX6_leadBack_38 : decode cX6_leadBack 38 = .ok (.iload_n 3, 1) := by decide +kernel
theorem dX6_leadBack_39 : decode cX6_leadBack 39 = .ok (.laload, 1) := by decide +kernel
theorem dX6_leadBack_40 : decode cX6_leadBack 40 = .ok (.aload_n 0, 1) := by decide +kernel
theorem dX6_leadBack_41 : decode cX6_leadBack 41 = .ok (.getfield 18, 3) := by decide +kernel
theorem dX6_leadBack_44 : decode cX6_leadBack 44 = .ok (.aload_n 0, 1) := by decide +kernel
theorem dX6_leadBack_45 : decode cX6_leadBack 45 = .ok (.getfield 15, 3) := by decide +kernel
theorem dX6_leadBack_48 : decode cX6_leadBack 48 = .ok (.aload_n 0, 1) := by decide +kernel
theorem dX6_leadBack_49 : decode cX6_leadBack 49 = .ok (.iload_n 3, 1) := by decide +kernel
theorem dX6_leadBack_50 : decode cX6_leadBack 50 = .ok (.invokevirtual 118, 3) := by decide +kernel
theorem dX6_leadBack_53 : decode cX6_leadBack 53 = .ok (.laload, 1) := by decide +kernel
theorem dX6_leadBack_54 : decode cX6_leadBack 54 = .ok (.invokevirtual 135, 3) := by decide +kernel
theorem dX6_leadBack_57 : decode cX6_leadBack 57 = .ok (.land, 1) := by decide +kernel
theorem dX6_leadBack_58 : decode cX6_leadBack 58 = .ok (.lor, 1) := by decide +kernel
theorem dX6_leadBack_59 : decode cX6_leadBack 59 = .ok (.lstore 4, 2) := by decide +kernel
theorem dX6_leadBack_61 : decode cX6_leadBack 61 = .ok (.iload_n 1, 1) := by decide +kernel
theorem dX6_leadBack_62 : decode cX6_leadBack 62 = .ok (.ifCond .ne 15, 3) := by decide +kernel
theorem dX6_leadBack_65 : decode cX6_leadBack 65 = .ok (.lload 4, 2) := by decide +kernel
theorem dX6_leadBack_67 : decode cX6_leadBack 67 = .ok (.aload_n 0, 1) := by decide +kernel
theorem dX6_leadBack_68 : decode cX6_leadBack 68 = .ok (.getfield 15, 3) := by decide +kernel
theorem dX6_leadBack_71 : decode cX6_leadBack 71 = .ok (.iload_n 3, 1) := by decide +kernel
theorem dX6_leadBack_72 : decode cX6_leadBack 72 = .ok (.laload, 1) := by decide +kernel
theorem dX6_leadBack_73 : decode cX6_leadBack 73 = .ok (.lcmp, 1) := by decide +kernel
theorem dX6_leadBack_74 : decode cX6_leadBack 74 = .ok (.ifCond .eq 7, 3) := by decide +kernel
theorem dX6_leadBack_77 : decode cX6_leadBack 77 = .ok (.iconst 1, 1) := by decide +kernel
theorem dX6_leadBack_78 : decode cX6_leadBack 78 = .ok (.goto 4, 3) := by decide +kernel
theorem dX6_leadBack_81 : decode cX6_leadBack 81 = .ok (.iconst 0, 1) := by decide +kernel
theorem dX6_leadBack_82 : decode cX6_leadBack 82 = .ok (.istore_n 1, 1) := by decide +kernel
theorem dX6_leadBack_83 : decode cX6_leadBack 83 = .ok (.aload_n 0, 1) := by decide +kernel
theorem dX6_leadBack_84 : decode cX6_leadBack 84 = .ok (.getfield 15, 3) := by decide +kernel
theorem dX6_leadBack_87 : decode cX6_leadBack 87 = .ok (.iload_n 3, 1) := by decide +kernel
theorem dX6_leadBack_88 : decode cX6_leadBack 88 = .ok (.lload 4, 2) := by decide +kernel
theorem dX6_leadBack_90 : decode cX6_leadBack 90 = .ok (.lastore, 1) := by decide +kernel
theorem dX6_leadBack_91 : decode cX6_leadBack 91 = .ok (.iinc 3 (-1), 3) := by decide +kernel
theorem dX6_leadBack_94 : decode cX6_leadBack 94 = .ok (.goto (-70), 3) := by decide +kernel
theorem dX6_leadBack_97 : decode cX6_leadBack 97 = .ok (.iinc 2 1, 3) := by decide +kernel
theorem dX6_leadBack_100 : decode cX6_leadBack 100 = .ok (.goto (-96), 3) := by decide +kernel
theorem dX6_leadBack_103 : decode cX6_leadBack 103 = .ok (.return_, 1) := by decide +kernel
theorem dX7_init_0 : decode cX7_init 0 = .ok (.aload_n 0, 1) := by decide +kernel
theorem dX7_init_1 : decode cX7_init 1 = .ok (.invokespecial 3, 3) := by decide +kernel
theorem dX7_init_4 : decode cX7_init 4 = .ok (.aload_n 0, 1) := by decide +kernel
theorem dX7_init_5 : decode cX7_init 5 = .ok (.aload_n 1, 1) := by decide +kernel
theorem dX7_init_6 : decode cX7_init 6 = .ok (.putfield 9, 3) := by decide +kernel
theorem dX7_init_9 : decode cX7_init 9 = .ok (.aload_n 0, 1) := by decide +kernel
theorem dX7_init_10 : decode cX7_init 10 = .ok (.aload_n 2, 1) := by decide +kernel
theorem dX7_init_11 : decode cX7_init 11 = .ok (.putfield 15, 3) := by decide +kernel
theorem dX7_init_14 : decode cX7_init 14 = .ok (.aload_n 0, 1) := by decide +kernel
theorem dX7_init_15 : decode cX7_init 15 = .ok (.aload_n 3, 1) := by decide +kernel
theorem dX7_init_16 : decode cX7_init 16 = .ok (.putfield 19, 3) := by decide +kernel
theorem dX7_init_19 : decode cX7_init 19 = .ok (.return_, 1) := by decide +kernel
theorem dX7_lengthFrom_0 : decode cX7_lengthFrom 0 = .ok (.aload_n 0, 1) := by decide +kernel
theorem dX7_lengthFrom_1 : decode cX7_lengthFrom 1 = .ok (.getfield 19, 3) := by decide +kernel
theorem dX7_lengthFrom_4 : decode cX7_lengthFrom 4 = .ok (.aload_n 0, 1) := by decide +kernel
theorem dX7_lengthFrom_5 : decode cX7_lengthFrom 5 = .ok (.iload_n 1, 1) := by decide +kernel
theorem dX7_lengthFrom_6 : decode cX7_lengthFrom 6 = .ok (.invokevirtual 23, 3) := by decide +kernel
theorem dX7_lengthFrom_9 : decode cX7_lengthFrom 9 = .ok (.invokevirtual 27, 3) := by decide +kernel
theorem dX7_lengthFrom_12 : decode cX7_lengthFrom 12 = .ok (.ireturn, 1) := by decide +kernel
theorem dX7_moveFrom_0 : decode cX7_moveFrom 0 = .ok (.aload_n 0, 1) := by decide +kernel
theorem dX7_moveFrom_1 : decode cX7_moveFrom 1 = .ok (.getfield 19, 3) := by decide +kernel
theorem dX7_moveFrom_4 : decode cX7_moveFrom 4 = .ok (.aload_n 0, 1) := by decide +kernel
theorem dX7_moveFrom_5 : decode cX7_moveFrom 5 = .ok (.iload_n 1, 1) := by decide +kernel
theorem dX7_moveFrom_6 : decode cX7_moveFrom 6 = .ok (.invokevirtual 23, 3) := by decide +kernel
theorem dX7_moveFrom_9 : decode cX7_moveFrom 9 = .ok (.iload_n 2, 1) := by decide +kernel
theorem dX7_moveFrom_10 : decode cX7_moveFrom 10 = .ok (.invokevirtual 32, 3) := by decide +kernel
theorem dX7_moveFrom_13 : decode cX7_moveFrom 13 = .ok (.ireturn, 1) := by decide +kernel
theorem dX7_search_0 : decode cX7_search 0 = .ok (.aload_n 0, 1) := by decide +kernel
theorem dX7_search_1 : decode cX7_search 1 = .ok (.getfield 19, 3) := by decide +kernel
theorem dX7_search_4 : decode cX7_search 4 = .ok (.invokevirtual 36, 3) := by decide +kernel
theorem dX7_search_7 : decode cX7_search 7 = .ok (.aload_n 0, 1) := by decide +kernel
theorem dX7_search_8 : decode cX7_search 8 = .ok (.getfield 19, 3) := by decide +kernel
theorem dX7_search_11 : decode cX7_search 11 = .ok (.aload_n 0, 1) := by decide +kernel
theorem dX7_search_12 : decode cX7_search 12 = .ok (.getfield 15, 3) := by decide +kernel
theorem dX7_search_15 : decode cX7_search 15 = .ok (.iload_n 1, 1) := by decide +kernel
theorem dX7_search_16 : decode cX7_search 16 = .ok (.invokevirtual 39, 3) := by decide +kernel
theorem dX7_search_19 : decode cX7_search 19 = .ok (.iload_n 1, 1) := by decide +kernel
theorem dX7_search_20 : decode cX7_search 20 = .ok (.iconst 4, 1) := by decide +kernel
theorem dX7_search_21 : decode cX7_search 21 = .ok (.iconst 0, 1) := by decide +kernel
theorem dX7_search_22 : decode cX7_search 22 = .ok (.invokevirtual 44, 3) := by decide +kernel
theorem dX7_search_25 : decode cX7_search 25 = .ok (.iconst 0, 1) := by decide +kernel
theorem dX7_search_26 : decode cX7_search 26 = .ok (.istore_n 2, 1) := by decide +kernel
theorem dX7_search_27 : decode cX7_search 27 = .ok (.iload_n 2, 1) := by decide +kernel
theorem dX7_search_28 : decode cX7_search 28 = .ok (.sipush 16384, 3) := by decide +kernel
theorem dX7_search_31 : decode cX7_search 31 = .ok (.if_icmp .ge 115, 3) := by decide +kernel
theorem dX7_search_34 : decode cX7_search 34 = .ok (.iload_n 2, 1) := by decide +kernel
theorem dX7_search_35 : decode cX7_search 35 = .ok (.aload_n 0, 1) := by decide +kernel
theorem dX7_search_36 : decode cX7_search 36 = .ok (.getfield 19, 3) := by decide +kernel
theorem dX7_search_39 : decode cX7_search 39 = .ok (.invokevirtual 48, 3) := by decide +kernel
theorem dX7_search_42 : decode cX7_search 42 = .ok (.if_icmp .ge 104, 3) := by decide +kernel
theorem dX7_search_45 : decode cX7_search 45 = .ok (.aload_n 0, 1) := by decide +kernel
theorem dX7_search_46 : decode cX7_search 46 = .ok (.getfield 19, 3) := by decide +kernel
theorem dX7_search_49 : decode cX7_search 49 = .ok (.iload_n 2, 1) := by decide +kernel
theorem dX7_search_50 : decode cX7_search 50 = .ok (.invokevirtual 52, 3) := by decide +kernel
theorem dX7_search_53 : decode cX7_search 53 = .ok (.istore_n 3, 1) := by decide +kernel
theorem dX7_search_54 : decode cX7_search 54 = .ok (.aload_n 0, 1) := by decide +kernel
theorem dX7_search_55 : decode cX7_search 55 = .ok (.getfield 19, 3) := by decide +kernel
theorem dX7_search_58 : decode cX7_search 58 = .ok (.iload_n 2, 1) := by decide +kernel
theorem dX7_search_59 : decode cX7_search 59 = .ok (.invokevirtual 55, 3) := by decide +kernel
theorem dX7_search_62 : decode cX7_search 62 = .ok (.istore 4, 2) := by decide +kernel
theorem dX7_search_64 : decode cX7_search 64 = .ok (.iload_n 3, 1) := by decide +kernel
theorem dX7_search_65 : decode cX7_search 65 = .ok (.iload_n 1, 1) := by decide +kernel
theorem dX7_search_66 : decode cX7_search 66 = .ok (.if_icmp .ne 17, 3) := by decide +kernel
theorem dX7_search_69 : decode cX7_search 69 = .ok (.iload 4, 2) := by decide +kernel
theorem dX7_search_71 : decode cX7_search 71 = .ok (.aload_n 0, 1) := by decide +kernel
theorem dX7_search_72 : decode cX7_search 72 = .ok (.getfield 15, 3) := by decide +kernel
theorem dX7_search_75 : decode cX7_search 75 = .ok (.invokevirtual 58, 3) := by decide +kernel
theorem dX7_search_78 : decode cX7_search 78 = .ok (.if_icmp .ne 5, 3) := by decide +kernel
theorem dX7_search_81 : decode cX7_search 81 = .ok (.iload_n 2, 1) := by decide +kernel
theorem dX7_search_82 : decode cX7_search 82 = .ok (.ireturn, 1) := by decide +kernel
theorem dX7_search_83 : decode cX7_search 83 = .ok (.iconst 0, 1) := by decide +kernel
theorem dX7_search_84 : decode cX7_search 84 = .ok (.istore 5, 2) := by decide +kernel
theorem dX7_search_86 : decode cX7_search 86 = .ok (.iload 5, 2) := by decide +kernel
theorem dX7_search_88 : decode cX7_search 88 = .ok (.iconst 4, 1) := by decide +kernel
theorem dX7_search_89 : decode cX7_search 89 = .ok (.if_icmp .ge 51, 3) := by decide +kernel
theorem dX7_search_92 : decode cX7_search 92 = .ok (.aload_n 0, 1) := by decide +kernel
theorem dX7_search_93 : decode cX7_search 93 = .ok (.getfield 9, 3) := by decide +kernel
theorem dX7_search_96 : decode cX7_search 96 = .ok (.iload_n 3, 1) := by decide +kernel
theorem dX7_search_97 : decode cX7_search 97 = .ok (.iload 5, 2) := by decide +kernel
theorem dX7_search_99 : decode cX7_search 99 = .ok (.invokevirtual 61, 3) := by decide +kernel
theorem dX7_search_102 : decode cX7_search 102 = .ok (.istore 6, 2) := by decide +kernel
theorem dX7_search_104 : decode cX7_search 104 = .ok (.iload 6, 2) := by decide +kernel
theorem dX7_search_106 : decode cX7_search 106 = .ok (.iconst (-1), 1) := by decide +kernel
theorem dX7_search_107 : decode cX7_search 107 = .ok (.if_icmp .eq 27, 3) := by decide +kernel
theorem dX7_search_110 : decode cX7_search 110 = .ok (.aload_n 0, 1) := by decide +kernel
theorem dX7_search_111 : decode cX7_search 111 = .ok (.getfield 19, 3) := by decide +kernel
theorem dX7_search_114 : decode cX7_search 114 = .ok (.iload 4, 2) := by decide +kernel
theorem dX7_search_116 : decode cX7_search 116 = .ok (.aload_n 0, 1) := by decide +kernel
theorem dX7_search_117 : decode cX7_search 117 = .ok (.getfield 15, 3) := by decide +kernel
theorem dX7_search_120 : decode cX7_search 120 = .ok (.iload 6, 2) := by decide +kernel
theorem dX7_search_122 : decode cX7_search 122 = .ok (.invokevirtual 39, 3) := by decide +kernel
theorem dX7_search_125 : decode cX7_search 125 = .ok (.ior, 1) := by decide +kernel
theorem dX7_search_126 : decode cX7_search 126 = .ok (.iload 6, 2) := by decide +kernel
theorem dX7_search_128 : decode cX7_search 128 = .ok (.iload 5, 2) := by decide +kernel
theorem dX7_search_130 : decode cX7_search 130 = .ok (.iload_n 2, 1) := by decide +kernel
theorem dX7_search_131 : decode cX7_search 131 = .ok (.invokevirtual 44, 3) := by decide +kernel
theorem dX7_search_134 : decode cX7_search 134 = .ok (.iinc 5 1, 3) := by decide +kernel
theorem dX7_search_137 : decode cX7_search 137 = .ok (.goto (-51), 3) := by decide +kernel
theorem dX7_search_140 : decode cX7_search 140 = .ok (.iinc 2 1, 3) := by decide +kernel
theorem dX7_search_143 : decode cX7_search 143 = .ok (.goto (-116), 3) := by decide +kernel
theorem dX7_search_146 : decode cX7_search 146 = .ok (.iconst (-1), 1) := by decide +kernel
theorem dX7_search_147 : decode cX7_search 147 = .ok (.ireturn, 1) := by decide +kernel
theorem dX8_init_0 : decode cX8_init 0 = .ok (.aload_n 0, 1) := by decide +kernel
theorem dX8_init_1 : decode cX8_init 1 = .ok (.invokespecial 3, 3) := by decide +kernel
theorem dX8_init_4 : decode cX8_init 4 = .ok (.aload_n 0, 1) := by decide +kernel
theorem dX8_init_5 : decode cX8_init 5 = .ok (.sipush 16384, 3) := by decide +kernel
theorem dX8_init_8 : decode cX8_init 8 = .ok (.newarray .int, 2) := by decide +kernel
theorem dX8_init_10 : decode cX8_init 10 = .ok (.putfield 9, 3) := by decide +kernel
theorem dX8_init_13 : decode cX8_init 13 = .ok (.aload_n 0, 1) := by decide +kernel
theorem dX8_init_14 : decode cX8_init 14 = .ok (.sipush 256, 3) := by decide +kernel
theorem dX8_init_17 : decode cX8_init 17 = .ok (.newarray .long, 2) := by decide +kernel
theorem dX8_init_19 : decode cX8_init 19 = .ok (.putfield 15, 3) := by decide +kernel
theorem dX8_init_22 : decode cX8_init 22 = .ok (.return_, 1) := by decide +kernel
theorem dX8_clear_0 : decode cX8_clear 0 = .ok (.aload_n 0, 1) := by decide +kernel
theorem dX8_clear_1 : decode cX8_clear 1 = .ok (.getfield 15, 3) := by decide +kernel
theorem dX8_clear_4 : decode cX8_clear 4 = .ok (.lconst 0, 1) := by decide +kernel
theorem dX8_clear_5 : decode cX8_clear 5 = .ok (.invokestatic 19, 3) := by decide +kernel
theorem dX8_clear_8 : decode cX8_clear 8 = .ok (.aload_n 0, 1) := by decide +kernel
theorem dX8_clear_9 : decode cX8_clear 9 = .ok (.iconst 0, 1) := by decide +kernel
theorem dX8_clear_10 : decode cX8_clear 10 = .ok (.putfield 25, 3) := by decide +kernel
theorem dX8_clear_13 : decode cX8_clear 13 = .ok (.return_, 1) := by decide +kernel
theorem dX8_size_0 : decode cX8_size 0 = .ok (.aload_n 0, 1) := by decide +kernel
theorem dX8_size_1 : decode cX8_size 1 = .ok (.getfield 25, 3) := by decide +kernel
theorem dX8_size_4 : decode cX8_size 4 = .ok (.ireturn, 1) := by decide +kernel
theorem dX8_visit_0 : decode cX8_visit 0 = .ok (.aload_n 0, 1) := by decide +kernel
theorem dX8_visit_1 : decode cX8_visit 1 = .ok (.getfield 15, 3) := by decide +kernel
theorem dX8_visit_4 : decode cX8_visit 4 = .ok (.iload_n 1, 1) := by decide +kernel
theorem dX8_visit_5 : decode cX8_visit 5 = .ok (.laload, 1) := by decide +kernel
theorem dX8_visit_6 : decode cX8_visit 6 = .ok (.iload_n 2, 1) := by decide +kernel
theorem dX8_visit_7 : decode cX8_visit 7 = .ok (.invokestatic 29, 3) := by decide +kernel
theorem dX8_visit_10 : decode cX8_visit 10 = .ok (.ifCond .ne 13, 3) := by decide +kernel
theorem dX8_visit_13 : decode cX8_visit 13 = .ok (.aload_n 0, 1) := by decide +kernel
theorem dX8_visit_14 : decode cX8_visit 14 = .ok (.getfield 25, 3) := by decide +kernel
theorem dX8_visit_17 : decode cX8_visit 17 = .ok (.sipush 16384, 3) := by decide +kernel
theorem dX8_visit_20 : decode cX8_visit 20 = .ok (.if_icmp .lt 4, 3) := by decide +kernel
theorem dX8_visit_23 : decode cX8_visit 23 = .ok (.return_, 1) := by decide +kernel
theorem dX8_visit_24 : decode cX8_visit 24 = .ok (.aload_n 0, 1) := by decide +kernel
theorem dX8_visit_25 : decode cX8_visit 25 = .ok (.getfield 15, 3) := by decide +kernel
theorem dX8_visit_28 : decode cX8_visit 28 = .ok (.iload_n 1, 1) := by decide +kernel
theorem dX8_visit_29 : decode cX8_visit 29 = .ok (.dup2, 1) := by decide +kernel
theorem dX8_visit_30 : decode cX8_visit 30 = .ok (.laload, 1) := by decide +kernel
theorem dX8_visit_31 : decode cX8_visit 31 = .ok (.lconst 1, 1) := by decide +kernel
theorem dX8_visit_32 : decode cX8_visit 32 = .ok (.iload_n 2, 1) := by decide +kernel
theorem dX8_visit_33 : decode cX8_visit 33 = .ok (.lshl, 1) := by decide +kernel
theorem dX8_visit_34 : decode cX8_visit 34 = .ok (.lor, 1) := by decide +kernel
theorem dX8_visit_35 : decode cX8_visit 35 = .ok (.lastore, 1) := by decide +kernel
theorem dX8_visit_36 : decode cX8_visit 36 = .ok (.aload_n 0, 1) := by decide +kernel
theorem dX8_visit_37 : decode cX8_visit 37 = .ok (.getfield 9, 3) := by decide +kernel
theorem dX8_visit_40 : decode cX8_visit 40 = .ok (.aload_n 0, 1) := by decide +kernel
theorem dX8_visit_41 : decode cX8_visit 41 = .ok (.getfield 25, 3) := by decide +kernel
theorem dX8_visit_44 : decode cX8_visit 44 = .ok (.iload 4, 2) := by decide +kernel
theorem dX8_visit_46 : decode cX8_visit 46 = .ok (.bipush 17, 2) := by decide +kernel
theorem dX8_visit_48 : decode cX8_visit 48 = .ok (.ishl, 1) := by decide +kernel
theorem dX8_visit_49 : decode cX8_visit 49 = .ok (.iload_n 3, 1) := by decide +kernel
theorem dX8_visit_50 : decode cX8_visit 50 = .ok (.bipush 14, 2) := by decide +kernel
theorem dX8_visit_52 : decode cX8_visit 52 = .ok (.ishl, 1) := by decide +kernel
theorem dX8_visit_53 : decode cX8_visit 53 = .ok (.ior, 1) := by decide +kernel
