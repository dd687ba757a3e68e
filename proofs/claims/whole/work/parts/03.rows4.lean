theorem dX10_tour_0 : decode cX10_tour 0 = .ok (.aload_n 0, 1) := by decide +kernel
theorem dX10_tour_1 : decode cX10_tour 1 = .ok (.iload_n 1, 1) := by decide +kernel
theorem dX10_tour_2 : decode cX10_tour 2 = .ok (.invokevirtual 144, 3) := by decide +kernel
theorem dX10_tour_5 : decode cX10_tour 5 = .ok (.istore_n 2, 1) := by decide +kernel
theorem dX10_tour_6 : decode cX10_tour 6 = .ok (.iload_n 2, 1) := by decide +kernel
theorem dX10_tour_7 : decode cX10_tour 7 = .ok (.ifCond .ge 5, 3) := by decide +kernel
theorem dX10_tour_10 : decode cX10_tour 10 = .ok (.iload_n 2, 1) := by decide +kernel
theorem dX10_tour_11 : decode cX10_tour 11 = .ok (.ireturn, 1) := by decide +kernel
theorem dX10_tour_12 : decode cX10_tour 12 = .ok (.aload_n 0, 1) := by decide +kernel
theorem dX10_tour_13 : decode cX10_tour 13 = .ok (.iload_n 1, 1) := by decide +kernel
theorem dX10_tour_14 : decode cX10_tour 14 = .ok (.invokevirtual 147, 3) := by decide +kernel
theorem dX10_tour_17 : decode cX10_tour 17 = .ok (.aload_n 0, 1) := by decide +kernel
theorem dX10_tour_18 : decode cX10_tour 18 = .ok (.getfield 42, 3) := by decide +kernel
theorem dX10_tour_21 : decode cX10_tour 21 = .ok (.sipush 256, 3) := by decide +kernel
theorem dX10_tour_24 : decode cX10_tour 24 = .ok (.iload_n 1, 1) := by decide +kernel
theorem dX10_tour_25 : decode cX10_tour 25 = .ok (.imul, 1) := by decide +kernel
theorem dX10_tour_26 : decode cX10_tour 26 = .ok (.aload_n 0, 1) := by decide +kernel
theorem dX10_tour_27 : decode cX10_tour 27 = .ok (.getfield 33, 3) := by decide +kernel
theorem dX10_tour_30 : decode cX10_tour 30 = .ok (.iload_n 1, 1) := by decide +kernel
theorem dX10_tour_31 : decode cX10_tour 31 = .ok (.iaload, 1) := by decide +kernel
theorem dX10_tour_32 : decode cX10_tour 32 = .ok (.iadd, 1) := by decide +kernel
theorem dX10_tour_33 : decode cX10_tour 33 = .ok (.iaload, 1) := by decide +kernel
theorem dX10_tour_34 : decode cX10_tour 34 = .ok (.ireturn, 1) := by decide +kernel
theorem dX10_tourStep_0 : decode cX10_tourStep 0 = .ok (.aload_n 0, 1) := by decide +kernel
theorem dX10_tourStep_1 : decode cX10_tourStep 1 = .ok (.iload_n 1, 1) := by decide +kernel
theorem dX10_tourStep_2 : decode cX10_tourStep 2 = .ok (.invokevirtual 144, 3) := by decide +kernel
theorem dX10_tourStep_5 : decode cX10_tourStep 5 = .ok (.istore_n 3, 1) := by decide +kernel
theorem dX10_tourStep_6 : decode cX10_tourStep 6 = .ok (.iload_n 3, 1) := by decide +kernel
theorem dX10_tourStep_7 : decode cX10_tourStep 7 = .ok (.ifCond .ge 5, 3) := by decide +kernel
theorem dX10_tourStep_10 : decode cX10_tourStep 10 = .ok (.iload_n 3, 1) := by decide +kernel
theorem dX10_tourStep_11 : decode cX10_tourStep 11 = .ok (.ireturn, 1) := by decide +kernel
theorem dX10_tourStep_12 : decode cX10_tourStep 12 = .ok (.aload_n 0, 1) := by decide +kernel
theorem dX10_tourStep_13 : decode cX10_tourStep 13 = .ok (.iload_n 1, 1) := by decide +kernel
theorem dX10_tourStep_14 : decode cX10_tourStep 14 = .ok (.invokevirtual 147, 3) := by decide +kernel
theorem dX10_tourStep_17 : decode cX10_tourStep 17 = .ok (.sipush 256, 3) := by decide +kernel
theorem dX10_tourStep_20 : decode cX10_tourStep 20 = .ok (.iload_n 1, 1) := by decide +kernel
theorem dX10_tourStep_21 : decode cX10_tourStep 21 = .ok (.imul, 1) := by decide +kernel
theorem dX10_tourStep_22 : decode cX10_tourStep 22 = .ok (.aload_n 0, 1) := by decide +kernel
theorem dX10_tourStep_23 : decode cX10_tourStep 23 = .ok (.getfield 33, 3) := by decide +kernel
theorem dX10_tourStep_26 : decode cX10_tourStep 26 = .ok (.iload_n 1, 1) := by decide +kernel
theorem dX10_tourStep_27 : decode cX10_tourStep 27 = .ok (.iaload, 1) := by decide +kernel
theorem dX10_tourStep_28 : decode cX10_tourStep 28 = .ok (.iadd, 1) := by decide +kernel
theorem dX10_tourStep_29 : decode cX10_tourStep 29 = .ok (.istore 4, 2) := by decide +kernel
theorem dX10_tourStep_31 : decode cX10_tourStep 31 = .ok (.aload_n 0, 1) := by decide +kernel
theorem dX10_tourStep_32 : decode cX10_tourStep 32 = .ok (.getfield 42, 3) := by decide +kernel
theorem dX10_tourStep_35 : decode cX10_tourStep 35 = .ok (.iload 4, 2) := by decide +kernel
theorem dX10_tourStep_37 : decode cX10_tourStep 37 = .ok (.iaload, 1) := by decide +kernel
theorem dX10_tourStep_38 : decode cX10_tourStep 38 = .ok (.bipush (-9), 2) := by decide +kernel
theorem dX10_tourStep_40 : decode cX10_tourStep 40 = .ok (.if_icmp .eq 22, 3) := by decide +kernel
theorem dX10_tourStep_43 : decode cX10_tourStep 43 = .ok (.iload_n 2, 1) := by decide +kernel
theorem dX10_tourStep_44 : decode cX10_tourStep 44 = .ok (.i2l, 1) := by decide +kernel
theorem dX10_tourStep_45 : decode cX10_tourStep 45 = .ok (.lconst 0, 1) := by decide +kernel
theorem dX10_tourStep_46 : decode cX10_tourStep 46 = .ok (.aload_n 0, 1) := by decide +kernel
theorem dX10_tourStep_47 : decode cX10_tourStep 47 = .ok (.getfield 42, 3) := by decide +kernel
theorem dX10_tourStep_50 : decode cX10_tourStep 50 = .ok (.iload 4, 2) := by decide +kernel
theorem dX10_tourStep_52 : decode cX10_tourStep 52 = .ok (.iaload, 1) := by decide +kernel
theorem dX10_tourStep_53 : decode cX10_tourStep 53 = .ok (.iconst 1, 1) := by decide +kernel
theorem dX10_tourStep_54 : decode cX10_tourStep 54 = .ok (.isub, 1) := by decide +kernel
theorem dX10_tourStep_55 : decode cX10_tourStep 55 = .ok (.i2l, 1) := by decide +kernel
theorem dX10_tourStep_56 : decode cX10_tourStep 56 = .ok (.invokestatic 77, 3) := by decide +kernel
theorem dX10_tourStep_59 : decode cX10_tourStep 59 = .ok (.ifCond .ne 6, 3) := by decide +kernel
theorem dX10_tourStep_62 : decode cX10_tourStep 62 = .ok (.bipush (-9), 2) := by decide +kernel
theorem dX10_tourStep_64 : decode cX10_tourStep 64 = .ok (.ireturn, 1) := by decide +kernel
theorem dX10_tourStep_65 : decode cX10_tourStep 65 = .ok (.bipush (-9), 2) := by decide +kernel
theorem dX10_tourStep_67 : decode cX10_tourStep 67 = .ok (.istore 5, 2) := by decide +kernel
theorem dX10_tourStep_69 : decode cX10_tourStep 69 = .ok (.iconst 0, 1) := by decide +kernel
theorem dX10_tourStep_70 : decode cX10_tourStep 70 = .ok (.istore 6, 2) := by decide +kernel
theorem dX10_tourStep_72 : decode cX10_tourStep 72 = .ok (.iload 6, 2) := by decide +kernel
theorem dX10_tourStep_74 : decode cX10_tourStep 74 = .ok (.iload_n 2, 1) := by decide +kernel
theorem dX10_tourStep_75 : decode cX10_tourStep 75 = .ok (.if_icmp .gt 66, 3) := by decide +kernel
theorem dX10_tourStep_78 : decode cX10_tourStep 78 = .ok (.iconst 0, 1) := by decide +kernel
theorem dX10_tourStep_79 : decode cX10_tourStep 79 = .ok (.istore 5, 2) := by decide +kernel
theorem dX10_tourStep_81 : decode cX10_tourStep 81 = .ok (.aload_n 0, 1) := by decide +kernel
theorem dX10_tourStep_82 : decode cX10_tourStep 82 = .ok (.iload 4, 2) := by decide +kernel
theorem dX10_tourStep_84 : decode cX10_tourStep 84 = .ok (.iload 5, 2) := by decide +kernel
theorem dX10_tourStep_86 : decode cX10_tourStep 86 = .ok (.invokevirtual 150, 3) := by decide +kernel
theorem dX10_tourStep_89 : decode cX10_tourStep 89 = .ok (.ifCond .ne 9, 3) := by decide +kernel
theorem dX10_tourStep_92 : decode cX10_tourStep 92 = .ok (.iinc 5 1, 3) := by decide +kernel
theorem dX10_tourStep_95 : decode cX10_tourStep 95 = .ok (.goto (-14), 3) := by decide +kernel
theorem dX10_tourStep_98 : decode cX10_tourStep 98 = .ok (.aload_n 0, 1) := by decide +kernel
theorem dX10_tourStep_99 : decode cX10_tourStep 99 = .ok (.iload 4, 2) := by decide +kernel
theorem dX10_tourStep_101 : decode cX10_tourStep 101 = .ok (.sipush 256, 3) := by decide +kernel
theorem dX10_tourStep_104 : decode cX10_tourStep 104 = .ok (.idiv, 1) := by decide +kernel
theorem dX10_tourStep_105 : decode cX10_tourStep 105 = .ok (.iload 5, 2) := by decide +kernel
theorem dX10_tourStep_107 : decode cX10_tourStep 107 = .ok (.invokevirtual 94, 3) := by decide +kernel
theorem dX10_tourStep_110 : decode cX10_tourStep 110 = .ok (.istore 7, 2) := by decide +kernel
theorem dX10_tourStep_112 : decode cX10_tourStep 112 = .ok (.sipush 256, 3) := by decide +kernel
theorem dX10_tourStep_115 : decode cX10_tourStep 115 = .ok (.iload 7, 2) := by decide +kernel
theorem dX10_tourStep_117 : decode cX10_tourStep 117 = .ok (.imul, 1) := by decide +kernel
theorem dX10_tourStep_118 : decode cX10_tourStep 118 = .ok (.iload 4, 2) := by decide +kernel
theorem dX10_tourStep_120 : decode cX10_tourStep 120 = .ok (.sipush 256, 3) := by decide +kernel
theorem dX10_tourStep_123 : decode cX10_tourStep 123 = .ok (.irem, 1) := by decide +kernel
theorem dX10_tourStep_124 : decode cX10_tourStep 124 = .ok (.aload_n 0, 1) := by decide +kernel
theorem dX10_tourStep_125 : decode cX10_tourStep 125 = .ok (.getfield 33, 3) := by decide +kernel
theorem dX10_tourStep_128 : decode cX10_tourStep 128 = .ok (.iload 7, 2) := by decide +kernel
theorem dX10_tourStep_130 : decode cX10_tourStep 130 = .ok (.iaload, 1) := by decide +kernel
theorem dX10_tourStep_131 : decode cX10_tourStep 131 = .ok (.ior, 1) := by decide +kernel
theorem dX10_tourStep_132 : decode cX10_tourStep 132 = .ok (.iadd, 1) := by decide +kernel
theorem dX10_tourStep_133 : decode cX10_tourStep 133 = .ok (.istore 4, 2) := by decide +kernel
theorem dX10_tourStep_135 : decode cX10_tourStep 135 = .ok (.iinc 6 1, 3) := by decide +kernel
theorem dX10_tourStep_138 : decode cX10_tourStep 138 = .ok (.goto (-66), 3) := by decide +kernel
theorem dX10_tourStep_141 : decode cX10_tourStep 141 = .ok (.iload 5, 2) := by decide +kernel
theorem dX10_tourStep_143 : decode cX10_tourStep 143 = .ok (.ireturn, 1) := by decide +kernel
theorem dX10_isNearer_0 : decode cX10_isNearer 0 = .ok (.aload_n 0, 1) := by decide +kernel
theorem dX10_isNearer_1 : decode cX10_isNearer 1 = .ok (.iload_n 1, 1) := by decide +kernel
theorem dX10_isNearer_2 : decode cX10_isNearer 2 = .ok (.sipush 256, 3) := by decide +kernel
theorem dX10_isNearer_5 : decode cX10_isNearer 5 = .ok (.idiv, 1) := by decide +kernel
theorem dX10_isNearer_6 : decode cX10_isNearer 6 = .ok (.iload_n 2, 1) := by decide +kernel
theorem dX10_isNearer_7 : decode cX10_isNearer 7 = .ok (.invokevirtual 94, 3) := by decide +kernel
theorem dX10_isNearer_10 : decode cX10_isNearer 10 = .ok (.istore_n 3, 1) := by decide +kernel
theorem dX10_isNearer_11 : decode cX10_isNearer 11 = .ok (.iload_n 3, 1) := by decide +kernel
theorem dX10_isNearer_12 : decode cX10_isNearer 12 = .ok (.bipush (-9), 2) := by decide +kernel
theorem dX10_isNearer_14 : decode cX10_isNearer 14 = .ok (.if_icmp .eq 41, 3) := by decide +kernel
theorem dX10_isNearer_17 : decode cX10_isNearer 17 = .ok (.aload_n 0, 1) := by decide +kernel
theorem dX10_isNearer_18 : decode cX10_isNearer 18 = .ok (.getfield 42, 3) := by decide +kernel
theorem dX10_isNearer_21 : decode cX10_isNearer 21 = .ok (.sipush 256, 3) := by decide +kernel
theorem dX10_isNearer_24 : decode cX10_isNearer 24 = .ok (.iload_n 3, 1) := by decide +kernel
theorem dX10_isNearer_25 : decode cX10_isNearer 25 = .ok (.imul, 1) := by decide +kernel
theorem dX10_isNearer_26 : decode cX10_isNearer 26 = .ok (.iload_n 1, 1) := by decide +kernel
theorem dX10_isNearer_27 : decode cX10_isNearer 27 = .ok (.sipush 256, 3) := by decide +kernel
theorem dX10_isNearer_30 : decode cX10_isNearer 30 = .ok (.irem, 1) := by decide +kernel
theorem dX10_isNearer_31 : decode cX10_isNearer 31 = .ok (.aload_n 0, 1) := by decide +kernel
theorem dX10_isNearer_32 : decode cX10_isNearer 32 = .ok (.getfield 33, 3) := by decide +kernel
theorem dX10_isNearer_35 : decode cX10_isNearer 35 = .ok (.iload_n 3, 1) := by decide +kernel
theorem dX10_isNearer_36 : decode cX10_isNearer 36 = .ok (.iaload, 1) := by decide +kernel
theorem dX10_isNearer_37 : decode cX10_isNearer 37 = .ok (.ior, 1) := by decide +kernel
theorem dX10_isNearer_38 : decode cX10_isNearer 38 = .ok (.iadd, 1) := by decide +kernel
theorem dX10_isNearer_39 : decode cX10_isNearer 39 = .ok (.iaload, 1) := by decide +kernel
theorem dX10_isNearer_40 : decode cX10_isNearer 40 = .ok (.aload_n 0, 1) := by decide +kernel
theorem dX10_isNearer_41 : decode cX10_isNearer 41 = .ok (.getfield 42, 3) := by decide +kernel
theorem dX10_isNearer_44 : decode cX10_isNearer 44 = .ok (.iload_n 1, 1) := by decide +kernel
theorem dX10_isNearer_45 : decode cX10_isNearer 45 = .ok (.iaload, 1) := by decide +kernel
theorem dX10_isNearer_46 : decode cX10_isNearer 46 = .ok (.iconst 1, 1) := by decide +kernel
theorem dX10_isNearer_47 : decode cX10_isNearer 47 = .ok (.isub, 1) := by decide +kernel
theorem dX10_isNearer_48 : decode cX10_isNearer 48 = .ok (.if_icmp .ne 7, 3) := by decide +kernel
theorem dX10_isNearer_51 : decode cX10_isNearer 51 = .ok (.iconst 1, 1) := by decide +kernel
theorem dX10_isNearer_52 : decode cX10_isNearer 52 = .ok (.goto 4, 3) := by decide +kernel
theorem dX10_isNearer_55 : decode cX10_isNearer 55 = .ok (.iconst 0, 1) := by decide +kernel
theorem dX10_isNearer_56 : decode cX10_isNearer 56 = .ok (.ireturn, 1) := by decide +kernel
theorem dX10_isWatcher_0 : decode cX10_isWatcher 0 = .ok (.iload_n 0, 1) := by decide +kernel
theorem dX10_isWatcher_1 : decode cX10_isWatcher 1 = .ok (.i2l, 1) := by decide +kernel
theorem dX10_isWatcher_2 : decode cX10_isWatcher 2 = .ok (.lconst 0, 1) := by decide +kernel
theorem dX10_isWatcher_3 : decode cX10_isWatcher 3 = .ok (.ldc2_w 89, 3) := by decide +kernel
theorem dX10_isWatcher_6 : decode cX10_isWatcher 6 = .ok (.invokestatic 77, 3) := by decide +kernel
theorem dX10_isWatcher_9 : decode cX10_isWatcher 9 = .ok (.ireturn, 1) := by decide +kernel
theorem dX10_areNear_0 : decode cX10_areNear 0 = .ok (.iload_n 1, 1) := by decide +kernel
theorem dX10_areNear_1 : decode cX10_areNear 1 = .ok (.iload_n 2, 1) := by decide +kernel
theorem dX10_areNear_2 : decode cX10_areNear 2 = .ok (.if_icmp .ne 7, 3) := by decide +kernel
theorem dX10_areNear_5 : decode cX10_areNear 5 = .ok (.iconst 1, 1) := by decide +kernel
theorem dX10_areNear_6 : decode cX10_areNear 6 = .ok (.goto 4, 3) := by decide +kernel
theorem dX10_areNear_9 : decode cX10_areNear 9 = .ok (.iconst 0, 1) := by decide +kernel
theorem dX10_areNear_10 : decode cX10_areNear 10 = .ok (.istore_n 3, 1) := by decide +kernel
theorem dX10_areNear_11 : decode cX10_areNear 11 = .ok (.iconst 0, 1) := by decide +kernel
theorem dX10_areNear_12 : decode cX10_areNear 12 = .ok (.istore 4, 2) := by decide +kernel
theorem dX10_areNear_14 : decode cX10_areNear 14 = .ok (.iload 4, 2) := by decide +kernel
theorem dX10_areNear_16 : decode cX10_areNear 16 = .ok (.iconst 4, 1) := by decide +kernel
theorem dX10_areNear_17 : decode cX10_areNear 17 = .ok (.if_icmp .ge 30, 3) := by decide +kernel
theorem dX10_areNear_20 : decode cX10_areNear 20 = .ok (.iload_n 3, 1) := by decide +kernel
theorem dX10_areNear_21 : decode cX10_areNear 21 = .ok (.ifCond .ne 14, 3) := by decide +kernel
theorem dX10_areNear_24 : decode cX10_areNear 24 = .ok (.aload_n 0, 1) := by decide +kernel
theorem dX10_areNear_25 : decode cX10_areNear 25 = .ok (.iload_n 1, 1) := by decide +kernel
theorem dX10_areNear_26 : decode cX10_areNear 26 = .ok (.iload 4, 2) := by decide +kernel
theorem dX10_areNear_28 : decode cX10_areNear 28 = .ok (.invokevirtual 94, 3) := by decide +kernel
theorem dX10_areNear_31 : decode cX10_areNear 31 = .ok (.iload_n 2, 1) := by decide +kernel
theorem dX10_areNear_32 : decode cX10_areNear 32 = .ok (.if_icmp .ne 7, 3) := by decide +kernel
theorem dX10_areNear_35 : decode cX10_areNear 35 = .ok (.iconst 1, 1) := by decide +kernel
theorem dX10_areNear_36 : decode cX10_areNear 36 = .ok (.goto 4, 3) := by decide +kernel
theorem dX10_areNear_39 : decode cX10_areNear 39 = .ok (.iconst 0, 1) := by decide +kernel
theorem dX10_areNear_40 : decode cX10_areNear 40 = .ok (.istore_n 3, 1) := by decide +kernel
theorem dX10_areNear_41 : decode cX10_areNear 41 = .ok (.iinc 4 1, 3) := by decide +kernel
theorem dX10_areNear_44 : decode cX10_areNear 44 = .ok (.goto (-30), 3) := by decide +kernel
theorem dX10_areNear_47 : decode cX10_areNear 47 = .ok (.iload_n 3, 1) := by decide +kernel
theorem dX10_areNear_48 : decode cX10_areNear 48 = .ok (.ireturn, 1) := by decide +kernel
theorem dX10_step_0 : decode cX10_step 0 = .ok (.iload_n 1, 1) := by decide +kernel
theorem dX10_step_1 : decode cX10_step 1 = .ok (.invokestatic 153, 3) := by decide +kernel
theorem dX10_step_4 : decode cX10_step 4 = .ok (.ifCond .eq 11, 3) := by decide +kernel
theorem dX10_step_7 : decode cX10_step 7 = .ok (.aload_n 0, 1) := by decide +kernel
theorem dX10_step_8 : decode cX10_step 8 = .ok (.iload_n 2, 1) := by decide +kernel
theorem dX10_step_9 : decode cX10_step 9 = .ok (.invokevirtual 85, 3) := by decide +kernel
theorem dX10_step_12 : decode cX10_step 12 = .ok (.ifCond .ne 5, 3) := by decide +kernel
theorem dX10_step_15 : decode cX10_step 15 = .ok (.iconst (-1), 1) := by decide +kernel
theorem dX10_step_16 : decode cX10_step 16 = .ok (.ireturn, 1) := by decide +kernel
theorem dX10_step_17 : decode cX10_step 17 = .ok (.aload_n 0, 1) := by decide +kernel
theorem dX10_step_18 : decode cX10_step 18 = .ok (.getfield 45, 3) := by decide +kernel
theorem dX10_step_21 : decode cX10_step 21 = .ok (.iload_n 1, 1) := by decide +kernel
theorem dX10_step_22 : decode cX10_step 22 = .ok (.iaload, 1) := by decide +kernel
theorem dX10_step_23 : decode cX10_step 23 = .ok (.istore_n 3, 1) := by decide +kernel
theorem dX10_step_24 : decode cX10_step 24 = .ok (.aload_n 0, 1) := by decide +kernel
theorem dX10_step_25 : decode cX10_step 25 = .ok (.iload_n 2, 1) := by decide +kernel
theorem dX10_step_26 : decode cX10_step 26 = .ok (.invokevirtual 91, 3) := by decide +kernel
theorem dX10_step_29 : decode cX10_step 29 = .ok (.ifCond .eq 28, 3) := by decide +kernel
theorem dX10_step_32 : decode cX10_step 32 = .ok (.iload_n 3, 1) := by decide +kernel
theorem dX10_step_33 : decode cX10_step 33 = .ok (.ifCond .le 27, 3) := by decide +kernel
theorem dX10_step_36 : decode cX10_step 36 = .ok (.aload_n 0, 1) := by decide +kernel
theorem dX10_step_37 : decode cX10_step 37 = .ok (.aload_n 0, 1) := by decide +kernel
theorem dX10_step_38 : decode cX10_step 38 = .ok (.getfield 48, 3) := by decide +kernel
theorem dX10_step_41 : decode cX10_step 41 = .ok (.bipush 6, 2) := by decide +kernel
theorem dX10_step_43 : decode cX10_step 43 = .ok (.iload_n 1, 1) := by decide +kernel
theorem dX10_step_44 : decode cX10_step 44 = .ok (.imul, 1) := by decide +kernel
theorem dX10_step_45 : decode cX10_step 45 = .ok (.iload_n 3, 1) := by decide +kernel
theorem dX10_step_46 : decode cX10_step 46 = .ok (.iadd, 1) := by decide +kernel
theorem dX10_step_47 : decode cX10_step 47 = .ok (.iconst 1, 1) := by decide +kernel
theorem dX10_step_48 : decode cX10_step 48 = .ok (.isub, 1) := by decide +kernel
theorem dX10_step_49 : decode cX10_step 49 = .ok (.iaload, 1) := by decide +kernel
theorem dX10_step_50 : decode cX10_step 50 = .ok (.iload_n 2, 1) := by decide +kernel
theorem dX10_step_51 : decode cX10_step 51 = .ok (.invokevirtual 156, 3) := by decide +kernel
theorem dX10_step_54 : decode cX10_step 54 = .ok (.ifCond .ne 6, 3) := by decide +kernel
theorem dX10_step_57 : decode cX10_step 57 = .ok (.bipush (-3), 2) := by decide +kernel
theorem dX10_step_59 : decode cX10_step 59 = .ok (.ireturn, 1) := by decide +kernel
theorem dX10_step_60 : decode cX10_step 60 = .ok (.iload_n 3, 1) := by decide +kernel
theorem dX10_step_61 : decode cX10_step 61 = .ok (.bipush 6, 2) := by decide +kernel
theorem dX10_step_63 : decode cX10_step 63 = .ok (.if_icmp .ne 6, 3) := by decide +kernel
theorem dX10_step_66 : decode cX10_step 66 = .ok (.bipush (-4), 2) := by decide +kernel
theorem dX10_step_68 : decode cX10_step 68 = .ok (.ireturn, 1) := by decide +kernel
theorem dX10_step_69 : decode cX10_step 69 = .ok (.aload_n 0, 1) := by decide +kernel
theorem dX10_step_70 : decode cX10_step 70 = .ok (.getfield 48, 3) := by decide +kernel
theorem dX10_step_73 : decode cX10_step 73 = .ok (.bipush 6, 2) := by decide +kernel
theorem dX10_step_75 : decode cX10_step 75 = .ok (.iload_n 1, 1) := by decide +kernel
theorem dX10_step_76 : decode cX10_step 76 = .ok (.imul, 1) := by decide +kernel
theorem dX10_step_77 : decode cX10_step 77 = .ok (.iload_n 3, 1) := by decide +kernel
theorem dX10_step_78 : decode cX10_step 78 = .ok (.iadd, 1) := by decide +kernel
theorem dX10_step_79 : decode cX10_step 79 = .ok (.iload_n 2, 1) := by decide +kernel
theorem dX10_step_80 : decode cX10_step 80 = .ok (.iastore, 1) := by decide +kernel
theorem dX10_step_81 : decode cX10_step 81 = .ok (.aload_n 0, 1) := by decide +kernel
theorem dX10_step_82 : decode cX10_step 82 = .ok (.getfield 45, 3) := by decide +kernel
theorem dX10_step_85 : decode cX10_step 85 = .ok (.iload_n 1, 1) := by decide +kernel
theorem dX10_step_86 : decode cX10_step 86 = .ok (.dup2, 1) := by decide +kernel
theorem dX10_step_87 : decode cX10_step 87 = .ok (.iaload, 1) := by decide +kernel
theorem dX10_step_88 : decode cX10_step 88 = .ok (.iconst 1, 1) := by decide +kernel
theorem dX10_step_89 : decode cX10_step 89 = .ok (.iadd, 1) := by decide +kernel
theorem dX10_step_90 : decode cX10_step 90 = .ok (.iastore, 1) := by decide +kernel
theorem dX10_step_91 : decode cX10_step 91 = .ok (.iload_n 3, 1) := by decide +kernel
theorem dX10_step_92 : decode cX10_step 92 = .ok (.iconst 1, 1) := by decide +kernel
theorem dX10_step_93 : decode cX10_step 93 = .ok (.iadd, 1) := by decide +kernel
theorem dX10_step_94 : decode cX10_step 94 = .ok (.ireturn, 1) := by decide +kernel
theorem dX10_wipe_0 : decode cX10_wipe 0 = .ok (.iload_n 1, 1) := by decide +kernel
theorem dX10_wipe_1 : decode cX10_wipe 1 = .ok (.invokestatic 153, 3) := by decide +kernel
theorem dX10_wipe_4 : decode cX10_wipe 4 = .ok (.ifCond .ne 5, 3) := by decide +kernel
theorem dX10_wipe_7 : decode cX10_wipe 7 = .ok (.iconst (-1), 1) := by decide +kernel
theorem dX10_wipe_8 : decode cX10_wipe 8 = .ok (.ireturn, 1) := by decide +kernel
theorem dX10_wipe_9 : decode cX10_wipe 9 = .ok (.aload_n 0, 1) := by decide +kernel
theorem dX10_wipe_10 : decode cX10_wipe 10 = .ok (.getfield 45, 3) := by decide +kernel
theorem dX10_wipe_13 : decode cX10_wipe 13 = .ok (.iload_n 1, 1) := by decide +kernel
theorem dX10_wipe_14 : decode cX10_wipe 14 = .ok (.iaload, 1) := by decide +kernel
theorem dX10_wipe_15 : decode cX10_wipe 15 = .ok (.istore_n 2, 1) := by decide +kernel
theorem dX10_wipe_16 : decode cX10_wipe 16 = .ok (.aload_n 0, 1) := by decide +kernel
theorem dX10_wipe_17 : decode cX10_wipe 17 = .ok (.getfield 45, 3) := by decide +kernel
theorem dX10_wipe_20 : decode cX10_wipe 20 = .ok (.iload_n 1, 1) := by decide +kernel
theorem dX10_wipe_21 : decode cX10_wipe 21 = .ok (.iconst 0, 1) := by decide +kernel
theorem dX10_wipe_22 : decode cX10_wipe 22 = .ok (.iastore, 1) := by decide +kernel
theorem dX10_wipe_23 : decode cX10_wipe 23 = .ok (.iload_n 2, 1) := by decide +kernel
theorem dX10_wipe_24 : decode cX10_wipe 24 = .ok (.ireturn, 1) := by decide +kernel
theorem dX10_closed_0 : decode cX10_closed 0 = .ok (.iload_n 1, 1) := by decide +kernel
theorem dX10_closed_1 : decode cX10_closed 1 = .ok (.invokestatic 153, 3) := by decide +kernel
theorem dX10_closed_4 : decode cX10_closed 4 = .ok (.ifCond .ne 5, 3) := by decide +kernel
theorem dX10_closed_7 : decode cX10_closed 7 = .ok (.iconst (-1), 1) := by decide +kernel
theorem dX10_closed_8 : decode cX10_closed 8 = .ok (.ireturn, 1) := by decide +kernel
theorem dX10_closed_9 : decode cX10_closed 9 = .ok (.aload_n 0, 1) := by decide +kernel
theorem dX10_closed_10 : decode cX10_closed 10 = .ok (.getfield 45, 3) := by decide +kernel
theorem dX10_closed_13 : decode cX10_closed 13 = .ok (.iload_n 1, 1) := by decide +kernel
theorem dX10_closed_14 : decode cX10_closed 14 = .ok (.iaload, 1) := by decide +kernel
theorem dX10_closed_15 : decode cX10_closed 15 = .ok (.ifCond .eq 37, 3) := by decide +kernel
theorem dX10_closed_18 : decode cX10_closed 18 = .ok (.aload_n 0, 1) := by decide +kernel
theorem dX10_closed_19 : decode cX10_closed 19 = .ok (.aload_n 0, 1) := by decide +kernel
theorem dX10_closed_20 : decode cX10_closed 20 = .ok (.getfield 48, 3) := by decide +kernel
theorem dX10_closed_23 : decode cX10_closed 23 = .ok (.bipush 6, 2) := by decide +kernel
theorem dX10_closed_25 : decode cX10_closed 25 = .ok (.iload_n 1, 1) := by decide +kernel
theorem dX10_closed_26 : decode cX10_closed 26 = .ok (.imul, 1) := by decide +kernel
theorem dX10_closed_27 : decode cX10_closed 27 = .ok (.iaload, 1) := by decide +kernel
theorem dX10_closed_28 : decode cX10_closed 28 = .ok (.aload_n 0, 1) := by decide +kernel
theorem dX10_closed_29 : decode cX10_closed 29 = .ok (.getfield 48, 3) := by decide +kernel
theorem dX10_closed_32 : decode cX10_closed 32 = .ok (.bipush 6, 2) := by decide +kernel
theorem dX10_closed_34 : decode cX10_closed 34 = .ok (.iload_n 1, 1) := by decide +kernel
theorem dX10_closed_35 : decode cX10_closed 35 = .ok (.imul, 1) := by decide +kernel
theorem dX10_closed_36 : decode cX10_closed 36 = .ok (.aload_n 0, 1) := by decide +kernel
theorem dX10_closed_37 : decode cX10_closed 37 = .ok (.getfield 45, 3) := by decide +kernel
theorem dX10_closed_40 : decode cX10_closed 40 = .ok (.iload_n 1, 1) := by decide +kernel
theorem dX10_closed_41 : decode cX10_closed 41 = .ok (.iaload, 1) := by decide +kernel
theorem dX10_closed_42 : decode cX10_closed 42 = .ok (.iadd, 1) := by decide +kernel
theorem dX10_closed_43 : decode cX10_closed 43 = .ok (.iconst 1, 1) := by decide +kernel
theorem dX10_closed_44 : decode cX10_closed 44 = .ok (.isub, 1) := by decide +kernel
theorem dX10_closed_45 : decode cX10_closed 45 = .ok (.iaload, 1) := by decide +kernel
theorem dX10_closed_46 : decode cX10_closed 46 = .ok (.invokevirtual 156, 3) := by decide +kernel
theorem dX10_closed_49 : decode cX10_closed 49 = .ok (.ifCond .eq 7, 3) := by decide +kernel
theorem dX10_closed_52 : decode cX10_closed 52 = .ok (.iconst 1, 1) := by decide +kernel
theorem dX10_closed_53 : decode cX10_closed 53 = .ok (.goto 4, 3) := by decide +kernel
theorem dX10_closed_56 : decode cX10_closed 56 = .ok (.iconst 0, 1) := by decide +kernel
theorem dX10_closed_57 : decode cX10_closed 57 = .ok (.ireturn, 1) := by decide +kernel
theorem dX10_shift_0 : decode cX10_shift 0 = .ok (.iload_n 1, 1) := by decide +kernel
theorem dX10_shift_1 : decode cX10_shift 1 = .ok (.invokestatic 153, 3) := by decide +kernel
theorem dX10_shift_4 : decode cX10_shift 4 = .ok (.ifCond .ne 5, 3) := by decide +kernel
theorem dX10_shift_7 : decode cX10_shift 7 = .ok (.iconst (-1), 1) := by decide +kernel
theorem dX10_shift_8 : decode cX10_shift 8 = .ok (.ireturn, 1) := by decide +kernel
theorem dX10_shift_9 : decode cX10_shift 9 = .ok (.iload_n 2, 1) := by decide +kernel
theorem dX10_shift_10 : decode cX10_shift 10 = .ok (.i2l, 1) := by decide +kernel
theorem dX10_shift_11 : decode cX10_shift 11 = .ok (.lconst 0, 1) := by decide +kernel
theorem dX10_shift_12 : decode cX10_shift 12 = .ok (.ldc2_w 159, 3) := by decide +kernel
theorem dX10_shift_15 : decode cX10_shift 15 = .ok (.invokestatic 77, 3) := by decide +kernel
theorem dX10_shift_18 : decode cX10_shift 18 = .ok (.ifCond .ne 6, 3) := by decide +kernel
theorem dX10_shift_21 : decode cX10_shift 21 = .ok (.bipush (-2), 2) := by decide +kernel
theorem dX10_shift_23 : decode cX10_shift 23 = .ok (.ireturn, 1) := by decide +kernel
theorem dX10_shift_24 : decode cX10_shift 24 = .ok (.aload_n 0, 1) := by decide +kernel
theorem dX10_shift_25 : decode cX10_shift 25 = .ok (.getfield 51, 3) := by decide +kernel
theorem dX10_shift_28 : decode cX10_shift 28 = .ok (.iload_n 1, 1) := by decide +kernel
theorem dX10_shift_29 : decode cX10_shift 29 = .ok (.iaload, 1) := by decide +kernel
theorem dX10_shift_30 : decode cX10_shift 30 = .ok (.istore_n 3, 1) := by decide +kernel
theorem dX10_shift_31 : decode cX10_shift 31 = .ok (.aload_n 0, 1) := by decide +kernel
theorem dX10_shift_32 : decode cX10_shift 32 = .ok (.getfield 51, 3) := by decide +kernel
theorem dX10_shift_35 : decode cX10_shift 35 = .ok (.iload_n 1, 1) := by decide +kernel
theorem dX10_shift_36 : decode cX10_shift 36 = .ok (.iload_n 2, 1) := by decide +kernel
theorem dX10_shift_37 : decode cX10_shift 37 = .ok (.iastore, 1) := by decide +kernel
theorem dX10_shift_38 : decode cX10_shift 38 = .ok (.iload_n 3, 1) := by decide +kernel
theorem dX10_shift_39 : decode cX10_shift 39 = .ok (.ireturn, 1) := by decide +kernel
theorem dX10_whereAt_0 : decode cX10_whereAt 0 = .ok (.aload_n 0, 1) := by decide +kernel
theorem dX10_whereAt_1 : decode cX10_whereAt 1 = .ok (.getfield 45, 3) := by decide +kernel
theorem dX10_whereAt_4 : decode cX10_whereAt 4 = .ok (.iload_n 1, 1) := by decide +kernel
theorem dX10_whereAt_5 : decode cX10_whereAt 5 = .ok (.iaload, 1) := by decide +kernel
theorem dX10_whereAt_6 : decode cX10_whereAt 6 = .ok (.ifCond .ne 8, 3) := by decide +kernel
theorem dX10_whereAt_9 : decode cX10_whereAt 9 = .ok (.bipush (-9), 2) := by decide +kernel
theorem dX10_whereAt_11 : decode cX10_whereAt 11 = .ok (.goto 28, 3) := by decide +kernel
theorem dX10_whereAt_14 : decode cX10_whereAt 14 = .ok (.aload_n 0, 1) := by decide +kernel
theorem dX10_whereAt_15 : decode cX10_whereAt 15 = .ok (.getfield 48, 3) := by decide +kernel
theorem dX10_whereAt_18 : decode cX10_whereAt 18 = .ok (.bipush 6, 2) := by decide +kernel
theorem dX10_whereAt_20 : decode cX10_whereAt 20 = .ok (.iload_n 1, 1) := by decide +kernel
theorem dX10_whereAt_21 : decode cX10_whereAt 21 = .ok (.imul, 1) := by decide +kernel
theorem dX10_whereAt_22 : decode cX10_whereAt 22 = .ok (.iload_n 2, 1) := by decide +kernel
theorem dX10_whereAt_23 : decode cX10_whereAt 23 = .ok (.aload_n 0, 1) := by decide +kernel
theorem dX10_whereAt_24 : decode cX10_whereAt 24 = .ok (.getfield 51, 3) := by decide +kernel
theorem dX10_whereAt_27 : decode cX10_whereAt 27 = .ok (.iload_n 1, 1) := by decide +kernel
theorem dX10_whereAt_28 : decode cX10_whereAt 28 = .ok (.iaload, 1) := by decide +kernel
theorem dX10_whereAt_29 : decode cX10_whereAt 29 = .ok (.iadd, 1) := by decide +kernel
theorem dX10_whereAt_30 : decode cX10_whereAt 30 = .ok (.aload_n 0, 1) := by decide +kernel
theorem dX10_whereAt_31 : decode cX10_whereAt 31 = .ok (.getfield 45, 3) := by decide +kernel
theorem dX10_whereAt_34 : decode cX10_whereAt 34 = .ok (.iload_n 1, 1) := by decide +kernel
theorem dX10_whereAt_35 : decode cX10_whereAt 35 = .ok (.iaload, 1) := by decide +kernel
theorem dX10_whereAt_36 : decode cX10_whereAt 36 = .ok (.irem, 1) := by decide +kernel
theorem dX10_whereAt_37 : decode cX10_whereAt 37 = .ok (.iadd, 1) := by decide +kernel
theorem dX10_whereAt_38 : decode cX10_whereAt 38 = .ok (.iaload, 1) := by decide +kernel
theorem dX10_whereAt_39 : decode cX10_whereAt 39 = .ok (.ireturn, 1) := by decide +kernel
theorem dX10_where_0 : decode cX10_where 0 = .ok (.iload_n 1, 1) := by decide +kernel
theorem dX10_where_1 : decode cX10_where 1 = .ok (.invokestatic 153, 3) := by decide +kernel
theorem dX10_where_4 : decode cX10_where 4 = .ok (.ifCond .ne 5, 3) := by decide +kernel
theorem dX10_where_7 : decode cX10_where 7 = .ok (.iconst (-1), 1) := by decide +kernel
theorem dX10_where_8 : decode cX10_where 8 = .ok (.ireturn, 1) := by decide +kernel
theorem dX10_where_9 : decode cX10_where 9 = .ok (.iload_n 2, 1) := by decide +kernel
theorem dX10_where_10 : decode cX10_where 10 = .ok (.i2l, 1) := by decide +kernel
theorem dX10_where_11 : decode cX10_where 11 = .ok (.lconst 0, 1) := by decide +kernel
theorem dX10_where_12 : decode cX10_where 12 = .ok (.ldc2_w 161, 3) := by decide +kernel
theorem dX10_where_15 : decode cX10_where 15 = .ok (.invokestatic 77, 3) := by decide +kernel
theorem dX10_where_18 : decode cX10_where 18 = .ok (.ifCond .eq 12, 3) := by decide +kernel
theorem dX10_where_21 : decode cX10_where 21 = .ok (.aload_n 0, 1) := by decide +kernel
theorem dX10_where_22 : decode cX10_where 22 = .ok (.iload_n 1, 1) := by decide +kernel
theorem dX10_where_23 : decode cX10_where 23 = .ok (.iload_n 2, 1) := by decide +kernel
theorem dX10_where_24 : decode cX10_where 24 = .ok (.invokevirtual 163, 3) := by decide +kernel
theorem dX10_where_27 : decode cX10_where 27 = .ok (.goto 5, 3) := by decide +kernel
theorem dX10_where_30 : decode cX10_where 30 = .ok (.bipush (-2), 2) := by decide +kernel
theorem dX10_where_32 : decode cX10_where 32 = .ok (.ireturn, 1) := by decide +kernel
theorem dX10_isWatched_0 : decode cX10_isWatched 0 = .ok (.iconst 0, 1) := by decide +kernel
theorem dX10_isWatched_1 : decode cX10_isWatched 1 = .ok (.istore_n 3, 1) := by decide +kernel
theorem dX10_isWatched_2 : decode cX10_isWatched 2 = .ok (.iconst 0, 1) := by decide +kernel
theorem dX10_isWatched_3 : decode cX10_isWatched 3 = .ok (.istore 4, 2) := by decide +kernel
theorem dX10_isWatched_5 : decode cX10_isWatched 5 = .ok (.iload 4, 2) := by decide +kernel
theorem dX10_isWatched_7 : decode cX10_isWatched 7 = .ok (.iconst 4, 1) := by decide +kernel
theorem dX10_isWatched_8 : decode cX10_isWatched 8 = .ok (.if_icmp .ge 54, 3) := by decide +kernel
theorem dX10_isWatched_11 : decode cX10_isWatched 11 = .ok (.aload_n 0, 1) := by decide +kernel
theorem dX10_isWatched_12 : decode cX10_isWatched 12 = .ok (.iload 4, 2) := by decide +kernel
theorem dX10_isWatched_14 : decode cX10_isWatched 14 = .ok (.iload_n 2, 1) := by decide +kernel
theorem dX10_isWatched_15 : decode cX10_isWatched 15 = .ok (.invokevirtual 163, 3) := by decide +kernel
theorem dX10_isWatched_18 : decode cX10_isWatched 18 = .ok (.istore 5, 2) := by decide +kernel
theorem dX10_isWatched_20 : decode cX10_isWatched 20 = .ok (.iload_n 3, 1) := by decide +kernel
theorem dX10_isWatched_21 : decode cX10_isWatched 21 = .ok (.ifCond .ne 29, 3) := by decide +kernel
theorem dX10_isWatched_24 : decode cX10_isWatched 24 = .ok (.iload 5, 2) := by decide +kernel
theorem dX10_isWatched_26 : decode cX10_isWatched 26 = .ok (.bipush (-9), 2) := by decide +kernel
theorem dX10_isWatched_28 : decode cX10_isWatched 28 = .ok (.if_icmp .eq 26, 3) := by decide +kernel
theorem dX10_isWatched_31 : decode cX10_isWatched 31 = .ok (.aload_n 0, 1) := by decide +kernel
theorem dX10_isWatched_32 : decode cX10_isWatched 32 = .ok (.iload 5, 2) := by decide +kernel
theorem dX10_isWatched_34 : decode cX10_isWatched 34 = .ok (.invokevirtual 91, 3) := by decide +kernel
theorem dX10_isWatched_37 : decode cX10_isWatched 37 = .ok (.ifCond .eq 17, 3) := by decide +kernel
theorem dX10_isWatched_40 : decode cX10_isWatched 40 = .ok (.aload_n 0, 1) := by decide +kernel
theorem dX10_isWatched_41 : decode cX10_isWatched 41 = .ok (.iload 5, 2) := by decide +kernel
theorem dX10_isWatched_43 : decode cX10_isWatched 43 = .ok (.iload_n 1, 1) := by decide +kernel
theorem dX10_isWatched_44 : decode cX10_isWatched 44 = .ok (.invokevirtual 119, 3) := by decide +kernel
theorem dX10_isWatched_47 : decode cX10_isWatched 47 = .ok (.ifCond .eq 7, 3) := by decide +kernel
theorem dX10_isWatched_50 : decode cX10_isWatched 50 = .ok (.iconst 1, 1) := by decide +kernel
theorem dX10_isWatched_51 : decode cX10_isWatched 51 = .ok (.goto 4, 3) := by decide +kernel
theorem dX10_isWatched_54 : decode cX10_isWatched 54 = .ok (.iconst 0, 1) := by decide +kernel
theorem dX10_isWatched_55 : decode cX10_isWatched 55 = .ok (.istore_n 3, 1) := by decide +kernel
theorem dX10_isWatched_56 : decode cX10_isWatched 56 = .ok (.iinc 4 1, 3) := by decide +kernel
theorem dX10_isWatched_59 : decode cX10_isWatched 59 = .ok (.goto (-54), 3) := by decide +kernel
theorem dX10_isWatched_62 : decode cX10_isWatched 62 = .ok (.iload_n 3, 1) := by decide +kernel
theorem dX10_isWatched_63 : decode cX10_isWatched 63 = .ok (.ireturn, 1) := by decide +kernel
theorem dX10_watched_0 : decode cX10_watched 0 = .ok (.aload_n 0, 1) := by decide +kernel
theorem dX10_watched_1 : decode cX10_watched 1 = .ok (.iload_n 1, 1) := by decide +kernel
theorem dX10_watched_2 : decode cX10_watched 2 = .ok (.invokevirtual 85, 3) := by decide +kernel
theorem dX10_watched_5 : decode cX10_watched 5 = .ok (.ifCond .ne 5, 3) := by decide +kernel
theorem dX10_watched_8 : decode cX10_watched 8 = .ok (.iconst (-1), 1) := by decide +kernel
theorem dX10_watched_9 : decode cX10_watched 9 = .ok (.ireturn, 1) := by decide +kernel
theorem dX10_watched_10 : decode cX10_watched 10 = .ok (.iload_n 2, 1) := by decide +kernel
theorem dX10_watched_11 : decode cX10_watched 11 = .ok (.i2l, 1) := by decide +kernel
theorem dX10_watched_12 : decode cX10_watched 12 = .ok (.lconst 0, 1) := by decide +kernel
theorem dX10_watched_13 : decode cX10_watched 13 = .ok (.ldc2_w 161, 3) := by decide +kernel
theorem dX10_watched_16 : decode cX10_watched 16 = .ok (.invokestatic 77, 3) := by decide +kernel
theorem dX10_watched_19 : decode cX10_watched 19 = .ok (.ifCond .ne 8, 3) := by decide +kernel
theorem dX10_watched_22 : decode cX10_watched 22 = .ok (.bipush (-2), 2) := by decide +kernel
theorem dX10_watched_24 : decode cX10_watched 24 = .ok (.goto 17, 3) := by decide +kernel
theorem dX10_watched_27 : decode cX10_watched 27 = .ok (.aload_n 0, 1) := by decide +kernel
theorem dX10_watched_28 : decode cX10_watched 28 = .ok (.iload_n 1, 1) := by decide +kernel
theorem dX10_watched_29 : decode cX10_watched 29 = .ok (.iload_n 2, 1) := by decide +kernel
theorem dX10_watched_30 : decode cX10_watched 30 = .ok (.invokevirtual 166, 3) := by decide +kernel
theorem dX10_watched_33 : decode cX10_watched 33 = .ok (.ifCond .eq 7, 3) := by decide +kernel
theorem dX10_watched_36 : decode cX10_watched 36 = .ok (.iconst 1, 1) := by decide +kernel
theorem dX10_watched_37 : decode cX10_watched 37 = .ok (.goto 4, 3) := by decide +kernel
theorem dX10_watched_40 : decode cX10_watched 40 = .ok (.iconst 0, 1) := by decide +kernel
theorem dX10_watched_41 : decode cX10_watched 41 = .ok (.ireturn, 1) := by decide +kernel
theorem dX10_common_0 : decode cX10_common 0 = .ok (.iload_n 0, 1) := by decide +kernel
theorem dX10_common_1 : decode cX10_common 1 = .ok (.istore_n 2, 1) := by decide +kernel
theorem dX10_common_2 : decode cX10_common 2 = .ok (.iload_n 1, 1) := by decide +kernel
theorem dX10_common_3 : decode cX10_common 3 = .ok (.istore_n 3, 1) := by decide +kernel
theorem dX10_common_4 : decode cX10_common 4 = .ok (.iload_n 3, 1) := by decide +kernel
theorem dX10_common_5 : decode cX10_common 5 = .ok (.ifCond .eq 16, 3) := by decide +kernel
theorem dX10_common_8 : decode cX10_common 8 = .ok (.iload_n 2, 1) := by decide +kernel
theorem dX10_common_9 : decode cX10_common 9 = .ok (.iload_n 3, 1) := by decide +kernel
theorem dX10_common_10 : decode cX10_common 10 = .ok (.irem, 1) := by decide +kernel
theorem dX10_common_11 : decode cX10_common 11 = .ok (.istore 4, 2) := by decide +kernel
theorem dX10_common_13 : decode cX10_common 13 = .ok (.iload_n 3, 1) := by decide +kernel
theorem dX10_common_14 : decode cX10_common 14 = .ok (.istore_n 2, 1) := by decide +kernel
theorem dX10_common_15 : decode cX10_common 15 = .ok (.iload 4, 2) := by decide +kernel
theorem dX10_common_17 : decode cX10_common 17 = .ok (.istore_n 3, 1) := by decide +kernel
theorem dX10_common_18 : decode cX10_common 18 = .ok (.goto (-14), 3) := by decide +kernel
theorem dX10_common_21 : decode cX10_common 21 = .ok (.iload_n 2, 1) := by decide +kernel
theorem dX10_common_22 : decode cX10_common 22 = .ok (.ireturn, 1) := by decide +kernel
theorem dX10_periodNow_0 : decode cX10_periodNow 0 = .ok (.iconst 1, 1) := by decide +kernel
theorem dX10_periodNow_1 : decode cX10_periodNow 1 = .ok (.istore_n 1, 1) := by decide +kernel
theorem dX10_periodNow_2 : decode cX10_periodNow 2 = .ok (.iconst 0, 1) := by decide +kernel
theorem dX10_periodNow_3 : decode cX10_periodNow 3 = .ok (.istore_n 2, 1) := by decide +kernel
theorem dX10_periodNow_4 : decode cX10_periodNow 4 = .ok (.iload_n 2, 1) := by decide +kernel
theorem dX10_periodNow_5 : decode cX10_periodNow 5 = .ok (.iconst 4, 1) := by decide +kernel
theorem dX10_periodNow_6 : decode cX10_periodNow 6 = .ok (.if_icmp .ge 42, 3) := by decide +kernel
theorem dX10_periodNow_9 : decode cX10_periodNow 9 = .ok (.aload_n 0, 1) := by decide +kernel
theorem dX10_periodNow_10 : decode cX10_periodNow 10 = .ok (.getfield 45, 3) := by decide +kernel
theorem dX10_periodNow_13 : decode cX10_periodNow 13 = .ok (.iload_n 2, 1) := by decide +kernel
theorem dX10_periodNow_14 : decode cX10_periodNow 14 = .ok (.iaload, 1) := by decide +kernel
theorem dX10_periodNow_15 : decode cX10_periodNow 15 = .ok (.ifCond .ne 7, 3) := by decide +kernel
theorem dX10_periodNow_18 : decode cX10_periodNow 18 = .ok (.iload_n 1, 1) := by decide +kernel
theorem dX10_periodNow_19 : decode cX10_periodNow 19 = .ok (.goto 22, 3) := by decide +kernel
theorem dX10_periodNow_22 : decode cX10_periodNow 22 = .ok (.iload_n 1, 1) := by decide +kernel
theorem dX10_periodNow_23 : decode cX10_periodNow 23 = .ok (.iload_n 1, 1) := by decide +kernel
theorem dX10_periodNow_24 : decode cX10_periodNow 24 = .ok (.aload_n 0, 1) := by decide +kernel
theorem dX10_periodNow_25 : decode cX10_periodNow 25 = .ok (.getfield 45, 3) := by decide +kernel
theorem dX10_periodNow_28 : decode cX10_periodNow 28 = .ok (.iload_n 2, 1) := by decide +kernel
theorem dX10_periodNow_29 : decode cX10_periodNow 29 = .ok (.iaload, 1) := by decide +kernel
theorem dX10_periodNow_30 : decode cX10_periodNow 30 = .ok (.invokestatic 169, 3) := by decide +kernel
theorem dX10_periodNow_33 : decode cX10_periodNow 33 = .ok (.idiv, 1) := by decide +kernel
theorem dX10_periodNow_34 : decode cX10_periodNow 34 = .ok (.aload_n 0, 1) := by decide +kernel
theorem dX10_periodNow_35 : decode cX10_periodNow 35 = .ok (.getfield 45, 3) := by decide +kernel
theorem dX10_periodNow_38 : decode cX10_periodNow 38 = .ok (.iload_n 2, 1) := by decide +kernel
theorem dX10_periodNow_39 : decode cX10_periodNow 39 = .ok (.iaload, 1) := by decide +kernel
theorem dX10_periodNow_40 : decode cX10_periodNow 40 = .ok (.imul, 1) := by decide +kernel
theorem dX10_periodNow_41 : decode cX10_periodNow 41 = .ok (.istore_n 1, 1) := by decide +kernel
theorem dX10_periodNow_42 : decode cX10_periodNow 42 = .ok (.iinc 2 1, 3) := by decide +kernel
theorem dX10_periodNow_45 : decode cX10_periodNow 45 = .ok (.goto (-41), 3) := by decide +kernel
theorem dX10_periodNow_48 : decode cX10_periodNow 48 = .ok (.iload_n 1, 1) := by decide +kernel
theorem dX10_periodNow_49 : decode cX10_periodNow 49 = .ok (.ireturn, 1) := by decide +kernel
theorem dX10_period_0 : decode cX10_period 0 = .ok (.aload_n 0, 1) := by decide +kernel
theorem dX10_period_1 : decode cX10_period 1 = .ok (.invokevirtual 172, 3) := by decide +kernel
theorem dX10_period_4 : decode cX10_period 4 = .ok (.ireturn, 1) := by decide +kernel
theorem dX10_isInSight_0 : decode cX10_isInSight 0 = .ok (.iconst 0, 1) := by decide +kernel
theorem dX10_isInSight_1 : decode cX10_isInSight 1 = .ok (.istore_n 3, 1) := by decide +kernel
theorem dX10_isInSight_2 : decode cX10_isInSight 2 = .ok (.iconst 0, 1) := by decide +kernel
theorem dX10_isInSight_3 : decode cX10_isInSight 3 = .ok (.istore 4, 2) := by decide +kernel
theorem dX10_isInSight_5 : decode cX10_isInSight 5 = .ok (.iload 4, 2) := by decide +kernel
theorem dX10_isInSight_7 : decode cX10_isInSight 7 = .ok (.iconst 4, 1) := by decide +kernel
theorem dX10_isInSight_8 : decode cX10_isInSight 8 = .ok (.if_icmp .ge 54, 3) := by decide +kernel
theorem dX10_isInSight_11 : decode cX10_isInSight 11 = .ok (.aload_n 0, 1) := by decide +kernel
theorem dX10_isInSight_12 : decode cX10_isInSight 12 = .ok (.iload 4, 2) := by decide +kernel
theorem dX10_isInSight_14 : decode cX10_isInSight 14 = .ok (.iload_n 2, 1) := by decide +kernel
theorem dX10_isInSight_15 : decode cX10_isInSight 15 = .ok (.invokevirtual 163, 3) := by decide +kernel
theorem dX10_isInSight_18 : decode cX10_isInSight 18 = .ok (.istore 5, 2) := by decide +kernel
theorem dX10_isInSight_20 : decode cX10_isInSight 20 = .ok (.iload_n 3, 1) := by decide +kernel
theorem dX10_isInSight_21 : decode cX10_isInSight 21 = .ok (.ifCond .ne 29, 3) := by decide +kernel
theorem dX10_isInSight_24 : decode cX10_isInSight 24 = .ok (.iload 5, 2) := by decide +kernel
theorem dX10_isInSight_26 : decode cX10_isInSight 26 = .ok (.bipush (-9), 2) := by decide +kernel
theorem dX10_isInSight_28 : decode cX10_isInSight 28 = .ok (.if_icmp .eq 26, 3) := by decide +kernel
theorem dX10_isInSight_31 : decode cX10_isInSight 31 = .ok (.aload_n 0, 1) := by decide +kernel
theorem dX10_isInSight_32 : decode cX10_isInSight 32 = .ok (.iload 5, 2) := by decide +kernel
theorem dX10_isInSight_34 : decode cX10_isInSight 34 = .ok (.invokevirtual 91, 3) := by decide +kernel
theorem dX10_isInSight_37 : decode cX10_isInSight 37 = .ok (.ifCond .eq 17, 3) := by decide +kernel
theorem dX10_isInSight_40 : decode cX10_isInSight 40 = .ok (.aload_n 0, 1) := by decide +kernel
theorem dX10_isInSight_41 : decode cX10_isInSight 41 = .ok (.iload_n 1, 1) := by decide +kernel
theorem dX10_isInSight_42 : decode cX10_isInSight 42 = .ok (.iload 5, 2) := by decide +kernel
theorem dX10_isInSight_44 : decode cX10_isInSight 44 = .ok (.invokevirtual 128, 3) := by decide +kernel
theorem dX10_isInSight_47 : decode cX10_isInSight 47 = .ok (.ifCond .eq 7, 3) := by decide +kernel
theorem dX10_isInSight_50 : decode cX10_isInSight 50 = .ok (.iconst 1, 1) := by decide +kernel
theorem dX10_isInSight_51 : decode cX10_isInSight 51 = .ok (.goto 4, 3) := by decide +kernel
theorem dX10_isInSight_54 : decode cX10_isInSight 54 = .ok (.iconst 0, 1) := by decide +kernel
theorem dX10_isInSight_55 : decode cX10_isInSight 55 = .ok (.istore_n 3, 1) := by decide +kernel
theorem dX10_isInSight_56 : decode cX10_isInSight 56 = .ok (.iinc 4 1, 3) := by decide +kernel
theorem dX10_isInSight_59 : decode cX10_isInSight 59 = .ok (.goto (-54), 3) := by decide +kernel
theorem dX10_isInSight_62 : decode cX10_isInSight 62 = .ok (.iload_n 3, 1) := by decide +kernel
theorem dX10_isInSight_63 : decode cX10_isInSight 63 = .ok (.ireturn, 1) := by decide +kernel
theorem dX10_gapOf_0 : decode cX10_gapOf 0 = .ok (.aload_n 0, 1) := by decide +kernel
theorem dX10_gapOf_1 : decode cX10_gapOf 1 = .ok (.invokevirtual 172, 3) := by decide +kernel
theorem dX10_gapOf_4 : decode cX10_gapOf 4 = .ok (.istore_n 2, 1) := by decide +kernel
theorem dX10_gapOf_5 : decode cX10_gapOf 5 = .ok (.iconst 0, 1) := by decide +kernel
theorem dX10_gapOf_6 : decode cX10_gapOf 6 = .ok (.istore_n 3, 1) := by decide +kernel
theorem dX10_gapOf_7 : decode cX10_gapOf 7 = .ok (.iconst 0, 1) := by decide +kernel
theorem dX10_gapOf_8 : decode cX10_gapOf 8 = .ok (.istore 4, 2) := by decide +kernel
theorem dX10_gapOf_10 : decode cX10_gapOf 10 = .ok (.iconst 0, 1) := by decide +kernel
theorem dX10_gapOf_11 : decode cX10_gapOf 11 = .ok (.istore 5, 2) := by decide +kernel
theorem dX10_gapOf_13 : decode cX10_gapOf 13 = .ok (.iload 5, 2) := by decide +kernel
theorem dX10_gapOf_15 : decode cX10_gapOf 15 = .ok (.iconst 2, 1) := by decide +kernel
theorem dX10_gapOf_16 : decode cX10_gapOf 16 = .ok (.iload_n 2, 1) := by decide +kernel
theorem dX10_gapOf_17 : decode cX10_gapOf 17 = .ok (.imul, 1) := by decide +kernel
theorem dX10_gapOf_18 : decode cX10_gapOf 18 = .ok (.if_icmp .ge 41, 3) := by decide +kernel
theorem dX10_gapOf_21 : decode cX10_gapOf 21 = .ok (.aload_n 0, 1) := by decide +kernel
theorem dX10_gapOf_22 : decode cX10_gapOf 22 = .ok (.iload_n 1, 1) := by decide +kernel
theorem dX10_gapOf_23 : decode cX10_gapOf 23 = .ok (.iload 5, 2) := by decide +kernel
theorem dX10_gapOf_25 : decode cX10_gapOf 25 = .ok (.invokevirtual 176, 3) := by decide +kernel
theorem dX10_gapOf_28 : decode cX10_gapOf 28 = .ok (.ifCond .eq 7, 3) := by decide +kernel
theorem dX10_gapOf_31 : decode cX10_gapOf 31 = .ok (.iconst 0, 1) := by decide +kernel
theorem dX10_gapOf_32 : decode cX10_gapOf 32 = .ok (.goto 6, 3) := by decide +kernel
theorem dX10_gapOf_35 : decode cX10_gapOf 35 = .ok (.iload_n 3, 1) := by decide +kernel
theorem dX10_gapOf_36 : decode cX10_gapOf 36 = .ok (.iconst 1, 1) := by decide +kernel
theorem dX10_gapOf_37 : decode cX10_gapOf 37 = .ok (.iadd, 1) := by decide +kernel
theorem dX10_gapOf_38 : decode cX10_gapOf 38 = .ok (.istore_n 3, 1) := by decide +kernel
theorem dX10_gapOf_39 : decode cX10_gapOf 39 = .ok (.iload_n 3, 1) := by decide +kernel
theorem dX10_gapOf_40 : decode cX10_gapOf 40 = .ok (.iload 4, 2) := by decide +kernel
theorem dX10_gapOf_42 : decode cX10_gapOf 42 = .ok (.if_icmp .le 7, 3) := by decide +kernel
theorem dX10_gapOf_45 : decode cX10_gapOf 45 = .ok (.iload_n 3, 1) := by decide +kernel
theorem dX10_gapOf_46 : decode cX10_gapOf 46 = .ok (.goto 5, 3) := by decide +kernel
theorem dX10_gapOf_49 : decode cX10_gapOf 49 = .ok (.iload 4, 2) := by decide +kernel
theorem dX10_gapOf_51 : decode cX10_gapOf 51 = .ok (.istore 4, 2) := by decide +kernel
theorem dX10_gapOf_53 : decode cX10_gapOf 53 = .ok (.iinc 5 1, 3) := by decide +kernel
theorem dX10_gapOf_56 : decode cX10_gapOf 56 = .ok (.goto (-43), 3) := by decide +kernel
theorem dX10_gapOf_59 : decode cX10_gapOf 59 = .ok (.iload 4, 2) := by decide +kernel
theorem dX10_gapOf_61 : decode cX10_gapOf 61 = .ok (.iconst 2, 1) := by decide +kernel
theorem dX10_gapOf_62 : decode cX10_gapOf 62 = .ok (.iload_n 2, 1) := by decide +kernel
theorem dX10_gapOf_63 : decode cX10_gapOf 63 = .ok (.imul, 1) := by decide +kernel
theorem dX10_gapOf_64 : decode cX10_gapOf 64 = .ok (.if_icmp .ne 8, 3) := by decide +kernel
theorem dX10_gapOf_67 : decode cX10_gapOf 67 = .ok (.bipush (-9), 2) := by decide +kernel
theorem dX10_gapOf_69 : decode cX10_gapOf 69 = .ok (.goto 5, 3) := by decide +kernel
theorem dX10_gapOf_72 : decode cX10_gapOf 72 = .ok (.iload 4, 2) := by decide +kernel
theorem dX10_gapOf_74 : decode cX10_gapOf 74 = .ok (.ireturn, 1) := by decide +kernel
theorem dX10_gap_0 : decode cX10_gap 0 = .ok (.aload_n 0, 1) := by decide +kernel
theorem dX10_gap_1 : decode cX10_gap 1 = .ok (.iload_n 1, 1) := by decide +kernel
theorem dX10_gap_2 : decode cX10_gap 2 = .ok (.invokevirtual 125, 3) := by decide +kernel
theorem dX10_gap_5 : decode cX10_gap 5 = .ok (.ifCond .eq 11, 3) := by decide +kernel
theorem dX10_gap_8 : decode cX10_gap 8 = .ok (.aload_n 0, 1) := by decide +kernel
theorem dX10_gap_9 : decode cX10_gap 9 = .ok (.iload_n 1, 1) := by decide +kernel
theorem dX10_gap_10 : decode cX10_gap 10 = .ok (.invokevirtual 179, 3) := by decide +kernel
theorem dX10_gap_13 : decode cX10_gap 13 = .ok (.goto 4, 3) := by decide +kernel
theorem dX10_gap_16 : decode cX10_gap 16 = .ok (.iconst (-1), 1) := by decide +kernel
theorem dX10_gap_17 : decode cX10_gap 17 = .ok (.ireturn, 1) := by decide +kernel
theorem dX10_worstNow_0 : decode cX10_worstNow 0 = .ok (.iconst 0, 1) := by decide +kernel
theorem dX10_worstNow_1 : decode cX10_worstNow 1 = .ok (.istore_n 1, 1) := by decide +kernel
theorem dX10_worstNow_2 : decode cX10_worstNow 2 = .ok (.iconst 0, 1) := by decide +kernel
theorem dX10_worstNow_3 : decode cX10_worstNow 3 = .ok (.istore_n 2, 1) := by decide +kernel
theorem dX10_worstNow_4 : decode cX10_worstNow 4 = .ok (.iload_n 2, 1) := by decide +kernel
theorem dX10_worstNow_5 : decode cX10_worstNow 5 = .ok (.aload_n 0, 1) := by decide +kernel
theorem dX10_worstNow_6 : decode cX10_worstNow 6 = .ok (.getfield 74, 3) := by decide +kernel
theorem dX10_worstNow_9 : decode cX10_worstNow 9 = .ok (.if_icmp .ge 46, 3) := by decide +kernel
theorem dX10_worstNow_12 : decode cX10_worstNow 12 = .ok (.aload_n 0, 1) := by decide +kernel
theorem dX10_worstNow_13 : decode cX10_worstNow 13 = .ok (.iload_n 2, 1) := by decide +kernel
theorem dX10_worstNow_14 : decode cX10_worstNow 14 = .ok (.invokevirtual 179, 3) := by decide +kernel
theorem dX10_worstNow_17 : decode cX10_worstNow 17 = .ok (.istore_n 3, 1) := by decide +kernel
theorem dX10_worstNow_18 : decode cX10_worstNow 18 = .ok (.iload_n 3, 1) := by decide +kernel
theorem dX10_worstNow_19 : decode cX10_worstNow 19 = .ok (.bipush (-9), 2) := by decide +kernel
theorem dX10_worstNow_21 : decode cX10_worstNow 21 = .ok (.if_icmp .ne 8, 3) := by decide +kernel
theorem dX10_worstNow_24 : decode cX10_worstNow 24 = .ok (.ldc 137, 2) := by decide +kernel
theorem dX10_worstNow_26 : decode cX10_worstNow 26 = .ok (.goto 13, 3) := by decide +kernel
theorem dX10_worstNow_29 : decode cX10_worstNow 29 = .ok (.iload_n 3, 1) := by decide +kernel
theorem dX10_worstNow_30 : decode cX10_worstNow 30 = .ok (.iload_n 1, 1) := by decide +kernel
theorem dX10_worstNow_31 : decode cX10_worstNow 31 = .ok (.if_icmp .le 7, 3) := by decide +kernel
theorem dX10_worstNow_34 : decode cX10_worstNow 34 = .ok (.iload_n 3, 1) := by decide +kernel
theorem dX10_worstNow_35 : decode cX10_worstNow 35 = .ok (.goto 4, 3) := by decide +kernel
theorem dX10_worstNow_38 : decode cX10_worstNow 38 = .ok (.iload_n 1, 1) := by decide +kernel
theorem dX10_worstNow_39 : decode cX10_worstNow 39 = .ok (.istore_n 1, 1) := by decide +kernel
theorem dX10_worstNow_40 : decode cX10_worstNow 40 = .ok (.iload_n 1, 1) := by decide +kernel
theorem dX10_worstNow_41 : decode cX10_worstNow 41 = .ok (.ldc 137, 2) := by decide +kernel
theorem dX10_worstNow_43 : decode cX10_worstNow 43 = .ok (.if_icmp .ne 6, 3) := by decide +kernel
theorem dX10_worstNow_46 : decode cX10_worstNow 46 = .ok (.ldc 137, 2) := by decide +kernel
theorem dX10_worstNow_48 : decode cX10_worstNow 48 = .ok (.ireturn, 1) := by decide +kernel
theorem dX10_worstNow_49 : decode cX10_worstNow 49 = .ok (.iinc 2 1, 3) := by decide +kernel
theorem dX10_worstNow_52 : decode cX10_worstNow 52 = .ok (.goto (-48), 3) := by decide +kernel
theorem dX10_worstNow_55 : decode cX10_worstNow 55 = .ok (.iload_n 1, 1) := by decide +kernel
theorem dX10_worstNow_56 : decode cX10_worstNow 56 = .ok (.ireturn, 1) := by decide +kernel
theorem dX10_worst_0 : decode cX10_worst 0 = .ok (.aload_n 0, 1) := by decide +kernel
theorem dX10_worst_1 : decode cX10_worst 1 = .ok (.invokevirtual 182, 3) := by decide +kernel
theorem dX10_worst_4 : decode cX10_worst 4 = .ok (.istore_n 1, 1) := by decide +kernel
theorem dX10_worst_5 : decode cX10_worst 5 = .ok (.iload_n 1, 1) := by decide +kernel
theorem dX10_worst_6 : decode cX10_worst 6 = .ok (.ldc 137, 2) := by decide +kernel
theorem dX10_worst_8 : decode cX10_worst 8 = .ok (.if_icmp .ne 8, 3) := by decide +kernel
theorem dX10_worst_11 : decode cX10_worst 11 = .ok (.bipush (-9), 2) := by decide +kernel
theorem dX10_worst_13 : decode cX10_worst 13 = .ok (.goto 4, 3) := by decide +kernel
theorem dX10_worst_16 : decode cX10_worst 16 = .ok (.iload_n 1, 1) := by decide +kernel
theorem dX10_worst_17 : decode cX10_worst 17 = .ok (.ireturn, 1) := by decide +kernel
theorem dX10_arrange_0 : decode cX10_arrange 0 = .ok (.ldc 185, 2) := by decide +kernel
theorem dX10_arrange_2 : decode cX10_arrange 2 = .ok (.istore_n 1, 1) := by decide +kernel
theorem dX10_arrange_3 : decode cX10_arrange 3 = .ok (.iconst 0, 1) := by decide +kernel
theorem dX10_arrange_4 : decode cX10_arrange 4 = .ok (.istore_n 2, 1) := by decide +kernel
theorem dX10_arrange_5 : decode cX10_arrange 5 = .ok (.iconst 1, 1) := by decide +kernel
theorem dX10_arrange_6 : decode cX10_arrange 6 = .ok (.istore_n 3, 1) := by decide +kernel
theorem dX10_arrange_7 : decode cX10_arrange 7 = .ok (.iconst 0, 1) := by decide +kernel
theorem dX10_arrange_8 : decode cX10_arrange 8 = .ok (.istore 4, 2) := by decide +kernel
theorem dX10_arrange_10 : decode cX10_arrange 10 = .ok (.iload 4, 2) := by decide +kernel
theorem dX10_arrange_12 : decode cX10_arrange 12 = .ok (.iconst 4, 1) := by decide +kernel
theorem dX10_arrange_13 : decode cX10_arrange 13 = .ok (.if_icmp .ge 33, 3) := by decide +kernel
theorem dX10_arrange_16 : decode cX10_arrange 16 = .ok (.iload_n 3, 1) := by decide +kernel
theorem dX10_arrange_17 : decode cX10_arrange 17 = .ok (.aload_n 0, 1) := by decide +kernel
theorem dX10_arrange_18 : decode cX10_arrange 18 = .ok (.getfield 45, 3) := by decide +kernel
theorem dX10_arrange_21 : decode cX10_arrange 21 = .ok (.iload 4, 2) := by decide +kernel
theorem dX10_arrange_23 : decode cX10_arrange 23 = .ok (.iaload, 1) := by decide +kernel
theorem dX10_arrange_24 : decode cX10_arrange 24 = .ok (.ifCond .ne 7, 3) := by decide +kernel
theorem dX10_arrange_27 : decode cX10_arrange 27 = .ok (.iconst 1, 1) := by decide +kernel
theorem dX10_arrange_28 : decode cX10_arrange 28 = .ok (.goto 10, 3) := by decide +kernel
theorem dX10_arrange_31 : decode cX10_arrange 31 = .ok (.aload_n 0, 1) := by decide +kernel
theorem dX10_arrange_32 : decode cX10_arrange 32 = .ok (.getfield 45, 3) := by decide +kernel
theorem dX10_arrange_35 : decode cX10_arrange 35 = .ok (.iload 4, 2) := by decide +kernel
theorem dX10_arrange_37 : decode cX10_arrange 37 = .ok (.iaload, 1) := by decide +kernel
theorem dX10_arrange_38 : decode cX10_arrange 38 = .ok (.imul, 1) := by decide +kernel
theorem dX10_arrange_39 : decode cX10_arrange 39 = .ok (.istore_n 3, 1) := by decide +kernel
theorem dX10_arrange_40 : decode cX10_arrange 40 = .ok (.iinc 4 1, 3) := by decide +kernel
theorem dX10_arrange_43 : decode cX10_arrange 43 = .ok (.goto (-33), 3) := by decide +kernel
theorem dX10_arrange_46 : decode cX10_arrange 46 = .ok (.iconst 0, 1) := by decide +kernel
theorem dX10_arrange_47 : decode cX10_arrange 47 = .ok (.istore 4, 2) := by decide +kernel
theorem dX10_arrange_49 : decode cX10_arrange 49 = .ok (.iload 4, 2) := by decide +kernel
theorem dX10_arrange_51 : decode cX10_arrange 51 = .ok (.iload_n 3, 1) := by decide +kernel
theorem dX10_arrange_52 : decode cX10_arrange 52 = .ok (.if_icmp .ge 33, 3) := by decide +kernel
theorem dX10_arrange_55 : decode cX10_arrange 55 = .ok (.aload_n 0, 1) := by decide +kernel
theorem dX10_arrange_56 : decode cX10_arrange 56 = .ok (.iload 4, 2) := by decide +kernel
theorem dX10_arrange_58 : decode cX10_arrange 58 = .ok (.invokevirtual 186, 3) := by decide +kernel
theorem dX10_arrange_61 : decode cX10_arrange 61 = .ok (.aload_n 0, 1) := by decide +kernel
theorem dX10_arrange_62 : decode cX10_arrange 62 = .ok (.invokevirtual 182, 3) := by decide +kernel
theorem dX10_arrange_65 : decode cX10_arrange 65 = .ok (.istore 5, 2) := by decide +kernel
theorem dX10_arrange_67 : decode cX10_arrange 67 = .ok (.iload 5, 2) := by decide +kernel
theorem dX10_arrange_69 : decode cX10_arrange 69 = .ok (.iload_n 1, 1) := by decide +kernel
theorem dX10_arrange_70 : decode cX10_arrange 70 = .ok (.if_icmp .ge 9, 3) := by decide +kernel
theorem dX10_arrange_73 : decode cX10_arrange 73 = .ok (.iload 5, 2) := by decide +kernel
theorem dX10_arrange_75 : decode cX10_arrange 75 = .ok (.istore_n 1, 1) := by decide +kernel
theorem dX10_arrange_76 : decode cX10_arrange 76 = .ok (.iload 4, 2) := by decide +kernel
theorem dX10_arrange_78 : decode cX10_arrange 78 = .ok (.istore_n 2, 1) := by decide +kernel
theorem dX10_arrange_79 : decode cX10_arrange 79 = .ok (.iinc 4 1, 3) := by decide +kernel
theorem dX10_arrange_82 : decode cX10_arrange 82 = .ok (.goto (-33), 3) := by decide +kernel
theorem dX10_arrange_85 : decode cX10_arrange 85 = .ok (.aload_n 0, 1) := by decide +kernel
theorem dX10_arrange_86 : decode cX10_arrange 86 = .ok (.iload_n 2, 1) := by decide +kernel
theorem dX10_arrange_87 : decode cX10_arrange 87 = .ok (.invokevirtual 186, 3) := by decide +kernel
theorem dX10_arrange_90 : decode cX10_arrange 90 = .ok (.iload_n 1, 1) := by decide +kernel
theorem dX10_arrange_91 : decode cX10_arrange 91 = .ok (.ldc 137, 2) := by decide +kernel
theorem dX10_arrange_93 : decode cX10_arrange 93 = .ok (.if_icmp .ne 8, 3) := by decide +kernel
theorem dX10_arrange_96 : decode cX10_arrange 96 = .ok (.bipush (-9), 2) := by decide +kernel
theorem dX10_arrange_98 : decode cX10_arrange 98 = .ok (.goto 4, 3) := by decide +kernel
theorem dX10_arrange_101 : decode cX10_arrange 101 = .ok (.iload_n 1, 1) := by decide +kernel
theorem dX10_arrange_102 : decode cX10_arrange 102 = .ok (.ireturn, 1) := by decide +kernel
theorem dX10_layShifts_0 : decode cX10_layShifts 0 = .ok (.iload_n 1, 1) := by decide +kernel
theorem dX10_layShifts_1 : decode cX10_layShifts 1 = .ok (.istore_n 2, 1) := by decide +kernel
theorem dX10_layShifts_2 : decode cX10_layShifts 2 = .ok (.iconst 3, 1) := by decide +kernel
theorem dX10_layShifts_3 : decode cX10_layShifts 3 = .ok (.istore_n 3, 1) := by decide +kernel
theorem dX10_layShifts_4 : decode cX10_layShifts 4 = .ok (.iload_n 3, 1) := by decide +kernel
theorem dX10_layShifts_5 : decode cX10_layShifts 5 = .ok (.ifCond .lt 45, 3) := by decide +kernel
theorem dX10_layShifts_8 : decode cX10_layShifts 8 = .ok (.aload_n 0, 1) := by decide +kernel
theorem dX10_layShifts_9 : decode cX10_layShifts 9 = .ok (.getfield 45, 3) := by decide +kernel
theorem dX10_layShifts_12 : decode cX10_layShifts 12 = .ok (.iload_n 3, 1) := by decide +kernel
theorem dX10_layShifts_13 : decode cX10_layShifts 13 = .ok (.iaload, 1) := by decide +kernel
theorem dX10_layShifts_14 : decode cX10_layShifts 14 = .ok (.ifCond .ne 7, 3) := by decide +kernel
theorem dX10_layShifts_17 : decode cX10_layShifts 17 = .ok (.iconst 1, 1) := by decide +kernel
theorem dX10_layShifts_18 : decode cX10_layShifts 18 = .ok (.goto 9, 3) := by decide +kernel
theorem dX10_layShifts_21 : decode cX10_layShifts 21 = .ok (.aload_n 0, 1) := by decide +kernel
theorem dX10_layShifts_22 : decode cX10_layShifts 22 = .ok (.getfield 45, 3) := by decide +kernel
theorem dX10_layShifts_25 : decode cX10_layShifts 25 = .ok (.iload_n 3, 1) := by decide +kernel
theorem dX10_layShifts_26 : decode cX10_layShifts 26 = .ok (.iaload, 1) := by decide +kernel
theorem dX10_layShifts_27 : decode cX10_layShifts 27 = .ok (.istore 4, 2) := by decide +kernel
theorem dX10_layShifts_29 : decode cX10_layShifts 29 = .ok (.aload_n 0, 1) := by decide +kernel
theorem dX10_layShifts_30 : decode cX10_layShifts 30 = .ok (.getfield 51, 3) := by decide +kernel
theorem dX10_layShifts_33 : decode cX10_layShifts 33 = .ok (.iload_n 3, 1) := by decide +kernel
theorem dX10_layShifts_34 : decode cX10_layShifts 34 = .ok (.iload_n 2, 1) := by decide +kernel
theorem dX10_layShifts_35 : decode cX10_layShifts 35 = .ok (.iload 4, 2) := by decide +kernel
theorem dX10_layShifts_37 : decode cX10_layShifts 37 = .ok (.irem, 1) := by decide +kernel
theorem dX10_layShifts_38 : decode cX10_layShifts 38 = .ok (.iastore, 1) := by decide +kernel
theorem dX10_layShifts_39 : decode cX10_layShifts 39 = .ok (.iload_n 2, 1) := by decide +kernel
theorem dX10_layShifts_40 : decode cX10_layShifts 40 = .ok (.iload 4, 2) := by decide +kernel
theorem dX10_layShifts_42 : decode cX10_layShifts 42 = .ok (.idiv, 1) := by decide +kernel
theorem dX10_layShifts_43 : decode cX10_layShifts 43 = .ok (.istore_n 2, 1) := by decide +kernel
theorem dX10_layShifts_44 : decode cX10_layShifts 44 = .ok (.iinc 3 (-1), 3) := by decide +kernel
theorem dX10_layShifts_47 : decode cX10_layShifts 47 = .ok (.goto (-43), 3) := by decide +kernel
theorem dX10_layShifts_50 : decode cX10_layShifts 50 = .ok (.return_, 1) := by decide +kernel
theorem dX10_layDanger_0 : decode cX10_layDanger 0 = .ok (.iconst 0, 1) := by decide +kernel
theorem dX10_layDanger_1 : decode cX10_layDanger 1 = .ok (.istore_n 2, 1) := by decide +kernel
theorem dX10_layDanger_2 : decode cX10_layDanger 2 = .ok (.iload_n 2, 1) := by decide +kernel
theorem dX10_layDanger_3 : decode cX10_layDanger 3 = .ok (.bipush 64, 2) := by decide +kernel
theorem dX10_layDanger_5 : decode cX10_layDanger 5 = .ok (.iload_n 1, 1) := by decide +kernel
theorem dX10_layDanger_6 : decode cX10_layDanger 6 = .ok (.imul, 1) := by decide +kernel
theorem dX10_layDanger_7 : decode cX10_layDanger 7 = .ok (.if_icmp .ge 51, 3) := by decide +kernel
theorem dX10_layDanger_10 : decode cX10_layDanger 10 = .ok (.aload_n 0, 1) := by decide +kernel
theorem dX10_layDanger_11 : decode cX10_layDanger 11 = .ok (.getfield 57, 3) := by decide +kernel
theorem dX10_layDanger_14 : decode cX10_layDanger 14 = .ok (.iload_n 2, 1) := by decide +kernel
theorem dX10_layDanger_15 : decode cX10_layDanger 15 = .ok (.iload_n 2, 1) := by decide +kernel
theorem dX10_layDanger_16 : decode cX10_layDanger 16 = .ok (.bipush 64, 2) := by decide +kernel
theorem dX10_layDanger_18 : decode cX10_layDanger 18 = .ok (.irem, 1) := by decide +kernel
theorem dX10_layDanger_19 : decode cX10_layDanger 19 = .ok (.aload_n 0, 1) := by decide +kernel
theorem dX10_layDanger_20 : decode cX10_layDanger 20 = .ok (.getfield 68, 3) := by decide +kernel
theorem dX10_layDanger_23 : decode cX10_layDanger 23 = .ok (.aload_n 0, 1) := by decide +kernel
theorem dX10_layDanger_24 : decode cX10_layDanger 24 = .ok (.getfield 71, 3) := by decide +kernel
theorem dX10_layDanger_27 : decode cX10_layDanger 27 = .ok (.imul, 1) := by decide +kernel
theorem dX10_layDanger_28 : decode cX10_layDanger 28 = .ok (.if_icmp .ge 22, 3) := by decide +kernel
theorem dX10_layDanger_31 : decode cX10_layDanger 31 = .ok (.aload_n 0, 1) := by decide +kernel
theorem dX10_layDanger_32 : decode cX10_layDanger 32 = .ok (.iload_n 2, 1) := by decide +kernel
theorem dX10_layDanger_33 : decode cX10_layDanger 33 = .ok (.bipush 64, 2) := by decide +kernel
theorem dX10_layDanger_35 : decode cX10_layDanger 35 = .ok (.irem, 1) := by decide +kernel
theorem dX10_layDanger_36 : decode cX10_layDanger 36 = .ok (.iload_n 2, 1) := by decide +kernel
theorem dX10_layDanger_37 : decode cX10_layDanger 37 = .ok (.bipush 64, 2) := by decide +kernel
theorem dX10_layDanger_39 : decode cX10_layDanger 39 = .ok (.idiv, 1) := by decide +kernel
theorem dX10_layDanger_40 : decode cX10_layDanger 40 = .ok (.invokevirtual 166, 3) := by decide +kernel
theorem dX10_layDanger_43 : decode cX10_layDanger 43 = .ok (.ifCond .eq 7, 3) := by decide +kernel
theorem dX10_layDanger_46 : decode cX10_layDanger 46 = .ok (.iconst 1, 1) := by decide +kernel
theorem dX10_layDanger_47 : decode cX10_layDanger 47 = .ok (.goto 4, 3) := by decide +kernel
theorem dX10_layDanger_50 : decode cX10_layDanger 50 = .ok (.iconst 0, 1) := by decide +kernel
theorem dX10_layDanger_51 : decode cX10_layDanger 51 = .ok (.bastore, 1) := by decide +kernel
theorem dX10_layDanger_52 : decode cX10_layDanger 52 = .ok (.iinc 2 1, 3) := by decide +kernel
theorem dX10_layDanger_55 : decode cX10_layDanger 55 = .ok (.goto (-53), 3) := by decide +kernel
theorem dX10_layDanger_58 : decode cX10_layDanger 58 = .ok (.return_, 1) := by decide +kernel
theorem dX10_layTheft_0 : decode cX10_layTheft 0 = .ok (.aload_n 0, 1) := by decide +kernel
theorem dX10_layTheft_1 : decode cX10_layTheft 1 = .ok (.invokevirtual 172, 3) := by decide +kernel
theorem dX10_layTheft_4 : decode cX10_layTheft 4 = .ok (.istore_n 3, 1) := by decide +kernel
theorem dX10_layTheft_5 : decode cX10_layTheft 5 = .ok (.aload_n 0, 1) := by decide +kernel
theorem dX10_layTheft_6 : decode cX10_layTheft 6 = .ok (.iload_n 3, 1) := by decide +kernel
theorem dX10_layTheft_7 : decode cX10_layTheft 7 = .ok (.invokevirtual 189, 3) := by decide +kernel
theorem dX10_layTheft_10 : decode cX10_layTheft 10 = .ok (.iconst 0, 1) := by decide +kernel
theorem dX10_layTheft_11 : decode cX10_layTheft 11 = .ok (.istore 4, 2) := by decide +kernel
theorem dX10_layTheft_13 : decode cX10_layTheft 13 = .ok (.iload 4, 2) := by decide +kernel
theorem dX10_layTheft_15 : decode cX10_layTheft 15 = .ok (.sipush 128, 3) := by decide +kernel
theorem dX10_layTheft_18 : decode cX10_layTheft 18 = .ok (.iload_n 3, 1) := by decide +kernel
theorem dX10_layTheft_19 : decode cX10_layTheft 19 = .ok (.imul, 1) := by decide +kernel
theorem dX10_layTheft_20 : decode cX10_layTheft 20 = .ok (.if_icmp .ge 18, 3) := by decide +kernel
theorem dX10_layTheft_23 : decode cX10_layTheft 23 = .ok (.aload_n 0, 1) := by decide +kernel
theorem dX10_layTheft_24 : decode cX10_layTheft 24 = .ok (.getfield 54, 3) := by decide +kernel
theorem dX10_layTheft_27 : decode cX10_layTheft 27 = .ok (.iload 4, 2) := by decide +kernel
theorem dX10_layTheft_29 : decode cX10_layTheft 29 = .ok (.bipush (-9), 2) := by decide +kernel
theorem dX10_layTheft_31 : decode cX10_layTheft 31 = .ok (.iastore, 1) := by decide +kernel
theorem dX10_layTheft_32 : decode cX10_layTheft 32 = .ok (.iinc 4 1, 3) := by decide +kernel
theorem dX10_layTheft_35 : decode cX10_layTheft 35 = .ok (.goto (-22), 3) := by decide +kernel
theorem dX10_layTheft_38 : decode cX10_layTheft 38 = .ok (.iconst 0, 1) := by decide +kernel
theorem dX10_layTheft_39 : decode cX10_layTheft 39 = .ok (.istore 4, 2) := by decide +kernel
theorem dX10_layTheft_41 : decode cX10_layTheft 41 = .ok (.iconst 0, 1) := by decide +kernel
theorem dX10_layTheft_42 : decode cX10_layTheft 42 = .ok (.istore 5, 2) := by decide +kernel
theorem dX10_layTheft_44 : decode cX10_layTheft 44 = .ok (.iload 5, 2) := by decide +kernel
theorem dX10_layTheft_46 : decode cX10_layTheft 46 = .ok (.iload_n 3, 1) := by decide +kernel
theorem dX10_layTheft_47 : decode cX10_layTheft 47 = .ok (.if_icmp .ge 72, 3) := by decide +kernel
theorem dX10_layTheft_50 : decode cX10_layTheft 50 = .ok (.aload_n 0, 1) := by decide +kernel
theorem dX10_layTheft_51 : decode cX10_layTheft 51 = .ok (.iload_n 2, 1) := by decide +kernel
theorem dX10_layTheft_52 : decode cX10_layTheft 52 = .ok (.invokevirtual 91, 3) := by decide +kernel
theorem dX10_layTheft_55 : decode cX10_layTheft 55 = .ok (.ifCond .eq 58, 3) := by decide +kernel
theorem dX10_layTheft_58 : decode cX10_layTheft 58 = .ok (.aload_n 0, 1) := by decide +kernel
theorem dX10_layTheft_59 : decode cX10_layTheft 59 = .ok (.getfield 57, 3) := by decide +kernel
theorem dX10_layTheft_62 : decode cX10_layTheft 62 = .ok (.bipush 64, 2) := by decide +kernel
theorem dX10_layTheft_64 : decode cX10_layTheft 64 = .ok (.iload 5, 2) := by decide +kernel
theorem dX10_layTheft_66 : decode cX10_layTheft 66 = .ok (.imul, 1) := by decide +kernel
theorem dX10_layTheft_67 : decode cX10_layTheft 67 = .ok (.iload_n 2, 1) := by decide +kernel
theorem dX10_layTheft_68 : decode cX10_layTheft 68 = .ok (.iadd, 1) := by decide +kernel
theorem dX10_layTheft_69 : decode cX10_layTheft 69 = .ok (.baload, 1) := by decide +kernel
theorem dX10_layTheft_70 : decode cX10_layTheft 70 = .ok (.ifCond .ne 43, 3) := by decide +kernel
theorem dX10_layTheft_73 : decode cX10_layTheft 73 = .ok (.aload_n 0, 1) := by decide +kernel
theorem dX10_layTheft_74 : decode cX10_layTheft 74 = .ok (.getfield 54, 3) := by decide +kernel
theorem dX10_layTheft_77 : decode cX10_layTheft 77 = .ok (.sipush 128, 3) := by decide +kernel
theorem dX10_layTheft_80 : decode cX10_layTheft 80 = .ok (.iload 5, 2) := by decide +kernel
theorem dX10_layTheft_82 : decode cX10_layTheft 82 = .ok (.imul, 1) := by decide +kernel
theorem dX10_layTheft_83 : decode cX10_layTheft 83 = .ok (.iconst 2, 1) := by decide +kernel
theorem dX10_layTheft_84 : decode cX10_layTheft 84 = .ok (.iload_n 2, 1) := by decide +kernel
theorem dX10_layTheft_85 : decode cX10_layTheft 85 = .ok (.imul, 1) := by decide +kernel
theorem dX10_layTheft_86 : decode cX10_layTheft 86 = .ok (.iadd, 1) := by decide +kernel
theorem dX10_layTheft_87 : decode cX10_layTheft 87 = .ok (.iconst 1, 1) := by decide +kernel
theorem dX10_layTheft_88 : decode cX10_layTheft 88 = .ok (.iadd, 1) := by decide +kernel
theorem dX10_layTheft_89 : decode cX10_layTheft 89 = .ok (.iconst 0, 1) := by decide +kernel
theorem dX10_layTheft_90 : decode cX10_layTheft 90 = .ok (.iastore, 1) := by decide +kernel
theorem dX10_layTheft_91 : decode cX10_layTheft 91 = .ok (.aload_n 0, 1) := by decide +kernel
theorem dX10_layTheft_92 : decode cX10_layTheft 92 = .ok (.getfield 21, 3) := by decide +kernel
theorem dX10_layTheft_95 : decode cX10_layTheft 95 = .ok (.iload 4, 2) := by decide +kernel
theorem dX10_layTheft_97 : decode cX10_layTheft 97 = .ok (.sipush 128, 3) := by decide +kernel
theorem dX10_layTheft_100 : decode cX10_layTheft 100 = .ok (.iload 5, 2) := by decide +kernel
theorem dX10_layTheft_102 : decode cX10_layTheft 102 = .ok (.imul, 1) := by decide +kernel
theorem dX10_layTheft_103 : decode cX10_layTheft 103 = .ok (.iconst 2, 1) := by decide +kernel
theorem dX10_layTheft_104 : decode cX10_layTheft 104 = .ok (.iload_n 2, 1) := by decide +kernel
theorem dX10_layTheft_105 : decode cX10_layTheft 105 = .ok (.imul, 1) := by decide +kernel
theorem dX10_layTheft_106 : decode cX10_layTheft 106 = .ok (.iadd, 1) := by decide +kernel
theorem dX10_layTheft_107 : decode cX10_layTheft 107 = .ok (.iconst 1, 1) := by decide +kernel
theorem dX10_layTheft_108 : decode cX10_layTheft 108 = .ok (.iadd, 1) := by decide +kernel
theorem dX10_layTheft_109 : decode cX10_layTheft 109 = .ok (.iastore, 1) := by decide +kernel
theorem dX10_layTheft_110 : decode cX10_layTheft 110 = .ok (.iinc 4 1, 3) := by decide +kernel
theorem dX10_layTheft_113 : decode cX10_layTheft 113 = .ok (.iinc 5 1, 3) := by decide +kernel
theorem dX10_layTheft_116 : decode cX10_layTheft 116 = .ok (.goto (-72), 3) := by decide +kernel
theorem dX10_layTheft_119 : decode cX10_layTheft 119 = .ok (.iconst 0, 1) := by decide +kernel
theorem dX10_layTheft_120 : decode cX10_layTheft 120 = .ok (.istore 5, 2) := by decide +kernel
theorem dX10_layTheft_122 : decode cX10_layTheft 122 = .ok (.iload 5, 2) := by decide +kernel
theorem dX10_layTheft_124 : decode cX10_layTheft 124 = .ok (.iload 4, 2) := by decide +kernel
theorem dX10_layTheft_126 : decode cX10_layTheft 126 = .ok (.if_icmp .ge 225, 3) := by decide +kernel
theorem dX10_layTheft_129 : decode cX10_layTheft 129 = .ok (.aload_n 0, 1) := by decide +kernel
theorem dX10_layTheft_130 : decode cX10_layTheft 130 = .ok (.getfield 21, 3) := by decide +kernel
theorem dX10_layTheft_133 : decode cX10_layTheft 133 = .ok (.iload 5, 2) := by decide +kernel
theorem dX10_layTheft_135 : decode cX10_layTheft 135 = .ok (.iaload, 1) := by decide +kernel
theorem dX10_layTheft_136 : decode cX10_layTheft 136 = .ok (.sipush 128, 3) := by decide +kernel
theorem dX10_layTheft_139 : decode cX10_layTheft 139 = .ok (.idiv, 1) := by decide +kernel
theorem dX10_layTheft_140 : decode cX10_layTheft 140 = .ok (.istore 6, 2) := by decide +kernel
theorem dX10_layTheft_142 : decode cX10_layTheft 142 = .ok (.aload_n 0, 1) := by decide +kernel
theorem dX10_layTheft_143 : decode cX10_layTheft 143 = .ok (.getfield 21, 3) := by decide +kernel
theorem dX10_layTheft_146 : decode cX10_layTheft 146 = .ok (.iload 5, 2) := by decide +kernel
theorem dX10_layTheft_148 : decode cX10_layTheft 148 = .ok (.iaload, 1) := by decide +kernel
theorem dX10_layTheft_149 : decode cX10_layTheft 149 = .ok (.sipush 128, 3) := by decide +kernel
theorem dX10_layTheft_152 : decode cX10_layTheft 152 = .ok (.irem, 1) := by decide +kernel
theorem dX10_layTheft_153 : decode cX10_layTheft 153 = .ok (.iconst 2, 1) := by decide +kernel
theorem dX10_layTheft_154 : decode cX10_layTheft 154 = .ok (.idiv, 1) := by decide +kernel
theorem dX10_layTheft_155 : decode cX10_layTheft 155 = .ok (.istore 7, 2) := by decide +kernel
theorem dX10_layTheft_157 : decode cX10_layTheft 157 = .ok (.aload_n 0, 1) := by decide +kernel
theorem dX10_layTheft_158 : decode cX10_layTheft 158 = .ok (.getfield 21, 3) := by decide +kernel
theorem dX10_layTheft_161 : decode cX10_layTheft 161 = .ok (.iload 5, 2) := by decide +kernel
theorem dX10_layTheft_163 : decode cX10_layTheft 163 = .ok (.iaload, 1) := by decide +kernel
theorem dX10_layTheft_164 : decode cX10_layTheft 164 = .ok (.iconst 2, 1) := by decide +kernel
theorem dX10_layTheft_165 : decode cX10_layTheft 165 = .ok (.irem, 1) := by decide +kernel
theorem dX10_layTheft_166 : decode cX10_layTheft 166 = .ok (.iconst 1, 1) := by decide +kernel
theorem dX10_layTheft_167 : decode cX10_layTheft 167 = .ok (.if_icmp .ne 7, 3) := by decide +kernel
theorem dX10_layTheft_170 : decode cX10_layTheft 170 = .ok (.iconst 1, 1) := by decide +kernel
theorem dX10_layTheft_171 : decode cX10_layTheft 171 = .ok (.goto 4, 3) := by decide +kernel
theorem dX10_layTheft_174 : decode cX10_layTheft 174 = .ok (.iconst 0, 1) := by decide +kernel
theorem dX10_layTheft_175 : decode cX10_layTheft 175 = .ok (.istore 8, 2) := by decide +kernel
theorem dX10_layTheft_177 : decode cX10_layTheft 177 = .ok (.iload 6, 2) := by decide +kernel
theorem dX10_layTheft_179 : decode cX10_layTheft 179 = .ok (.iload_n 3, 1) := by decide +kernel
theorem dX10_layTheft_180 : decode cX10_layTheft 180 = .ok (.iadd, 1) := by decide +kernel
theorem dX10_layTheft_181 : decode cX10_layTheft 181 = .ok (.iconst 1, 1) := by decide +kernel
theorem dX10_layTheft_182 : decode cX10_layTheft 182 = .ok (.isub, 1) := by decide +kernel
theorem dX10_layTheft_183 : decode cX10_layTheft 183 = .ok (.iload_n 3, 1) := by decide +kernel
theorem dX10_layTheft_184 : decode cX10_layTheft 184 = .ok (.irem, 1) := by decide +kernel
theorem dX10_layTheft_185 : decode cX10_layTheft 185 = .ok (.istore 9, 2) := by decide +kernel
theorem dX10_layTheft_187 : decode cX10_layTheft 187 = .ok (.iconst 0, 1) := by decide +kernel
theorem dX10_layTheft_188 : decode cX10_layTheft 188 = .ok (.istore 10, 2) := by decide +kernel
theorem dX10_layTheft_190 : decode cX10_layTheft 190 = .ok (.iload 10, 2) := by decide +kernel
theorem dX10_layTheft_192 : decode cX10_layTheft 192 = .ok (.iconst 5, 1) := by decide +kernel
theorem dX10_layTheft_193 : decode cX10_layTheft 193 = .ok (.if_icmp .ge 152, 3) := by decide +kernel
theorem dX10_layTheft_196 : decode cX10_layTheft 196 = .ok (.iload 10, 2) := by decide +kernel
theorem dX10_layTheft_198 : decode cX10_layTheft 198 = .ok (.iconst 4, 1) := by decide +kernel
theorem dX10_layTheft_199 : decode cX10_layTheft 199 = .ok (.if_icmp .ne 8, 3) := by decide +kernel
theorem dX10_layTheft_202 : decode cX10_layTheft 202 = .ok (.iload 7, 2) := by decide +kernel
theorem dX10_layTheft_204 : decode cX10_layTheft 204 = .ok (.goto 11, 3) := by decide +kernel
theorem dX10_layTheft_207 : decode cX10_layTheft 207 = .ok (.aload_n 0, 1) := by decide +kernel
theorem dX10_layTheft_208 : decode cX10_layTheft 208 = .ok (.iload 7, 2) := by decide +kernel
theorem dX10_layTheft_210 : decode cX10_layTheft 210 = .ok (.iload 10, 2) := by decide +kernel
theorem dX10_layTheft_212 : decode cX10_layTheft 212 = .ok (.invokevirtual 94, 3) := by decide +kernel
theorem dX10_layTheft_215 : decode cX10_layTheft 215 = .ok (.istore 11, 2) := by decide +kernel
theorem dX10_layTheft_217 : decode cX10_layTheft 217 = .ok (.iload 11, 2) := by decide +kernel
theorem dX10_layTheft_219 : decode cX10_layTheft 219 = .ok (.bipush (-9), 2) := by decide +kernel
theorem dX10_layTheft_221 : decode cX10_layTheft 221 = .ok (.if_icmp .eq 118, 3) := by decide +kernel
theorem dX10_layTheft_224 : decode cX10_layTheft 224 = .ok (.aload_n 0, 1) := by decide +kernel
theorem dX10_layTheft_225 : decode cX10_layTheft 225 = .ok (.getfield 57, 3) := by decide +kernel
theorem dX10_layTheft_228 : decode cX10_layTheft 228 = .ok (.bipush 64, 2) := by decide +kernel
theorem dX10_layTheft_230 : decode cX10_layTheft 230 = .ok (.iload 9, 2) := by decide +kernel
theorem dX10_layTheft_232 : decode cX10_layTheft 232 = .ok (.imul, 1) := by decide +kernel
theorem dX10_layTheft_233 : decode cX10_layTheft 233 = .ok (.iload 11, 2) := by decide +kernel
theorem dX10_layTheft_235 : decode cX10_layTheft 235 = .ok (.iadd, 1) := by decide +kernel
theorem dX10_layTheft_236 : decode cX10_layTheft 236 = .ok (.baload, 1) := by decide +kernel
theorem dX10_layTheft_237 : decode cX10_layTheft 237 = .ok (.ifCond .ne 102, 3) := by decide +kernel
theorem dX10_layTheft_240 : decode cX10_layTheft 240 = .ok (.iload 7, 2) := by decide +kernel
theorem dX10_layTheft_242 : decode cX10_layTheft 242 = .ok (.aload_n 0, 1) := by decide +kernel
theorem dX10_layTheft_243 : decode cX10_layTheft 243 = .ok (.getfield 27, 3) := by decide +kernel
theorem dX10_layTheft_246 : decode cX10_layTheft 246 = .ok (.iload_n 1, 1) := by decide +kernel
theorem dX10_layTheft_247 : decode cX10_layTheft 247 = .ok (.iaload, 1) := by decide +kernel
theorem dX10_layTheft_248 : decode cX10_layTheft 248 = .ok (.if_icmp .ne 7, 3) := by decide +kernel
theorem dX10_layTheft_251 : decode cX10_layTheft 251 = .ok (.iconst 1, 1) := by decide +kernel
theorem dX10_layTheft_252 : decode cX10_layTheft 252 = .ok (.goto 4, 3) := by decide +kernel
theorem dX10_layTheft_255 : decode cX10_layTheft 255 = .ok (.iconst 0, 1) := by decide +kernel
theorem dX10_layTheft_256 : decode cX10_layTheft 256 = .ok (.istore 12, 2) := by decide +kernel
theorem dX10_layTheft_258 : decode cX10_layTheft 258 = .ok (.aload_n 0, 1) := by decide +kernel
theorem dX10_layTheft_259 : decode cX10_layTheft 259 = .ok (.sipush 128, 3) := by decide +kernel
theorem dX10_layTheft_262 : decode cX10_layTheft 262 = .ok (.iload 9, 2) := by decide +kernel
theorem dX10_layTheft_264 : decode cX10_layTheft 264 = .ok (.imul, 1) := by decide +kernel
theorem dX10_layTheft_265 : decode cX10_layTheft 265 = .ok (.iconst 2, 1) := by decide +kernel
theorem dX10_layTheft_266 : decode cX10_layTheft 266 = .ok (.iload 11, 2) := by decide +kernel
theorem dX10_layTheft_268 : decode cX10_layTheft 268 = .ok (.imul, 1) := by decide +kernel
theorem dX10_layTheft_269 : decode cX10_layTheft 269 = .ok (.iadd, 1) := by decide +kernel
theorem dX10_layTheft_270 : decode cX10_layTheft 270 = .ok (.iconst 1, 1) := by decide +kernel
theorem dX10_layTheft_271 : decode cX10_layTheft 271 = .ok (.iadd, 1) := by decide +kernel
theorem dX10_layTheft_272 : decode cX10_layTheft 272 = .ok (.iload 8, 2) := by decide +kernel
theorem dX10_layTheft_274 : decode cX10_layTheft 274 = .ok (.aload_n 0, 1) := by decide +kernel
theorem dX10_layTheft_275 : decode cX10_layTheft 275 = .ok (.getfield 21, 3) := by decide +kernel
theorem dX10_layTheft_278 : decode cX10_layTheft 278 = .ok (.iload 5, 2) := by decide +kernel
theorem dX10_layTheft_280 : decode cX10_layTheft 280 = .ok (.iaload, 1) := by decide +kernel
theorem dX10_layTheft_281 : decode cX10_layTheft 281 = .ok (.iload 4, 2) := by decide +kernel
theorem dX10_layTheft_283 : decode cX10_layTheft 283 = .ok (.invokevirtual 192, 3) := by decide +kernel
theorem dX10_layTheft_286 : decode cX10_layTheft 286 = .ok (.istore 4, 2) := by decide +kernel
theorem dX10_layTheft_288 : decode cX10_layTheft 288 = .ok (.aload_n 0, 1) := by decide +kernel
theorem dX10_layTheft_289 : decode cX10_layTheft 289 = .ok (.sipush 128, 3) := by decide +kernel
theorem dX10_layTheft_292 : decode cX10_layTheft 292 = .ok (.iload 9, 2) := by decide +kernel
theorem dX10_layTheft_294 : decode cX10_layTheft 294 = .ok (.imul, 1) := by decide +kernel
theorem dX10_layTheft_295 : decode cX10_layTheft 295 = .ok (.iconst 2, 1) := by decide +kernel
theorem dX10_layTheft_296 : decode cX10_layTheft 296 = .ok (.iload 11, 2) := by decide +kernel
theorem dX10_layTheft_298 : decode cX10_layTheft 298 = .ok (.imul, 1) := by decide +kernel
theorem dX10_layTheft_299 : decode cX10_layTheft 299 = .ok (.iadd, 1) := by decide +kernel
theorem dX10_layTheft_300 : decode cX10_layTheft 300 = .ok (.iload 8, 2) := by decide +kernel
theorem dX10_layTheft_302 : decode cX10_layTheft 302 = .ok (.ifCond .eq 8, 3) := by decide +kernel
theorem dX10_layTheft_305 : decode cX10_layTheft 305 = .ok (.iload 12, 2) := by decide +kernel
theorem dX10_layTheft_307 : decode cX10_layTheft 307 = .ok (.ifCond .ne 13, 3) := by decide +kernel
theorem dX10_layTheft_310 : decode cX10_layTheft 310 = .ok (.iload 8, 2) := by decide +kernel
theorem dX10_layTheft_312 : decode cX10_layTheft 312 = .ok (.ifCond .ne 12, 3) := by decide +kernel
theorem dX10_layTheft_315 : decode cX10_layTheft 315 = .ok (.iload 12, 2) := by decide +kernel
theorem dX10_layTheft_317 : decode cX10_layTheft 317 = .ok (.ifCond .ne 7, 3) := by decide +kernel
theorem dX10_layTheft_320 : decode cX10_layTheft 320 = .ok (.iconst 1, 1) := by decide +kernel
theorem dX10_layTheft_321 : decode cX10_layTheft 321 = .ok (.goto 4, 3) := by decide +kernel
theorem dX10_layTheft_324 : decode cX10_layTheft 324 = .ok (.iconst 0, 1) := by decide +kernel
theorem dX10_layTheft_325 : decode cX10_layTheft 325 = .ok (.aload_n 0, 1) := by decide +kernel
theorem dX10_layTheft_326 : decode cX10_layTheft 326 = .ok (.getfield 21, 3) := by decide +kernel
theorem dX10_layTheft_329 : decode cX10_layTheft 329 = .ok (.iload 5, 2) := by decide +kernel
theorem dX10_layTheft_331 : decode cX10_layTheft 331 = .ok (.iaload, 1) := by decide +kernel
theorem dX10_layTheft_332 : decode cX10_layTheft 332 = .ok (.iload 4, 2) := by decide +kernel
theorem dX10_layTheft_334 : decode cX10_layTheft 334 = .ok (.invokevirtual 192, 3) := by decide +kernel
theorem dX10_layTheft_337 : decode cX10_layTheft 337 = .ok (.istore 4, 2) := by decide +kernel
theorem dX10_layTheft_339 : decode cX10_layTheft 339 = .ok (.iinc 10 1, 3) := by decide +kernel
theorem dX10_layTheft_342 : decode cX10_layTheft 342 = .ok (.goto (-152), 3) := by decide +kernel
theorem dX10_layTheft_345 : decode cX10_layTheft 345 = .ok (.iinc 5 1, 3) := by decide +kernel
theorem dX10_layTheft_348 : decode cX10_layTheft 348 = .ok (.goto (-226), 3) := by decide +kernel
theorem dX10_layTheft_351 : decode cX10_layTheft 351 = .ok (.return_, 1) := by decide +kernel
theorem dX10_put_0 : decode cX10_put 0 = .ok (.iload_n 2, 1) := by decide +kernel
theorem dX10_put_1 : decode cX10_put 1 = .ok (.ifCond .eq 14, 3) := by decide +kernel
theorem dX10_put_4 : decode cX10_put 4 = .ok (.aload_n 0, 1) := by decide +kernel
theorem dX10_put_5 : decode cX10_put 5 = .ok (.getfield 54, 3) := by decide +kernel
theorem dX10_put_8 : decode cX10_put 8 = .ok (.iload_n 1, 1) := by decide +kernel
theorem dX10_put_9 : decode cX10_put 9 = .ok (.iaload, 1) := by decide +kernel
theorem dX10_put_10 : decode cX10_put 10 = .ok (.bipush (-9), 2) := by decide +kernel
theorem dX10_put_12 : decode cX10_put 12 = .ok (.if_icmp .eq 6, 3) := by decide +kernel
theorem dX10_put_15 : decode cX10_put 15 = .ok (.iload 4, 2) := by decide +kernel
theorem dX10_put_17 : decode cX10_put 17 = .ok (.ireturn, 1) := by decide +kernel
theorem dX10_put_18 : decode cX10_put 18 = .ok (.aload_n 0, 1) := by decide +kernel
theorem dX10_put_19 : decode cX10_put 19 = .ok (.getfield 54, 3) := by decide +kernel
theorem dX10_put_22 : decode cX10_put 22 = .ok (.iload_n 1, 1) := by decide +kernel
theorem dX10_put_23 : decode cX10_put 23 = .ok (.aload_n 0, 1) := by decide +kernel
theorem dX10_put_24 : decode cX10_put 24 = .ok (.getfield 54, 3) := by decide +kernel
theorem dX10_put_27 : decode cX10_put 27 = .ok (.iload_n 3, 1) := by decide +kernel
theorem dX10_put_28 : decode cX10_put 28 = .ok (.iaload, 1) := by decide +kernel
theorem dX10_put_29 : decode cX10_put 29 = .ok (.iconst 1, 1) := by decide +kernel
theorem dX10_put_30 : decode cX10_put 30 = .ok (.iadd, 1) := by decide +kernel
theorem dX10_put_31 : decode cX10_put 31 = .ok (.iastore, 1) := by decide +kernel
theorem dX10_put_32 : decode cX10_put 32 = .ok (.aload_n 0, 1) := by decide +kernel
theorem dX10_put_33 : decode cX10_put 33 = .ok (.getfield 21, 3) := by decide +kernel
theorem dX10_put_36 : decode cX10_put 36 = .ok (.iload 4, 2) := by decide +kernel
theorem dX10_put_38 : decode cX10_put 38 = .ok (.iload_n 1, 1) := by decide +kernel
theorem dX10_put_39 : decode cX10_put 39 = .ok (.iastore, 1) := by decide +kernel
theorem dX10_put_40 : decode cX10_put 40 = .ok (.iload 4, 2) := by decide +kernel
theorem dX10_put_42 : decode cX10_put 42 = .ok (.iconst 1, 1) := by decide +kernel
theorem dX10_put_43 : decode cX10_put 43 = .ok (.iadd, 1) := by decide +kernel
theorem dX10_put_44 : decode cX10_put 44 = .ok (.ireturn, 1) := by decide +kernel
theorem dX10_beginOf_0 : decode cX10_beginOf 0 = .ok (.sipush 128, 3) := by decide +kernel
theorem dX10_beginOf_3 : decode cX10_beginOf 3 = .ok (.iload_n 3, 1) := by decide +kernel
theorem dX10_beginOf_4 : decode cX10_beginOf 4 = .ok (.aload_n 0, 1) := by decide +kernel
theorem dX10_beginOf_5 : decode cX10_beginOf 5 = .ok (.invokevirtual 172, 3) := by decide +kernel
theorem dX10_beginOf_8 : decode cX10_beginOf 8 = .ok (.irem, 1) := by decide +kernel
theorem dX10_beginOf_9 : decode cX10_beginOf 9 = .ok (.imul, 1) := by decide +kernel
theorem dX10_beginOf_10 : decode cX10_beginOf 10 = .ok (.iconst 2, 1) := by decide +kernel
theorem dX10_beginOf_11 : decode cX10_beginOf 11 = .ok (.iload_n 2, 1) := by decide +kernel
theorem dX10_beginOf_12 : decode cX10_beginOf 12 = .ok (.imul, 1) := by decide +kernel
theorem dX10_beginOf_13 : decode cX10_beginOf 13 = .ok (.iadd, 1) := by decide +kernel
theorem dX10_beginOf_14 : decode cX10_beginOf 14 = .ok (.iload_n 2, 1) := by decide +kernel
theorem dX10_beginOf_15 : decode cX10_beginOf 15 = .ok (.aload_n 0, 1) := by decide +kernel
theorem dX10_beginOf_16 : decode cX10_beginOf 16 = .ok (.getfield 27, 3) := by decide +kernel
theorem dX10_beginOf_19 : decode cX10_beginOf 19 = .ok (.iload_n 1, 1) := by decide +kernel
theorem dX10_beginOf_20 : decode cX10_beginOf 20 = .ok (.iaload, 1) := by decide +kernel
theorem dX10_beginOf_21 : decode cX10_beginOf 21 = .ok (.if_icmp .ne 7, 3) := by decide +kernel
theorem dX10_beginOf_24 : decode cX10_beginOf 24 = .ok (.iconst 1, 1) := by decide +kernel
theorem dX10_beginOf_25 : decode cX10_beginOf 25 = .ok (.goto 4, 3) := by decide +kernel
theorem dX10_beginOf_28 : decode cX10_beginOf 28 = .ok (.iconst 0, 1) := by decide +kernel
theorem dX10_beginOf_29 : decode cX10_beginOf 29 = .ok (.iadd, 1) := by decide +kernel
theorem dX10_beginOf_30 : decode cX10_beginOf 30 = .ok (.ireturn, 1) := by decide +kernel
theorem dX10_mayBegin_0 : decode cX10_mayBegin 0 = .ok (.aload_n 0, 1) := by decide +kernel
theorem dX10_mayBegin_1 : decode cX10_mayBegin 1 = .ok (.iload_n 1, 1) := by decide +kernel
theorem dX10_mayBegin_2 : decode cX10_mayBegin 2 = .ok (.invokevirtual 91, 3) := by decide +kernel
theorem dX10_mayBegin_5 : decode cX10_mayBegin 5 = .ok (.ifCond .eq 16, 3) := by decide +kernel
theorem dX10_mayBegin_8 : decode cX10_mayBegin 8 = .ok (.aload_n 0, 1) := by decide +kernel
theorem dX10_mayBegin_9 : decode cX10_mayBegin 9 = .ok (.iload_n 1, 1) := by decide +kernel
theorem dX10_mayBegin_10 : decode cX10_mayBegin 10 = .ok (.iload_n 2, 1) := by decide +kernel
theorem dX10_mayBegin_11 : decode cX10_mayBegin 11 = .ok (.invokevirtual 166, 3) := by decide +kernel
theorem dX10_mayBegin_14 : decode cX10_mayBegin 14 = .ok (.ifCond .ne 7, 3) := by decide +kernel
theorem dX10_mayBegin_17 : decode cX10_mayBegin 17 = .ok (.iconst 1, 1) := by decide +kernel
theorem dX10_mayBegin_18 : decode cX10_mayBegin 18 = .ok (.goto 4, 3) := by decide +kernel
theorem dX10_mayBegin_21 : decode cX10_mayBegin 21 = .ok (.iconst 0, 1) := by decide +kernel
theorem dX10_mayBegin_22 : decode cX10_mayBegin 22 = .ok (.ireturn, 1) := by decide +kernel
theorem dX10_mayAsk_0 : decode cX10_mayAsk 0 = .ok (.aload_n 0, 1) := by decide +kernel
theorem dX10_mayAsk_1 : decode cX10_mayAsk 1 = .ok (.iload_n 1, 1) := by decide +kernel
theorem dX10_mayAsk_2 : decode cX10_mayAsk 2 = .ok (.invokevirtual 125, 3) := by decide +kernel
theorem dX10_mayAsk_5 : decode cX10_mayAsk 5 = .ok (.ifCond .eq 11, 3) := by decide +kernel
theorem dX10_mayAsk_8 : decode cX10_mayAsk 8 = .ok (.aload_n 0, 1) := by decide +kernel
theorem dX10_mayAsk_9 : decode cX10_mayAsk 9 = .ok (.iload_n 2, 1) := by decide +kernel
theorem dX10_mayAsk_10 : decode cX10_mayAsk 10 = .ok (.invokevirtual 85, 3) := by decide +kernel
theorem dX10_mayAsk_13 : decode cX10_mayAsk 13 = .ok (.ifCond .ne 7, 3) := by decide +kernel
theorem dX10_mayAsk_16 : decode cX10_mayAsk 16 = .ok (.iconst (-1), 1) := by decide +kernel
theorem dX10_mayAsk_17 : decode cX10_mayAsk 17 = .ok (.goto 21, 3) := by decide +kernel
theorem dX10_mayAsk_20 : decode cX10_mayAsk 20 = .ok (.iload_n 3, 1) := by decide +kernel
theorem dX10_mayAsk_21 : decode cX10_mayAsk 21 = .ok (.i2l, 1) := by decide +kernel
theorem dX10_mayAsk_22 : decode cX10_mayAsk 22 = .ok (.lconst 0, 1) := by decide +kernel
theorem dX10_mayAsk_23 : decode cX10_mayAsk 23 = .ok (.ldc2_w 161, 3) := by decide +kernel
theorem dX10_mayAsk_26 : decode cX10_mayAsk 26 = .ok (.invokestatic 77, 3) := by decide +kernel
theorem dX10_mayAsk_29 : decode cX10_mayAsk 29 = .ok (.ifCond .eq 7, 3) := by decide +kernel
theorem dX10_mayAsk_32 : decode cX10_mayAsk 32 = .ok (.iconst 0, 1) := by decide +kernel
theorem dX10_mayAsk_33 : decode cX10_mayAsk 33 = .ok (.goto 5, 3) := by decide +kernel
theorem dX10_mayAsk_36 : decode cX10_mayAsk 36 = .ok (.bipush (-2), 2) := by decide +kernel
theorem dX10_mayAsk_38 : decode cX10_mayAsk 38 = .ok (.ireturn, 1) := by decide +kernel
theorem dX10_theft_0 : decode cX10_theft 0 = .ok (.aload_n 0, 1) := by decide +kernel
theorem dX10_theft_1 : decode cX10_theft 1 = .ok (.iload_n 1, 1) := by decide +kernel
theorem dX10_theft_2 : decode cX10_theft 2 = .ok (.iload_n 2, 1) := by decide +kernel
theorem dX10_theft_3 : decode cX10_theft 3 = .ok (.iload_n 3, 1) := by decide +kernel
theorem dX10_theft_4 : decode cX10_theft 4 = .ok (.invokevirtual 196, 3) := by decide +kernel
theorem dX10_theft_7 : decode cX10_theft 7 = .ok (.istore 4, 2) := by decide +kernel
theorem dX10_theft_9 : decode cX10_theft 9 = .ok (.iload 4, 2) := by decide +kernel
theorem dX10_theft_11 : decode cX10_theft 11 = .ok (.ifCond .ge 6, 3) := by decide +kernel
theorem dX10_theft_14 : decode cX10_theft 14 = .ok (.iload 4, 2) := by decide +kernel
theorem dX10_theft_16 : decode cX10_theft 16 = .ok (.ireturn, 1) := by decide +kernel
theorem dX10_theft_17 : decode cX10_theft 17 = .ok (.aload_n 0, 1) := by decide +kernel
theorem dX10_theft_18 : decode cX10_theft 18 = .ok (.iload_n 2, 1) := by decide +kernel
theorem dX10_theft_19 : decode cX10_theft 19 = .ok (.iload_n 3, 1) := by decide +kernel
theorem dX10_theft_20 : decode cX10_theft 20 = .ok (.invokevirtual 200, 3) := by decide +kernel
theorem dX10_theft_23 : decode cX10_theft 23 = .ok (.ifCond .ne 6, 3) := by decide +kernel
theorem dX10_theft_26 : decode cX10_theft 26 = .ok (.bipush (-9), 2) := by decide +kernel
theorem dX10_theft_28 : decode cX10_theft 28 = .ok (.ireturn, 1) := by decide +kernel
theorem dX10_theft_29 : decode cX10_theft 29 = .ok (.aload_n 0, 1) := by decide +kernel
theorem dX10_theft_30 : decode cX10_theft 30 = .ok (.iload_n 1, 1) := by decide +kernel
theorem dX10_theft_31 : decode cX10_theft 31 = .ok (.iload_n 2, 1) := by decide +kernel
theorem dX10_theft_32 : decode cX10_theft 32 = .ok (.invokevirtual 203, 3) := by decide +kernel
theorem dX10_theft_35 : decode cX10_theft 35 = .ok (.aload_n 0, 1) := by decide +kernel
theorem dX10_theft_36 : decode cX10_theft 36 = .ok (.getfield 54, 3) := by decide +kernel
theorem dX10_theft_39 : decode cX10_theft 39 = .ok (.aload_n 0, 1) := by decide +kernel
theorem dX10_theft_40 : decode cX10_theft 40 = .ok (.iload_n 1, 1) := by decide +kernel
theorem dX10_theft_41 : decode cX10_theft 41 = .ok (.iload_n 2, 1) := by decide +kernel
theorem dX10_theft_42 : decode cX10_theft 42 = .ok (.iload_n 3, 1) := by decide +kernel
theorem dX10_theft_43 : decode cX10_theft 43 = .ok (.invokevirtual 206, 3) := by decide +kernel
theorem dX10_theft_46 : decode cX10_theft 46 = .ok (.iaload, 1) := by decide +kernel
theorem dX10_theft_47 : decode cX10_theft 47 = .ok (.ireturn, 1) := by decide +kernel
theorem dX10_theftStep_0 : decode cX10_theftStep 0 = .ok (.aload_n 0, 1) := by decide +kernel
theorem dX10_theftStep_1 : decode cX10_theftStep 1 = .ok (.iload_n 1, 1) := by decide +kernel
theorem dX10_theftStep_2 : decode cX10_theftStep 2 = .ok (.iload_n 2, 1) := by decide +kernel
theorem dX10_theftStep_3 : decode cX10_theftStep 3 = .ok (.iload_n 3, 1) := by decide +kernel
theorem dX10_theftStep_4 : decode cX10_theftStep 4 = .ok (.invokevirtual 196, 3) := by decide +kernel
theorem dX10_theftStep_7 : decode cX10_theftStep 7 = .ok (.istore 5, 2) := by decide +kernel
theorem dX10_theftStep_9 : decode cX10_theftStep 9 = .ok (.iload 5, 2) := by decide +kernel
theorem dX10_theftStep_11 : decode cX10_theftStep 11 = .ok (.ifCond .ge 6, 3) := by decide +kernel
theorem dX10_theftStep_14 : decode cX10_theftStep 14 = .ok (.iload 5, 2) := by decide +kernel
theorem dX10_theftStep_16 : decode cX10_theftStep 16 = .ok (.ireturn, 1) := by decide +kernel
theorem dX10_theftStep_17 : decode cX10_theftStep 17 = .ok (.aload_n 0, 1) := by decide +kernel
theorem dX10_theftStep_18 : decode cX10_theftStep 18 = .ok (.iload_n 2, 1) := by decide +kernel
theorem dX10_theftStep_19 : decode cX10_theftStep 19 = .ok (.iload_n 3, 1) := by decide +kernel
theorem dX10_theftStep_20 : decode cX10_theftStep 20 = .ok (.invokevirtual 200, 3) := by decide +kernel
theorem dX10_theftStep_23 : decode cX10_theftStep 23 = .ok (.ifCond .ne 6, 3) := by decide +kernel
theorem dX10_theftStep_26 : decode cX10_theftStep 26 = .ok (.bipush (-9), 2) := by decide +kernel
theorem dX10_theftStep_28 : decode cX10_theftStep 28 = .ok (.ireturn, 1) := by decide +kernel
theorem dX10_theftStep_29 : decode cX10_theftStep 29 = .ok (.aload_n 0, 1) := by decide +kernel
theorem dX10_theftStep_30 : decode cX10_theftStep 30 = .ok (.iload_n 1, 1) := by decide +kernel
theorem dX10_theftStep_31 : decode cX10_theftStep 31 = .ok (.iload_n 2, 1) := by decide +kernel
theorem dX10_theftStep_32 : decode cX10_theftStep 32 = .ok (.invokevirtual 203, 3) := by decide +kernel
theorem dX10_theftStep_35 : decode cX10_theftStep 35 = .ok (.aload_n 0, 1) := by decide +kernel
theorem dX10_theftStep_36 : decode cX10_theftStep 36 = .ok (.iload_n 1, 1) := by decide +kernel
theorem dX10_theftStep_37 : decode cX10_theftStep 37 = .ok (.iload_n 2, 1) := by decide +kernel
theorem dX10_theftStep_38 : decode cX10_theftStep 38 = .ok (.iload_n 3, 1) := by decide +kernel
theorem dX10_theftStep_39 : decode cX10_theftStep 39 = .ok (.invokevirtual 206, 3) := by decide +kernel
theorem dX10_theftStep_42 : decode cX10_theftStep 42 = .ok (.istore 6, 2) := by decide +kernel
theorem dX10_theftStep_44 : decode cX10_theftStep 44 = .ok (.aload_n 0, 1) := by decide +kernel
theorem dX10_theftStep_45 : decode cX10_theftStep 45 = .ok (.getfield 54, 3) := by decide +kernel
theorem dX10_theftStep_48 : decode cX10_theftStep 48 = .ok (.iload 6, 2) := by decide +kernel
theorem dX10_theftStep_50 : decode cX10_theftStep 50 = .ok (.iaload, 1) := by decide +kernel
theorem dX10_theftStep_51 : decode cX10_theftStep 51 = .ok (.bipush (-9), 2) := by decide +kernel
theorem dX10_theftStep_53 : decode cX10_theftStep 53 = .ok (.if_icmp .eq 23, 3) := by decide +kernel
theorem dX10_theftStep_56 : decode cX10_theftStep 56 = .ok (.iload 4, 2) := by decide +kernel
theorem dX10_theftStep_58 : decode cX10_theftStep 58 = .ok (.i2l, 1) := by decide +kernel
theorem dX10_theftStep_59 : decode cX10_theftStep 59 = .ok (.lconst 0, 1) := by decide +kernel
theorem dX10_theftStep_60 : decode cX10_theftStep 60 = .ok (.aload_n 0, 1) := by decide +kernel
theorem dX10_theftStep_61 : decode cX10_theftStep 61 = .ok (.getfield 54, 3) := by decide +kernel
theorem dX10_theftStep_64 : decode cX10_theftStep 64 = .ok (.iload 6, 2) := by decide +kernel
theorem dX10_theftStep_66 : decode cX10_theftStep 66 = .ok (.iaload, 1) := by decide +kernel
theorem dX10_theftStep_67 : decode cX10_theftStep 67 = .ok (.iconst 1, 1) := by decide +kernel
theorem dX10_theftStep_68 : decode cX10_theftStep 68 = .ok (.isub, 1) := by decide +kernel
theorem dX10_theftStep_69 : decode cX10_theftStep 69 = .ok (.i2l, 1) := by decide +kernel
theorem dX10_theftStep_70 : decode cX10_theftStep 70 = .ok (.invokestatic 77, 3) := by decide +kernel
theorem dX10_theftStep_73 : decode cX10_theftStep 73 = .ok (.ifCond .ne 6, 3) := by decide +kernel
theorem dX10_theftStep_76 : decode cX10_theftStep 76 = .ok (.bipush (-9), 2) := by decide +kernel
theorem dX10_theftStep_78 : decode cX10_theftStep 78 = .ok (.ireturn, 1) := by decide +kernel
theorem dX10_theftStep_79 : decode cX10_theftStep 79 = .ok (.bipush (-9), 2) := by decide +kernel
theorem dX10_theftStep_81 : decode cX10_theftStep 81 = .ok (.istore 7, 2) := by decide +kernel
theorem dX10_theftStep_83 : decode cX10_theftStep 83 = .ok (.iconst 0, 1) := by decide +kernel
theorem dX10_theftStep_84 : decode cX10_theftStep 84 = .ok (.istore 8, 2) := by decide +kernel
theorem dX10_theftStep_86 : decode cX10_theftStep 86 = .ok (.iload 8, 2) := by decide +kernel
theorem dX10_theftStep_88 : decode cX10_theftStep 88 = .ok (.iload 4, 2) := by decide +kernel
theorem dX10_theftStep_90 : decode cX10_theftStep 90 = .ok (.if_icmp .gt 69, 3) := by decide +kernel
theorem dX10_theftStep_93 : decode cX10_theftStep 93 = .ok (.iconst 0, 1) := by decide +kernel
theorem dX10_theftStep_94 : decode cX10_theftStep 94 = .ok (.istore 7, 2) := by decide +kernel
theorem dX10_theftStep_96 : decode cX10_theftStep 96 = .ok (.aload_n 0, 1) := by decide +kernel
theorem dX10_theftStep_97 : decode cX10_theftStep 97 = .ok (.iload_n 1, 1) := by decide +kernel
theorem dX10_theftStep_98 : decode cX10_theftStep 98 = .ok (.iload 6, 2) := by decide +kernel
theorem dX10_theftStep_100 : decode cX10_theftStep 100 = .ok (.iload 7, 2) := by decide +kernel
theorem dX10_theftStep_102 : decode cX10_theftStep 102 = .ok (.invokevirtual 209, 3) := by decide +kernel
theorem dX10_theftStep_105 : decode cX10_theftStep 105 = .ok (.bipush (-9), 2) := by decide +kernel
theorem dX10_theftStep_107 : decode cX10_theftStep 107 = .ok (.if_icmp .eq 29, 3) := by decide +kernel
theorem dX10_theftStep_110 : decode cX10_theftStep 110 = .ok (.aload_n 0, 1) := by decide +kernel
theorem dX10_theftStep_111 : decode cX10_theftStep 111 = .ok (.getfield 54, 3) := by decide +kernel
theorem dX10_theftStep_114 : decode cX10_theftStep 114 = .ok (.aload_n 0, 1) := by decide +kernel
theorem dX10_theftStep_115 : decode cX10_theftStep 115 = .ok (.iload_n 1, 1) := by decide +kernel
theorem dX10_theftStep_116 : decode cX10_theftStep 116 = .ok (.iload 6, 2) := by decide +kernel
theorem dX10_theftStep_118 : decode cX10_theftStep 118 = .ok (.iload 7, 2) := by decide +kernel
theorem dX10_theftStep_120 : decode cX10_theftStep 120 = .ok (.invokevirtual 209, 3) := by decide +kernel
theorem dX10_theftStep_123 : decode cX10_theftStep 123 = .ok (.iaload, 1) := by decide +kernel
theorem dX10_theftStep_124 : decode cX10_theftStep 124 = .ok (.aload_n 0, 1) := by decide +kernel
theorem dX10_theftStep_125 : decode cX10_theftStep 125 = .ok (.getfield 54, 3) := by decide +kernel
theorem dX10_theftStep_128 : decode cX10_theftStep 128 = .ok (.iload 6, 2) := by decide +kernel
theorem dX10_theftStep_130 : decode cX10_theftStep 130 = .ok (.iaload, 1) := by decide +kernel
theorem dX10_theftStep_131 : decode cX10_theftStep 131 = .ok (.iconst 1, 1) := by decide +kernel
theorem dX10_theftStep_132 : decode cX10_theftStep 132 = .ok (.isub, 1) := by decide +kernel
theorem dX10_theftStep_133 : decode cX10_theftStep 133 = .ok (.if_icmp .eq 9, 3) := by decide +kernel
theorem dX10_theftStep_136 : decode cX10_theftStep 136 = .ok (.iinc 7 1, 3) := by decide +kernel
theorem dX10_theftStep_139 : decode cX10_theftStep 139 = .ok (.goto (-43), 3) := by decide +kernel
theorem dX10_theftStep_142 : decode cX10_theftStep 142 = .ok (.aload_n 0, 1) := by decide +kernel
theorem dX10_theftStep_143 : decode cX10_theftStep 143 = .ok (.iload_n 1, 1) := by decide +kernel
theorem dX10_theftStep_144 : decode cX10_theftStep 144 = .ok (.iload 6, 2) := by decide +kernel
theorem dX10_theftStep_146 : decode cX10_theftStep 146 = .ok (.iload 7, 2) := by decide +kernel
theorem dX10_theftStep_148 : decode cX10_theftStep 148 = .ok (.invokevirtual 209, 3) := by decide +kernel
theorem dX10_theftStep_151 : decode cX10_theftStep 151 = .ok (.istore 6, 2) := by decide +kernel
theorem dX10_theftStep_153 : decode cX10_theftStep 153 = .ok (.iinc 8 1, 3) := by decide +kernel
theorem dX10_theftStep_156 : decode cX10_theftStep 156 = .ok (.goto (-70), 3) := by decide +kernel
theorem dX10_theftStep_159 : decode cX10_theftStep 159 = .ok (.iload 7, 2) := by decide +kernel
theorem dX10_theftStep_161 : decode cX10_theftStep 161 = .ok (.ireturn, 1) := by decide +kernel
theorem dX10_thenAt_0 : decode cX10_thenAt 0 = .ok (.aload_n 0, 1) := by decide +kernel
theorem dX10_thenAt_1 : decode cX10_thenAt 1 = .ok (.invokevirtual 172, 3) := by decide +kernel
theorem dX10_thenAt_4 : decode cX10_thenAt 4 = .ok (.istore 4, 2) := by decide +kernel
theorem dX10_thenAt_6 : decode cX10_thenAt 6 = .ok (.iload_n 2, 1) := by decide +kernel
theorem dX10_thenAt_7 : decode cX10_thenAt 7 = .ok (.sipush 128, 3) := by decide +kernel
theorem dX10_thenAt_10 : decode cX10_thenAt 10 = .ok (.idiv, 1) := by decide +kernel
theorem dX10_thenAt_11 : decode cX10_thenAt 11 = .ok (.iconst 1, 1) := by decide +kernel
theorem dX10_thenAt_12 : decode cX10_thenAt 12 = .ok (.iadd, 1) := by decide +kernel
theorem dX10_thenAt_13 : decode cX10_thenAt 13 = .ok (.iload 4, 2) := by decide +kernel
theorem dX10_thenAt_15 : decode cX10_thenAt 15 = .ok (.irem, 1) := by decide +kernel
theorem dX10_thenAt_16 : decode cX10_thenAt 16 = .ok (.istore 5, 2) := by decide +kernel
theorem dX10_thenAt_18 : decode cX10_thenAt 18 = .ok (.iload_n 2, 1) := by decide +kernel
theorem dX10_thenAt_19 : decode cX10_thenAt 19 = .ok (.sipush 128, 3) := by decide +kernel
theorem dX10_thenAt_22 : decode cX10_thenAt 22 = .ok (.irem, 1) := by decide +kernel
theorem dX10_thenAt_23 : decode cX10_thenAt 23 = .ok (.iconst 2, 1) := by decide +kernel
theorem dX10_thenAt_24 : decode cX10_thenAt 24 = .ok (.idiv, 1) := by decide +kernel
theorem dX10_thenAt_25 : decode cX10_thenAt 25 = .ok (.istore 6, 2) := by decide +kernel
theorem dX10_thenAt_27 : decode cX10_thenAt 27 = .ok (.iload_n 3, 1) := by decide +kernel
theorem dX10_thenAt_28 : decode cX10_thenAt 28 = .ok (.iconst 4, 1) := by decide +kernel
theorem dX10_thenAt_29 : decode cX10_thenAt 29 = .ok (.if_icmp .ne 8, 3) := by decide +kernel
theorem dX10_thenAt_32 : decode cX10_thenAt 32 = .ok (.iload 6, 2) := by decide +kernel
theorem dX10_thenAt_34 : decode cX10_thenAt 34 = .ok (.goto 10, 3) := by decide +kernel
theorem dX10_thenAt_37 : decode cX10_thenAt 37 = .ok (.aload_n 0, 1) := by decide +kernel
theorem dX10_thenAt_38 : decode cX10_thenAt 38 = .ok (.iload 6, 2) := by decide +kernel
theorem dX10_thenAt_40 : decode cX10_thenAt 40 = .ok (.iload_n 3, 1) := by decide +kernel
theorem dX10_thenAt_41 : decode cX10_thenAt 41 = .ok (.invokevirtual 94, 3) := by decide +kernel
theorem dX10_thenAt_44 : decode cX10_thenAt 44 = .ok (.istore 7, 2) := by decide +kernel
theorem dX10_thenAt_46 : decode cX10_thenAt 46 = .ok (.iload 7, 2) := by decide +kernel
theorem dX10_thenAt_48 : decode cX10_thenAt 48 = .ok (.bipush (-9), 2) := by decide +kernel
theorem dX10_thenAt_50 : decode cX10_thenAt 50 = .ok (.if_icmp .eq 19, 3) := by decide +kernel
theorem dX10_thenAt_53 : decode cX10_thenAt 53 = .ok (.aload_n 0, 1) := by decide +kernel
theorem dX10_thenAt_54 : decode cX10_thenAt 54 = .ok (.getfield 57, 3) := by decide +kernel
theorem dX10_thenAt_57 : decode cX10_thenAt 57 = .ok (.bipush 64, 2) := by decide +kernel
theorem dX10_thenAt_59 : decode cX10_thenAt 59 = .ok (.iload 5, 2) := by decide +kernel
theorem dX10_thenAt_61 : decode cX10_thenAt 61 = .ok (.imul, 1) := by decide +kernel
theorem dX10_thenAt_62 : decode cX10_thenAt 62 = .ok (.iload 7, 2) := by decide +kernel
theorem dX10_thenAt_64 : decode cX10_thenAt 64 = .ok (.iadd, 1) := by decide +kernel
theorem dX10_thenAt_65 : decode cX10_thenAt 65 = .ok (.baload, 1) := by decide +kernel
theorem dX10_thenAt_66 : decode cX10_thenAt 66 = .ok (.ifCond .eq 6, 3) := by decide +kernel
theorem dX10_thenAt_69 : decode cX10_thenAt 69 = .ok (.bipush (-9), 2) := by decide +kernel
theorem dX10_thenAt_71 : decode cX10_thenAt 71 = .ok (.ireturn, 1) := by decide +kernel
theorem dX10_thenAt_72 : decode cX10_thenAt 72 = .ok (.sipush 128, 3) := by decide +kernel
theorem dX10_thenAt_75 : decode cX10_thenAt 75 = .ok (.iload 5, 2) := by decide +kernel
theorem dX10_thenAt_77 : decode cX10_thenAt 77 = .ok (.imul, 1) := by decide +kernel
theorem dX10_thenAt_78 : decode cX10_thenAt 78 = .ok (.iconst 2, 1) := by decide +kernel
theorem dX10_thenAt_79 : decode cX10_thenAt 79 = .ok (.iload 7, 2) := by decide +kernel
theorem dX10_thenAt_81 : decode cX10_thenAt 81 = .ok (.imul, 1) := by decide +kernel
theorem dX10_thenAt_82 : decode cX10_thenAt 82 = .ok (.iadd, 1) := by decide +kernel
theorem dX10_thenAt_83 : decode cX10_thenAt 83 = .ok (.iload_n 2, 1) := by decide +kernel
theorem dX10_thenAt_84 : decode cX10_thenAt 84 = .ok (.iconst 2, 1) := by decide +kernel
theorem dX10_thenAt_85 : decode cX10_thenAt 85 = .ok (.irem, 1) := by decide +kernel
theorem dX10_thenAt_86 : decode cX10_thenAt 86 = .ok (.iconst 1, 1) := by decide +kernel
theorem dX10_thenAt_87 : decode cX10_thenAt 87 = .ok (.if_icmp .eq 14, 3) := by decide +kernel
theorem dX10_thenAt_90 : decode cX10_thenAt 90 = .ok (.iload 7, 2) := by decide +kernel
theorem dX10_thenAt_92 : decode cX10_thenAt 92 = .ok (.aload_n 0, 1) := by decide +kernel
theorem dX10_thenAt_93 : decode cX10_thenAt 93 = .ok (.getfield 27, 3) := by decide +kernel
theorem dX10_thenAt_96 : decode cX10_thenAt 96 = .ok (.iload_n 1, 1) := by decide +kernel
theorem dX10_thenAt_97 : decode cX10_thenAt 97 = .ok (.iaload, 1) := by decide +kernel
theorem dX10_thenAt_98 : decode cX10_thenAt 98 = .ok (.if_icmp .ne 7, 3) := by decide +kernel
theorem dX10_thenAt_101 : decode cX10_thenAt 101 = .ok (.iconst 1, 1) := by decide +kernel
theorem dX10_thenAt_102 : decode cX10_thenAt 102 = .ok (.goto 4, 3) := by decide +kernel
theorem dX10_thenAt_105 : decode cX10_thenAt 105 = .ok (.iconst 0, 1) := by decide +kernel
theorem dX10_thenAt_106 : decode cX10_thenAt 106 = .ok (.iadd, 1) := by decide +kernel
theorem dX10_thenAt_107 : decode cX10_thenAt 107 = .ok (.ireturn, 1) := by decide +kernel
theorem dX10_hours_0 : decode cX10_hours 0 = .ok (.aload_n 0, 1) := by decide +kernel
theorem dX10_hours_1 : decode cX10_hours 1 = .ok (.iload_n 1, 1) := by decide +kernel
theorem dX10_hours_2 : decode cX10_hours 2 = .ok (.iload_n 2, 1) := by decide +kernel
theorem dX10_hours_3 : decode cX10_hours 3 = .ok (.iconst 0, 1) := by decide +kernel
theorem dX10_hours_4 : decode cX10_hours 4 = .ok (.invokevirtual 196, 3) := by decide +kernel
theorem dX10_hours_7 : decode cX10_hours 7 = .ok (.istore_n 3, 1) := by decide +kernel
theorem dX10_hours_8 : decode cX10_hours 8 = .ok (.iload_n 3, 1) := by decide +kernel
theorem dX10_hours_9 : decode cX10_hours 9 = .ok (.ifCond .ge 5, 3) := by decide +kernel
