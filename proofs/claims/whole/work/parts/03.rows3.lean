theorem dX10_beside_10 : decode cX10_beside 10 = .ok (.iconst 1, 1) := by decide +kernel
theorem dX10_beside_11 : decode cX10_beside 11 = .ok (.goto 13, 3) := by decide +kernel
theorem dX10_beside_14 : decode cX10_beside 14 = .ok (.iload_n 2, 1) := by decide +kernel
theorem dX10_beside_15 : decode cX10_beside 15 = .ok (.iconst 2, 1) := by decide +kernel
theorem dX10_beside_16 : decode cX10_beside 16 = .ok (.if_icmp .ne 7, 3) := by decide +kernel
theorem dX10_beside_19 : decode cX10_beside 19 = .ok (.iconst (-1), 1) := by decide +kernel
theorem dX10_beside_20 : decode cX10_beside 20 = .ok (.goto 4, 3) := by decide +kernel
theorem dX10_beside_23 : decode cX10_beside 23 = .ok (.iconst 0, 1) := by decide +kernel
theorem dX10_beside_24 : decode cX10_beside 24 = .ok (.iadd, 1) := by decide +kernel
theorem dX10_beside_25 : decode cX10_beside 25 = .ok (.istore_n 3, 1) := by decide +kernel
theorem dX10_beside_26 : decode cX10_beside 26 = .ok (.iload_n 1, 1) := by decide +kernel
theorem dX10_beside_27 : decode cX10_beside 27 = .ok (.aload_n 0, 1) := by decide +kernel
theorem dX10_beside_28 : decode cX10_beside 28 = .ok (.getfield 68, 3) := by decide +kernel
theorem dX10_beside_31 : decode cX10_beside 31 = .ok (.idiv, 1) := by decide +kernel
theorem dX10_beside_32 : decode cX10_beside 32 = .ok (.iload_n 2, 1) := by decide +kernel
theorem dX10_beside_33 : decode cX10_beside 33 = .ok (.iconst 1, 1) := by decide +kernel
theorem dX10_beside_34 : decode cX10_beside 34 = .ok (.if_icmp .ne 7, 3) := by decide +kernel
theorem dX10_beside_37 : decode cX10_beside 37 = .ok (.iconst 1, 1) := by decide +kernel
theorem dX10_beside_38 : decode cX10_beside 38 = .ok (.goto 13, 3) := by decide +kernel
theorem dX10_beside_41 : decode cX10_beside 41 = .ok (.iload_n 2, 1) := by decide +kernel
theorem dX10_beside_42 : decode cX10_beside 42 = .ok (.iconst 3, 1) := by decide +kernel
theorem dX10_beside_43 : decode cX10_beside 43 = .ok (.if_icmp .ne 7, 3) := by decide +kernel
theorem dX10_beside_46 : decode cX10_beside 46 = .ok (.iconst (-1), 1) := by decide +kernel
theorem dX10_beside_47 : decode cX10_beside 47 = .ok (.goto 4, 3) := by decide +kernel
theorem dX10_beside_50 : decode cX10_beside 50 = .ok (.iconst 0, 1) := by decide +kernel
theorem dX10_beside_51 : decode cX10_beside 51 = .ok (.iadd, 1) := by decide +kernel
theorem dX10_beside_52 : decode cX10_beside 52 = .ok (.istore 4, 2) := by decide +kernel
theorem dX10_beside_54 : decode cX10_beside 54 = .ok (.iload_n 3, 1) := by decide +kernel
theorem dX10_beside_55 : decode cX10_beside 55 = .ok (.i2l, 1) := by decide +kernel
theorem dX10_beside_56 : decode cX10_beside 56 = .ok (.lconst 0, 1) := by decide +kernel
theorem dX10_beside_57 : decode cX10_beside 57 = .ok (.aload_n 0, 1) := by decide +kernel
theorem dX10_beside_58 : decode cX10_beside 58 = .ok (.getfield 68, 3) := by decide +kernel
theorem dX10_beside_61 : decode cX10_beside 61 = .ok (.iconst 1, 1) := by decide +kernel
theorem dX10_beside_62 : decode cX10_beside 62 = .ok (.isub, 1) := by decide +kernel
theorem dX10_beside_63 : decode cX10_beside 63 = .ok (.i2l, 1) := by decide +kernel
theorem dX10_beside_64 : decode cX10_beside 64 = .ok (.invokestatic 77, 3) := by decide +kernel
theorem dX10_beside_67 : decode cX10_beside 67 = .ok (.ifCond .eq 48, 3) := by decide +kernel
theorem dX10_beside_70 : decode cX10_beside 70 = .ok (.iload 4, 2) := by decide +kernel
theorem dX10_beside_72 : decode cX10_beside 72 = .ok (.i2l, 1) := by decide +kernel
theorem dX10_beside_73 : decode cX10_beside 73 = .ok (.lconst 0, 1) := by decide +kernel
theorem dX10_beside_74 : decode cX10_beside 74 = .ok (.aload_n 0, 1) := by decide +kernel
theorem dX10_beside_75 : decode cX10_beside 75 = .ok (.getfield 71, 3) := by decide +kernel
theorem dX10_beside_78 : decode cX10_beside 78 = .ok (.iconst 1, 1) := by decide +kernel
theorem dX10_beside_79 : decode cX10_beside 79 = .ok (.isub, 1) := by decide +kernel
theorem dX10_beside_80 : decode cX10_beside 80 = .ok (.i2l, 1) := by decide +kernel
theorem dX10_beside_81 : decode cX10_beside 81 = .ok (.invokestatic 77, 3) := by decide +kernel
theorem dX10_beside_84 : decode cX10_beside 84 = .ok (.ifCond .eq 31, 3) := by decide +kernel
theorem dX10_beside_87 : decode cX10_beside 87 = .ok (.aload_n 0, 1) := by decide +kernel
theorem dX10_beside_88 : decode cX10_beside 88 = .ok (.iload 4, 2) := by decide +kernel
theorem dX10_beside_90 : decode cX10_beside 90 = .ok (.aload_n 0, 1) := by decide +kernel
theorem dX10_beside_91 : decode cX10_beside 91 = .ok (.getfield 68, 3) := by decide +kernel
theorem dX10_beside_94 : decode cX10_beside 94 = .ok (.imul, 1) := by decide +kernel
theorem dX10_beside_95 : decode cX10_beside 95 = .ok (.iload_n 3, 1) := by decide +kernel
theorem dX10_beside_96 : decode cX10_beside 96 = .ok (.iadd, 1) := by decide +kernel
theorem dX10_beside_97 : decode cX10_beside 97 = .ok (.invokevirtual 91, 3) := by decide +kernel
theorem dX10_beside_100 : decode cX10_beside 100 = .ok (.ifCond .eq 15, 3) := by decide +kernel
theorem dX10_beside_103 : decode cX10_beside 103 = .ok (.aload_n 0, 1) := by decide +kernel
theorem dX10_beside_104 : decode cX10_beside 104 = .ok (.iload_n 1, 1) := by decide +kernel
theorem dX10_beside_105 : decode cX10_beside 105 = .ok (.invokevirtual 91, 3) := by decide +kernel
theorem dX10_beside_108 : decode cX10_beside 108 = .ok (.ifCond .eq 7, 3) := by decide +kernel
theorem dX10_beside_111 : decode cX10_beside 111 = .ok (.iconst 1, 1) := by decide +kernel
theorem dX10_beside_112 : decode cX10_beside 112 = .ok (.goto 4, 3) := by decide +kernel
theorem dX10_beside_115 : decode cX10_beside 115 = .ok (.iconst 0, 1) := by decide +kernel
theorem dX10_beside_116 : decode cX10_beside 116 = .ok (.istore 5, 2) := by decide +kernel
theorem dX10_beside_118 : decode cX10_beside 118 = .ok (.iload 5, 2) := by decide +kernel
theorem dX10_beside_120 : decode cX10_beside 120 = .ok (.ifCond .eq 15, 3) := by decide +kernel
theorem dX10_beside_123 : decode cX10_beside 123 = .ok (.iload 4, 2) := by decide +kernel
theorem dX10_beside_125 : decode cX10_beside 125 = .ok (.aload_n 0, 1) := by decide +kernel
theorem dX10_beside_126 : decode cX10_beside 126 = .ok (.getfield 68, 3) := by decide +kernel
theorem dX10_beside_129 : decode cX10_beside 129 = .ok (.imul, 1) := by decide +kernel
theorem dX10_beside_130 : decode cX10_beside 130 = .ok (.iload_n 3, 1) := by decide +kernel
theorem dX10_beside_131 : decode cX10_beside 131 = .ok (.iadd, 1) := by decide +kernel
theorem dX10_beside_132 : decode cX10_beside 132 = .ok (.goto 5, 3) := by decide +kernel
theorem dX10_beside_135 : decode cX10_beside 135 = .ok (.bipush (-9), 2) := by decide +kernel
theorem dX10_beside_137 : decode cX10_beside 137 = .ok (.ireturn, 1) := by decide +kernel
theorem dX10_layFar_0 : decode cX10_layFar 0 = .ok (.iconst 0, 1) := by decide +kernel
theorem dX10_layFar_1 : decode cX10_layFar 1 = .ok (.istore_n 2, 1) := by decide +kernel
theorem dX10_layFar_2 : decode cX10_layFar 2 = .ok (.iload_n 2, 1) := by decide +kernel
theorem dX10_layFar_3 : decode cX10_layFar 3 = .ok (.bipush 64, 2) := by decide +kernel
theorem dX10_layFar_5 : decode cX10_layFar 5 = .ok (.if_icmp .ge 17, 3) := by decide +kernel
theorem dX10_layFar_8 : decode cX10_layFar 8 = .ok (.aload_n 0, 1) := by decide +kernel
theorem dX10_layFar_9 : decode cX10_layFar 9 = .ok (.getfield 24, 3) := by decide +kernel
theorem dX10_layFar_12 : decode cX10_layFar 12 = .ok (.iload_n 2, 1) := by decide +kernel
theorem dX10_layFar_13 : decode cX10_layFar 13 = .ok (.bipush (-9), 2) := by decide +kernel
theorem dX10_layFar_15 : decode cX10_layFar 15 = .ok (.iastore, 1) := by decide +kernel
theorem dX10_layFar_16 : decode cX10_layFar 16 = .ok (.iinc 2 1, 3) := by decide +kernel
theorem dX10_layFar_19 : decode cX10_layFar 19 = .ok (.goto (-17), 3) := by decide +kernel
theorem dX10_layFar_22 : decode cX10_layFar 22 = .ok (.aload_n 0, 1) := by decide +kernel
theorem dX10_layFar_23 : decode cX10_layFar 23 = .ok (.getfield 24, 3) := by decide +kernel
theorem dX10_layFar_26 : decode cX10_layFar 26 = .ok (.iload_n 1, 1) := by decide +kernel
theorem dX10_layFar_27 : decode cX10_layFar 27 = .ok (.iconst 0, 1) := by decide +kernel
theorem dX10_layFar_28 : decode cX10_layFar 28 = .ok (.iastore, 1) := by decide +kernel
theorem dX10_layFar_29 : decode cX10_layFar 29 = .ok (.aload_n 0, 1) := by decide +kernel
theorem dX10_layFar_30 : decode cX10_layFar 30 = .ok (.getfield 21, 3) := by decide +kernel
theorem dX10_layFar_33 : decode cX10_layFar 33 = .ok (.iconst 0, 1) := by decide +kernel
theorem dX10_layFar_34 : decode cX10_layFar 34 = .ok (.iload_n 1, 1) := by decide +kernel
theorem dX10_layFar_35 : decode cX10_layFar 35 = .ok (.iastore, 1) := by decide +kernel
theorem dX10_layFar_36 : decode cX10_layFar 36 = .ok (.iconst 1, 1) := by decide +kernel
theorem dX10_layFar_37 : decode cX10_layFar 37 = .ok (.istore_n 2, 1) := by decide +kernel
theorem dX10_layFar_38 : decode cX10_layFar 38 = .ok (.iconst 0, 1) := by decide +kernel
theorem dX10_layFar_39 : decode cX10_layFar 39 = .ok (.istore_n 3, 1) := by decide +kernel
theorem dX10_layFar_40 : decode cX10_layFar 40 = .ok (.iload_n 3, 1) := by decide +kernel
theorem dX10_layFar_41 : decode cX10_layFar 41 = .ok (.iload_n 2, 1) := by decide +kernel
theorem dX10_layFar_42 : decode cX10_layFar 42 = .ok (.if_icmp .ge 88, 3) := by decide +kernel
theorem dX10_layFar_45 : decode cX10_layFar 45 = .ok (.iconst 0, 1) := by decide +kernel
theorem dX10_layFar_46 : decode cX10_layFar 46 = .ok (.istore 4, 2) := by decide +kernel
theorem dX10_layFar_48 : decode cX10_layFar 48 = .ok (.iload 4, 2) := by decide +kernel
theorem dX10_layFar_50 : decode cX10_layFar 50 = .ok (.iconst 4, 1) := by decide +kernel
theorem dX10_layFar_51 : decode cX10_layFar 51 = .ok (.if_icmp .ge 73, 3) := by decide +kernel
theorem dX10_layFar_54 : decode cX10_layFar 54 = .ok (.aload_n 0, 1) := by decide +kernel
theorem dX10_layFar_55 : decode cX10_layFar 55 = .ok (.aload_n 0, 1) := by decide +kernel
theorem dX10_layFar_56 : decode cX10_layFar 56 = .ok (.getfield 21, 3) := by decide +kernel
theorem dX10_layFar_59 : decode cX10_layFar 59 = .ok (.iload_n 3, 1) := by decide +kernel
theorem dX10_layFar_60 : decode cX10_layFar 60 = .ok (.iaload, 1) := by decide +kernel
theorem dX10_layFar_61 : decode cX10_layFar 61 = .ok (.iload 4, 2) := by decide +kernel
theorem dX10_layFar_63 : decode cX10_layFar 63 = .ok (.invokevirtual 94, 3) := by decide +kernel
theorem dX10_layFar_66 : decode cX10_layFar 66 = .ok (.istore 5, 2) := by decide +kernel
theorem dX10_layFar_68 : decode cX10_layFar 68 = .ok (.iload 5, 2) := by decide +kernel
theorem dX10_layFar_70 : decode cX10_layFar 70 = .ok (.bipush (-9), 2) := by decide +kernel
theorem dX10_layFar_72 : decode cX10_layFar 72 = .ok (.if_icmp .eq 46, 3) := by decide +kernel
theorem dX10_layFar_75 : decode cX10_layFar 75 = .ok (.aload_n 0, 1) := by decide +kernel
theorem dX10_layFar_76 : decode cX10_layFar 76 = .ok (.getfield 24, 3) := by decide +kernel
theorem dX10_layFar_79 : decode cX10_layFar 79 = .ok (.iload 5, 2) := by decide +kernel
theorem dX10_layFar_81 : decode cX10_layFar 81 = .ok (.iaload, 1) := by decide +kernel
theorem dX10_layFar_82 : decode cX10_layFar 82 = .ok (.bipush (-9), 2) := by decide +kernel
theorem dX10_layFar_84 : decode cX10_layFar 84 = .ok (.if_icmp .ne 34, 3) := by decide +kernel
theorem dX10_layFar_87 : decode cX10_layFar 87 = .ok (.aload_n 0, 1) := by decide +kernel
theorem dX10_layFar_88 : decode cX10_layFar 88 = .ok (.getfield 24, 3) := by decide +kernel
theorem dX10_layFar_91 : decode cX10_layFar 91 = .ok (.iload 5, 2) := by decide +kernel
theorem dX10_layFar_93 : decode cX10_layFar 93 = .ok (.aload_n 0, 1) := by decide +kernel
theorem dX10_layFar_94 : decode cX10_layFar 94 = .ok (.getfield 24, 3) := by decide +kernel
theorem dX10_layFar_97 : decode cX10_layFar 97 = .ok (.aload_n 0, 1) := by decide +kernel
theorem dX10_layFar_98 : decode cX10_layFar 98 = .ok (.getfield 21, 3) := by decide +kernel
theorem dX10_layFar_101 : decode cX10_layFar 101 = .ok (.iload_n 3, 1) := by decide +kernel
theorem dX10_layFar_102 : decode cX10_layFar 102 = .ok (.iaload, 1) := by decide +kernel
theorem dX10_layFar_103 : decode cX10_layFar 103 = .ok (.iaload, 1) := by decide +kernel
theorem dX10_layFar_104 : decode cX10_layFar 104 = .ok (.iconst 1, 1) := by decide +kernel
theorem dX10_layFar_105 : decode cX10_layFar 105 = .ok (.iadd, 1) := by decide +kernel
theorem dX10_layFar_106 : decode cX10_layFar 106 = .ok (.iastore, 1) := by decide +kernel
theorem dX10_layFar_107 : decode cX10_layFar 107 = .ok (.aload_n 0, 1) := by decide +kernel
theorem dX10_layFar_108 : decode cX10_layFar 108 = .ok (.getfield 21, 3) := by decide +kernel
theorem dX10_layFar_111 : decode cX10_layFar 111 = .ok (.iload_n 2, 1) := by decide +kernel
theorem dX10_layFar_112 : decode cX10_layFar 112 = .ok (.iload 5, 2) := by decide +kernel
theorem dX10_layFar_114 : decode cX10_layFar 114 = .ok (.iastore, 1) := by decide +kernel
theorem dX10_layFar_115 : decode cX10_layFar 115 = .ok (.iinc 2 1, 3) := by decide +kernel
theorem dX10_layFar_118 : decode cX10_layFar 118 = .ok (.iinc 4 1, 3) := by decide +kernel
theorem dX10_layFar_121 : decode cX10_layFar 121 = .ok (.goto (-73), 3) := by decide +kernel
theorem dX10_layFar_124 : decode cX10_layFar 124 = .ok (.iinc 3 1, 3) := by decide +kernel
theorem dX10_layFar_127 : decode cX10_layFar 127 = .ok (.goto (-87), 3) := by decide +kernel
theorem dX10_layFar_130 : decode cX10_layFar 130 = .ok (.return_, 1) := by decide +kernel
theorem dX10_far_0 : decode cX10_far 0 = .ok (.aload_n 0, 1) := by decide +kernel
theorem dX10_far_1 : decode cX10_far 1 = .ok (.iload_n 1, 1) := by decide +kernel
theorem dX10_far_2 : decode cX10_far 2 = .ok (.invokevirtual 85, 3) := by decide +kernel
theorem dX10_far_5 : decode cX10_far 5 = .ok (.ifCond .eq 11, 3) := by decide +kernel
theorem dX10_far_8 : decode cX10_far 8 = .ok (.aload_n 0, 1) := by decide +kernel
theorem dX10_far_9 : decode cX10_far 9 = .ok (.iload_n 2, 1) := by decide +kernel
theorem dX10_far_10 : decode cX10_far 10 = .ok (.invokevirtual 85, 3) := by decide +kernel
theorem dX10_far_13 : decode cX10_far 13 = .ok (.ifCond .ne 5, 3) := by decide +kernel
theorem dX10_far_16 : decode cX10_far 16 = .ok (.iconst (-1), 1) := by decide +kernel
theorem dX10_far_17 : decode cX10_far 17 = .ok (.ireturn, 1) := by decide +kernel
theorem dX10_far_18 : decode cX10_far 18 = .ok (.aload_n 0, 1) := by decide +kernel
theorem dX10_far_19 : decode cX10_far 19 = .ok (.iload_n 1, 1) := by decide +kernel
theorem dX10_far_20 : decode cX10_far 20 = .ok (.invokevirtual 91, 3) := by decide +kernel
theorem dX10_far_23 : decode cX10_far 23 = .ok (.ifCond .eq 11, 3) := by decide +kernel
theorem dX10_far_26 : decode cX10_far 26 = .ok (.aload_n 0, 1) := by decide +kernel
theorem dX10_far_27 : decode cX10_far 27 = .ok (.iload_n 2, 1) := by decide +kernel
theorem dX10_far_28 : decode cX10_far 28 = .ok (.invokevirtual 91, 3) := by decide +kernel
theorem dX10_far_31 : decode cX10_far 31 = .ok (.ifCond .ne 6, 3) := by decide +kernel
theorem dX10_far_34 : decode cX10_far 34 = .ok (.bipush (-9), 2) := by decide +kernel
theorem dX10_far_36 : decode cX10_far 36 = .ok (.ireturn, 1) := by decide +kernel
theorem dX10_far_37 : decode cX10_far 37 = .ok (.aload_n 0, 1) := by decide +kernel
theorem dX10_far_38 : decode cX10_far 38 = .ok (.iload_n 1, 1) := by decide +kernel
theorem dX10_far_39 : decode cX10_far 39 = .ok (.invokevirtual 98, 3) := by decide +kernel
theorem dX10_far_42 : decode cX10_far 42 = .ok (.aload_n 0, 1) := by decide +kernel
theorem dX10_far_43 : decode cX10_far 43 = .ok (.getfield 24, 3) := by decide +kernel
theorem dX10_far_46 : decode cX10_far 46 = .ok (.iload_n 2, 1) := by decide +kernel
theorem dX10_far_47 : decode cX10_far 47 = .ok (.iaload, 1) := by decide +kernel
theorem dX10_far_48 : decode cX10_far 48 = .ok (.ireturn, 1) := by decide +kernel
theorem dX10_size_0 : decode cX10_size 0 = .ok (.iload_n 0, 1) := by decide +kernel
theorem dX10_size_1 : decode cX10_size 1 = .ok (.ifCond .ge 8, 3) := by decide +kernel
theorem dX10_size_4 : decode cX10_size 4 = .ok (.iload_n 0, 1) := by decide +kernel
theorem dX10_size_5 : decode cX10_size 5 = .ok (.ineg, 1) := by decide +kernel
theorem dX10_size_6 : decode cX10_size 6 = .ok (.goto 4, 3) := by decide +kernel
theorem dX10_size_9 : decode cX10_size 9 = .ok (.iload_n 0, 1) := by decide +kernel
theorem dX10_size_10 : decode cX10_size 10 = .ok (.ireturn, 1) := by decide +kernel
theorem dX10_sign_0 : decode cX10_sign 0 = .ok (.iload_n 0, 1) := by decide +kernel
theorem dX10_sign_1 : decode cX10_sign 1 = .ok (.ifCond .ge 7, 3) := by decide +kernel
theorem dX10_sign_4 : decode cX10_sign 4 = .ok (.iconst (-1), 1) := by decide +kernel
theorem dX10_sign_5 : decode cX10_sign 5 = .ok (.goto 12, 3) := by decide +kernel
theorem dX10_sign_8 : decode cX10_sign 8 = .ok (.iload_n 0, 1) := by decide +kernel
theorem dX10_sign_9 : decode cX10_sign 9 = .ok (.ifCond .le 7, 3) := by decide +kernel
theorem dX10_sign_12 : decode cX10_sign 12 = .ok (.iconst 1, 1) := by decide +kernel
theorem dX10_sign_13 : decode cX10_sign 13 = .ok (.goto 4, 3) := by decide +kernel
theorem dX10_sign_16 : decode cX10_sign 16 = .ok (.iconst 0, 1) := by decide +kernel
theorem dX10_sign_17 : decode cX10_sign 17 = .ok (.ireturn, 1) := by decide +kernel
theorem dX10_isBoxClear_0 : decode cX10_isBoxClear 0 = .ok (.iload_n 1, 1) := by decide +kernel
theorem dX10_isBoxClear_1 : decode cX10_isBoxClear 1 = .ok (.aload_n 0, 1) := by decide +kernel
theorem dX10_isBoxClear_2 : decode cX10_isBoxClear 2 = .ok (.getfield 68, 3) := by decide +kernel
theorem dX10_isBoxClear_5 : decode cX10_isBoxClear 5 = .ok (.irem, 1) := by decide +kernel
theorem dX10_isBoxClear_6 : decode cX10_isBoxClear 6 = .ok (.iload_n 2, 1) := by decide +kernel
theorem dX10_isBoxClear_7 : decode cX10_isBoxClear 7 = .ok (.aload_n 0, 1) := by decide +kernel
theorem dX10_isBoxClear_8 : decode cX10_isBoxClear 8 = .ok (.getfield 68, 3) := by decide +kernel
theorem dX10_isBoxClear_11 : decode cX10_isBoxClear 11 = .ok (.irem, 1) := by decide +kernel
theorem dX10_isBoxClear_12 : decode cX10_isBoxClear 12 = .ok (.if_icmp .ge 12, 3) := by decide +kernel
theorem dX10_isBoxClear_15 : decode cX10_isBoxClear 15 = .ok (.iload_n 1, 1) := by decide +kernel
theorem dX10_isBoxClear_16 : decode cX10_isBoxClear 16 = .ok (.aload_n 0, 1) := by decide +kernel
theorem dX10_isBoxClear_17 : decode cX10_isBoxClear 17 = .ok (.getfield 68, 3) := by decide +kernel
theorem dX10_isBoxClear_20 : decode cX10_isBoxClear 20 = .ok (.irem, 1) := by decide +kernel
theorem dX10_isBoxClear_21 : decode cX10_isBoxClear 21 = .ok (.goto 9, 3) := by decide +kernel
theorem dX10_isBoxClear_24 : decode cX10_isBoxClear 24 = .ok (.iload_n 2, 1) := by decide +kernel
theorem dX10_isBoxClear_25 : decode cX10_isBoxClear 25 = .ok (.aload_n 0, 1) := by decide +kernel
theorem dX10_isBoxClear_26 : decode cX10_isBoxClear 26 = .ok (.getfield 68, 3) := by decide +kernel
theorem dX10_isBoxClear_29 : decode cX10_isBoxClear 29 = .ok (.irem, 1) := by decide +kernel
theorem dX10_isBoxClear_30 : decode cX10_isBoxClear 30 = .ok (.istore_n 3, 1) := by decide +kernel
theorem dX10_isBoxClear_31 : decode cX10_isBoxClear 31 = .ok (.iload_n 1, 1) := by decide +kernel
theorem dX10_isBoxClear_32 : decode cX10_isBoxClear 32 = .ok (.aload_n 0, 1) := by decide +kernel
theorem dX10_isBoxClear_33 : decode cX10_isBoxClear 33 = .ok (.getfield 68, 3) := by decide +kernel
theorem dX10_isBoxClear_36 : decode cX10_isBoxClear 36 = .ok (.idiv, 1) := by decide +kernel
theorem dX10_isBoxClear_37 : decode cX10_isBoxClear 37 = .ok (.iload_n 2, 1) := by decide +kernel
theorem dX10_isBoxClear_38 : decode cX10_isBoxClear 38 = .ok (.aload_n 0, 1) := by decide +kernel
theorem dX10_isBoxClear_39 : decode cX10_isBoxClear 39 = .ok (.getfield 68, 3) := by decide +kernel
theorem dX10_isBoxClear_42 : decode cX10_isBoxClear 42 = .ok (.idiv, 1) := by decide +kernel
theorem dX10_isBoxClear_43 : decode cX10_isBoxClear 43 = .ok (.if_icmp .ge 12, 3) := by decide +kernel
theorem dX10_isBoxClear_46 : decode cX10_isBoxClear 46 = .ok (.iload_n 1, 1) := by decide +kernel
theorem dX10_isBoxClear_47 : decode cX10_isBoxClear 47 = .ok (.aload_n 0, 1) := by decide +kernel
theorem dX10_isBoxClear_48 : decode cX10_isBoxClear 48 = .ok (.getfield 68, 3) := by decide +kernel
theorem dX10_isBoxClear_51 : decode cX10_isBoxClear 51 = .ok (.idiv, 1) := by decide +kernel
theorem dX10_isBoxClear_52 : decode cX10_isBoxClear 52 = .ok (.goto 9, 3) := by decide +kernel
theorem dX10_isBoxClear_55 : decode cX10_isBoxClear 55 = .ok (.iload_n 2, 1) := by decide +kernel
theorem dX10_isBoxClear_56 : decode cX10_isBoxClear 56 = .ok (.aload_n 0, 1) := by decide +kernel
theorem dX10_isBoxClear_57 : decode cX10_isBoxClear 57 = .ok (.getfield 68, 3) := by decide +kernel
theorem dX10_isBoxClear_60 : decode cX10_isBoxClear 60 = .ok (.idiv, 1) := by decide +kernel
theorem dX10_isBoxClear_61 : decode cX10_isBoxClear 61 = .ok (.istore 4, 2) := by decide +kernel
theorem dX10_isBoxClear_63 : decode cX10_isBoxClear 63 = .ok (.iconst 1, 1) := by decide +kernel
theorem dX10_isBoxClear_64 : decode cX10_isBoxClear 64 = .ok (.istore 5, 2) := by decide +kernel
theorem dX10_isBoxClear_66 : decode cX10_isBoxClear 66 = .ok (.iconst 0, 1) := by decide +kernel
theorem dX10_isBoxClear_67 : decode cX10_isBoxClear 67 = .ok (.istore 6, 2) := by decide +kernel
theorem dX10_isBoxClear_69 : decode cX10_isBoxClear 69 = .ok (.iload 6, 2) := by decide +kernel
theorem dX10_isBoxClear_71 : decode cX10_isBoxClear 71 = .ok (.iload_n 1, 1) := by decide +kernel
theorem dX10_isBoxClear_72 : decode cX10_isBoxClear 72 = .ok (.aload_n 0, 1) := by decide +kernel
theorem dX10_isBoxClear_73 : decode cX10_isBoxClear 73 = .ok (.getfield 68, 3) := by decide +kernel
theorem dX10_isBoxClear_76 : decode cX10_isBoxClear 76 = .ok (.irem, 1) := by decide +kernel
theorem dX10_isBoxClear_77 : decode cX10_isBoxClear 77 = .ok (.iload_n 2, 1) := by decide +kernel
theorem dX10_isBoxClear_78 : decode cX10_isBoxClear 78 = .ok (.aload_n 0, 1) := by decide +kernel
theorem dX10_isBoxClear_79 : decode cX10_isBoxClear 79 = .ok (.getfield 68, 3) := by decide +kernel
theorem dX10_isBoxClear_82 : decode cX10_isBoxClear 82 = .ok (.irem, 1) := by decide +kernel
theorem dX10_isBoxClear_83 : decode cX10_isBoxClear 83 = .ok (.isub, 1) := by decide +kernel
theorem dX10_isBoxClear_84 : decode cX10_isBoxClear 84 = .ok (.invokestatic 102, 3) := by decide +kernel
theorem dX10_isBoxClear_87 : decode cX10_isBoxClear 87 = .ok (.if_icmp .gt 67, 3) := by decide +kernel
theorem dX10_isBoxClear_90 : decode cX10_isBoxClear 90 = .ok (.iconst 0, 1) := by decide +kernel
theorem dX10_isBoxClear_91 : decode cX10_isBoxClear 91 = .ok (.istore 7, 2) := by decide +kernel
theorem dX10_isBoxClear_93 : decode cX10_isBoxClear 93 = .ok (.iload 7, 2) := by decide +kernel
theorem dX10_isBoxClear_95 : decode cX10_isBoxClear 95 = .ok (.iload_n 1, 1) := by decide +kernel
theorem dX10_isBoxClear_96 : decode cX10_isBoxClear 96 = .ok (.aload_n 0, 1) := by decide +kernel
theorem dX10_isBoxClear_97 : decode cX10_isBoxClear 97 = .ok (.getfield 68, 3) := by decide +kernel
theorem dX10_isBoxClear_100 : decode cX10_isBoxClear 100 = .ok (.idiv, 1) := by decide +kernel
theorem dX10_isBoxClear_101 : decode cX10_isBoxClear 101 = .ok (.iload_n 2, 1) := by decide +kernel
theorem dX10_isBoxClear_102 : decode cX10_isBoxClear 102 = .ok (.aload_n 0, 1) := by decide +kernel
theorem dX10_isBoxClear_103 : decode cX10_isBoxClear 103 = .ok (.getfield 68, 3) := by decide +kernel
theorem dX10_isBoxClear_106 : decode cX10_isBoxClear 106 = .ok (.idiv, 1) := by decide +kernel
theorem dX10_isBoxClear_107 : decode cX10_isBoxClear 107 = .ok (.isub, 1) := by decide +kernel
theorem dX10_isBoxClear_108 : decode cX10_isBoxClear 108 = .ok (.invokestatic 102, 3) := by decide +kernel
theorem dX10_isBoxClear_111 : decode cX10_isBoxClear 111 = .ok (.if_icmp .gt 37, 3) := by decide +kernel
theorem dX10_isBoxClear_114 : decode cX10_isBoxClear 114 = .ok (.iload 5, 2) := by decide +kernel
theorem dX10_isBoxClear_116 : decode cX10_isBoxClear 116 = .ok (.ifCond .eq 23, 3) := by decide +kernel
theorem dX10_isBoxClear_119 : decode cX10_isBoxClear 119 = .ok (.aload_n 0, 1) := by decide +kernel
theorem dX10_isBoxClear_120 : decode cX10_isBoxClear 120 = .ok (.iload_n 3, 1) := by decide +kernel
theorem dX10_isBoxClear_121 : decode cX10_isBoxClear 121 = .ok (.iload 6, 2) := by decide +kernel
theorem dX10_isBoxClear_123 : decode cX10_isBoxClear 123 = .ok (.iadd, 1) := by decide +kernel
theorem dX10_isBoxClear_124 : decode cX10_isBoxClear 124 = .ok (.iload 4, 2) := by decide +kernel
theorem dX10_isBoxClear_126 : decode cX10_isBoxClear 126 = .ok (.iload 7, 2) := by decide +kernel
theorem dX10_isBoxClear_128 : decode cX10_isBoxClear 128 = .ok (.iadd, 1) := by decide +kernel
theorem dX10_isBoxClear_129 : decode cX10_isBoxClear 129 = .ok (.invokevirtual 106, 3) := by decide +kernel
theorem dX10_isBoxClear_132 : decode cX10_isBoxClear 132 = .ok (.ifCond .eq 7, 3) := by decide +kernel
theorem dX10_isBoxClear_135 : decode cX10_isBoxClear 135 = .ok (.iconst 1, 1) := by decide +kernel
theorem dX10_isBoxClear_136 : decode cX10_isBoxClear 136 = .ok (.goto 4, 3) := by decide +kernel
theorem dX10_isBoxClear_139 : decode cX10_isBoxClear 139 = .ok (.iconst 0, 1) := by decide +kernel
theorem dX10_isBoxClear_140 : decode cX10_isBoxClear 140 = .ok (.istore 5, 2) := by decide +kernel
theorem dX10_isBoxClear_142 : decode cX10_isBoxClear 142 = .ok (.iinc 7 1, 3) := by decide +kernel
theorem dX10_isBoxClear_145 : decode cX10_isBoxClear 145 = .ok (.goto (-52), 3) := by decide +kernel
theorem dX10_isBoxClear_148 : decode cX10_isBoxClear 148 = .ok (.iinc 6 1, 3) := by decide +kernel
theorem dX10_isBoxClear_151 : decode cX10_isBoxClear 151 = .ok (.goto (-82), 3) := by decide +kernel
theorem dX10_isBoxClear_154 : decode cX10_isBoxClear 154 = .ok (.iload 5, 2) := by decide +kernel
theorem dX10_isBoxClear_156 : decode cX10_isBoxClear 156 = .ok (.ireturn, 1) := by decide +kernel
theorem dX10_isWayClear_0 : decode cX10_isWayClear 0 = .ok (.iload_n 1, 1) := by decide +kernel
theorem dX10_isWayClear_1 : decode cX10_isWayClear 1 = .ok (.aload_n 0, 1) := by decide +kernel
theorem dX10_isWayClear_2 : decode cX10_isWayClear 2 = .ok (.getfield 68, 3) := by decide +kernel
theorem dX10_isWayClear_5 : decode cX10_isWayClear 5 = .ok (.irem, 1) := by decide +kernel
theorem dX10_isWayClear_6 : decode cX10_isWayClear 6 = .ok (.istore_n 3, 1) := by decide +kernel
theorem dX10_isWayClear_7 : decode cX10_isWayClear 7 = .ok (.iload_n 1, 1) := by decide +kernel
theorem dX10_isWayClear_8 : decode cX10_isWayClear 8 = .ok (.aload_n 0, 1) := by decide +kernel
theorem dX10_isWayClear_9 : decode cX10_isWayClear 9 = .ok (.getfield 68, 3) := by decide +kernel
theorem dX10_isWayClear_12 : decode cX10_isWayClear 12 = .ok (.idiv, 1) := by decide +kernel
theorem dX10_isWayClear_13 : decode cX10_isWayClear 13 = .ok (.istore 4, 2) := by decide +kernel
theorem dX10_isWayClear_15 : decode cX10_isWayClear 15 = .ok (.iload_n 2, 1) := by decide +kernel
theorem dX10_isWayClear_16 : decode cX10_isWayClear 16 = .ok (.aload_n 0, 1) := by decide +kernel
theorem dX10_isWayClear_17 : decode cX10_isWayClear 17 = .ok (.getfield 68, 3) := by decide +kernel
theorem dX10_isWayClear_20 : decode cX10_isWayClear 20 = .ok (.irem, 1) := by decide +kernel
theorem dX10_isWayClear_21 : decode cX10_isWayClear 21 = .ok (.iload_n 3, 1) := by decide +kernel
theorem dX10_isWayClear_22 : decode cX10_isWayClear 22 = .ok (.isub, 1) := by decide +kernel
theorem dX10_isWayClear_23 : decode cX10_isWayClear 23 = .ok (.invokestatic 102, 3) := by decide +kernel
theorem dX10_isWayClear_26 : decode cX10_isWayClear 26 = .ok (.istore 5, 2) := by decide +kernel
theorem dX10_isWayClear_28 : decode cX10_isWayClear 28 = .ok (.iload_n 2, 1) := by decide +kernel
theorem dX10_isWayClear_29 : decode cX10_isWayClear 29 = .ok (.aload_n 0, 1) := by decide +kernel
theorem dX10_isWayClear_30 : decode cX10_isWayClear 30 = .ok (.getfield 68, 3) := by decide +kernel
theorem dX10_isWayClear_33 : decode cX10_isWayClear 33 = .ok (.idiv, 1) := by decide +kernel
theorem dX10_isWayClear_34 : decode cX10_isWayClear 34 = .ok (.iload 4, 2) := by decide +kernel
theorem dX10_isWayClear_36 : decode cX10_isWayClear 36 = .ok (.isub, 1) := by decide +kernel
theorem dX10_isWayClear_37 : decode cX10_isWayClear 37 = .ok (.invokestatic 102, 3) := by decide +kernel
theorem dX10_isWayClear_40 : decode cX10_isWayClear 40 = .ok (.istore 6, 2) := by decide +kernel
theorem dX10_isWayClear_42 : decode cX10_isWayClear 42 = .ok (.iload_n 2, 1) := by decide +kernel
theorem dX10_isWayClear_43 : decode cX10_isWayClear 43 = .ok (.aload_n 0, 1) := by decide +kernel
theorem dX10_isWayClear_44 : decode cX10_isWayClear 44 = .ok (.getfield 68, 3) := by decide +kernel
theorem dX10_isWayClear_47 : decode cX10_isWayClear 47 = .ok (.irem, 1) := by decide +kernel
theorem dX10_isWayClear_48 : decode cX10_isWayClear 48 = .ok (.iload_n 3, 1) := by decide +kernel
theorem dX10_isWayClear_49 : decode cX10_isWayClear 49 = .ok (.isub, 1) := by decide +kernel
theorem dX10_isWayClear_50 : decode cX10_isWayClear 50 = .ok (.invokestatic 110, 3) := by decide +kernel
theorem dX10_isWayClear_53 : decode cX10_isWayClear 53 = .ok (.istore 7, 2) := by decide +kernel
theorem dX10_isWayClear_55 : decode cX10_isWayClear 55 = .ok (.iload_n 2, 1) := by decide +kernel
theorem dX10_isWayClear_56 : decode cX10_isWayClear 56 = .ok (.aload_n 0, 1) := by decide +kernel
theorem dX10_isWayClear_57 : decode cX10_isWayClear 57 = .ok (.getfield 68, 3) := by decide +kernel
theorem dX10_isWayClear_60 : decode cX10_isWayClear 60 = .ok (.idiv, 1) := by decide +kernel
theorem dX10_isWayClear_61 : decode cX10_isWayClear 61 = .ok (.iload 4, 2) := by decide +kernel
theorem dX10_isWayClear_63 : decode cX10_isWayClear 63 = .ok (.isub, 1) := by decide +kernel
theorem dX10_isWayClear_64 : decode cX10_isWayClear 64 = .ok (.invokestatic 110, 3) := by decide +kernel
theorem dX10_isWayClear_67 : decode cX10_isWayClear 67 = .ok (.istore 8, 2) := by decide +kernel
theorem dX10_isWayClear_69 : decode cX10_isWayClear 69 = .ok (.iconst 0, 1) := by decide +kernel
theorem dX10_isWayClear_70 : decode cX10_isWayClear 70 = .ok (.istore 9, 2) := by decide +kernel
theorem dX10_isWayClear_72 : decode cX10_isWayClear 72 = .ok (.iconst 0, 1) := by decide +kernel
theorem dX10_isWayClear_73 : decode cX10_isWayClear 73 = .ok (.istore 10, 2) := by decide +kernel
theorem dX10_isWayClear_75 : decode cX10_isWayClear 75 = .ok (.iconst 1, 1) := by decide +kernel
theorem dX10_isWayClear_76 : decode cX10_isWayClear 76 = .ok (.istore 11, 2) := by decide +kernel
theorem dX10_isWayClear_78 : decode cX10_isWayClear 78 = .ok (.iload 9, 2) := by decide +kernel
theorem dX10_isWayClear_80 : decode cX10_isWayClear 80 = .ok (.iload 5, 2) := by decide +kernel
theorem dX10_isWayClear_82 : decode cX10_isWayClear 82 = .ok (.if_icmp .lt 10, 3) := by decide +kernel
theorem dX10_isWayClear_85 : decode cX10_isWayClear 85 = .ok (.iload 10, 2) := by decide +kernel
theorem dX10_isWayClear_87 : decode cX10_isWayClear 87 = .ok (.iload 6, 2) := by decide +kernel
theorem dX10_isWayClear_89 : decode cX10_isWayClear 89 = .ok (.if_icmp .ge 139, 3) := by decide +kernel
theorem dX10_isWayClear_92 : decode cX10_isWayClear 92 = .ok (.iconst 1, 1) := by decide +kernel
theorem dX10_isWayClear_93 : decode cX10_isWayClear 93 = .ok (.iconst 2, 1) := by decide +kernel
theorem dX10_isWayClear_94 : decode cX10_isWayClear 94 = .ok (.iload 9, 2) := by decide +kernel
theorem dX10_isWayClear_96 : decode cX10_isWayClear 96 = .ok (.imul, 1) := by decide +kernel
theorem dX10_isWayClear_97 : decode cX10_isWayClear 97 = .ok (.iadd, 1) := by decide +kernel
theorem dX10_isWayClear_98 : decode cX10_isWayClear 98 = .ok (.iload 6, 2) := by decide +kernel
theorem dX10_isWayClear_100 : decode cX10_isWayClear 100 = .ok (.imul, 1) := by decide +kernel
theorem dX10_isWayClear_101 : decode cX10_isWayClear 101 = .ok (.iconst 1, 1) := by decide +kernel
theorem dX10_isWayClear_102 : decode cX10_isWayClear 102 = .ok (.iconst 2, 1) := by decide +kernel
theorem dX10_isWayClear_103 : decode cX10_isWayClear 103 = .ok (.iload 10, 2) := by decide +kernel
theorem dX10_isWayClear_105 : decode cX10_isWayClear 105 = .ok (.imul, 1) := by decide +kernel
theorem dX10_isWayClear_106 : decode cX10_isWayClear 106 = .ok (.iadd, 1) := by decide +kernel
theorem dX10_isWayClear_107 : decode cX10_isWayClear 107 = .ok (.iload 5, 2) := by decide +kernel
theorem dX10_isWayClear_109 : decode cX10_isWayClear 109 = .ok (.imul, 1) := by decide +kernel
theorem dX10_isWayClear_110 : decode cX10_isWayClear 110 = .ok (.isub, 1) := by decide +kernel
theorem dX10_isWayClear_111 : decode cX10_isWayClear 111 = .ok (.istore 12, 2) := by decide +kernel
theorem dX10_isWayClear_113 : decode cX10_isWayClear 113 = .ok (.iload 12, 2) := by decide +kernel
theorem dX10_isWayClear_115 : decode cX10_isWayClear 115 = .ok (.ifCond .ne 62, 3) := by decide +kernel
theorem dX10_isWayClear_118 : decode cX10_isWayClear 118 = .ok (.iload 11, 2) := by decide +kernel
theorem dX10_isWayClear_120 : decode cX10_isWayClear 120 = .ok (.ifCond .eq 33, 3) := by decide +kernel
theorem dX10_isWayClear_123 : decode cX10_isWayClear 123 = .ok (.aload_n 0, 1) := by decide +kernel
theorem dX10_isWayClear_124 : decode cX10_isWayClear 124 = .ok (.iload_n 3, 1) := by decide +kernel
theorem dX10_isWayClear_125 : decode cX10_isWayClear 125 = .ok (.iload 7, 2) := by decide +kernel
theorem dX10_isWayClear_127 : decode cX10_isWayClear 127 = .ok (.iadd, 1) := by decide +kernel
theorem dX10_isWayClear_128 : decode cX10_isWayClear 128 = .ok (.iload 4, 2) := by decide +kernel
theorem dX10_isWayClear_130 : decode cX10_isWayClear 130 = .ok (.invokevirtual 106, 3) := by decide +kernel
theorem dX10_isWayClear_133 : decode cX10_isWayClear 133 = .ok (.ifCond .ne 16, 3) := by decide +kernel
theorem dX10_isWayClear_136 : decode cX10_isWayClear 136 = .ok (.aload_n 0, 1) := by decide +kernel
theorem dX10_isWayClear_137 : decode cX10_isWayClear 137 = .ok (.iload_n 3, 1) := by decide +kernel
theorem dX10_isWayClear_138 : decode cX10_isWayClear 138 = .ok (.iload 4, 2) := by decide +kernel
theorem dX10_isWayClear_140 : decode cX10_isWayClear 140 = .ok (.iload 8, 2) := by decide +kernel
theorem dX10_isWayClear_142 : decode cX10_isWayClear 142 = .ok (.iadd, 1) := by decide +kernel
theorem dX10_isWayClear_143 : decode cX10_isWayClear 143 = .ok (.invokevirtual 106, 3) := by decide +kernel
theorem dX10_isWayClear_146 : decode cX10_isWayClear 146 = .ok (.ifCond .eq 7, 3) := by decide +kernel
theorem dX10_isWayClear_149 : decode cX10_isWayClear 149 = .ok (.iconst 1, 1) := by decide +kernel
theorem dX10_isWayClear_150 : decode cX10_isWayClear 150 = .ok (.goto 4, 3) := by decide +kernel
theorem dX10_isWayClear_153 : decode cX10_isWayClear 153 = .ok (.iconst 0, 1) := by decide +kernel
theorem dX10_isWayClear_154 : decode cX10_isWayClear 154 = .ok (.istore 11, 2) := by decide +kernel
theorem dX10_isWayClear_156 : decode cX10_isWayClear 156 = .ok (.iload_n 3, 1) := by decide +kernel
theorem dX10_isWayClear_157 : decode cX10_isWayClear 157 = .ok (.iload 7, 2) := by decide +kernel
theorem dX10_isWayClear_159 : decode cX10_isWayClear 159 = .ok (.iadd, 1) := by decide +kernel
theorem dX10_isWayClear_160 : decode cX10_isWayClear 160 = .ok (.istore_n 3, 1) := by decide +kernel
theorem dX10_isWayClear_161 : decode cX10_isWayClear 161 = .ok (.iload 4, 2) := by decide +kernel
theorem dX10_isWayClear_163 : decode cX10_isWayClear 163 = .ok (.iload 8, 2) := by decide +kernel
theorem dX10_isWayClear_165 : decode cX10_isWayClear 165 = .ok (.iadd, 1) := by decide +kernel
theorem dX10_isWayClear_166 : decode cX10_isWayClear 166 = .ok (.istore 4, 2) := by decide +kernel
theorem dX10_isWayClear_168 : decode cX10_isWayClear 168 = .ok (.iinc 9 1, 3) := by decide +kernel
theorem dX10_isWayClear_171 : decode cX10_isWayClear 171 = .ok (.iinc 10 1, 3) := by decide +kernel
theorem dX10_isWayClear_174 : decode cX10_isWayClear 174 = .ok (.goto 29, 3) := by decide +kernel
theorem dX10_isWayClear_177 : decode cX10_isWayClear 177 = .ok (.iload 12, 2) := by decide +kernel
theorem dX10_isWayClear_179 : decode cX10_isWayClear 179 = .ok (.ifCond .ge 14, 3) := by decide +kernel
theorem dX10_isWayClear_182 : decode cX10_isWayClear 182 = .ok (.iload_n 3, 1) := by decide +kernel
theorem dX10_isWayClear_183 : decode cX10_isWayClear 183 = .ok (.iload 7, 2) := by decide +kernel
theorem dX10_isWayClear_185 : decode cX10_isWayClear 185 = .ok (.iadd, 1) := by decide +kernel
theorem dX10_isWayClear_186 : decode cX10_isWayClear 186 = .ok (.istore_n 3, 1) := by decide +kernel
theorem dX10_isWayClear_187 : decode cX10_isWayClear 187 = .ok (.iinc 9 1, 3) := by decide +kernel
theorem dX10_isWayClear_190 : decode cX10_isWayClear 190 = .ok (.goto 13, 3) := by decide +kernel
theorem dX10_isWayClear_193 : decode cX10_isWayClear 193 = .ok (.iload 4, 2) := by decide +kernel
theorem dX10_isWayClear_195 : decode cX10_isWayClear 195 = .ok (.iload 8, 2) := by decide +kernel
theorem dX10_isWayClear_197 : decode cX10_isWayClear 197 = .ok (.iadd, 1) := by decide +kernel
theorem dX10_isWayClear_198 : decode cX10_isWayClear 198 = .ok (.istore 4, 2) := by decide +kernel
theorem dX10_isWayClear_200 : decode cX10_isWayClear 200 = .ok (.iinc 10 1, 3) := by decide +kernel
theorem dX10_isWayClear_203 : decode cX10_isWayClear 203 = .ok (.iload 11, 2) := by decide +kernel
theorem dX10_isWayClear_205 : decode cX10_isWayClear 205 = .ok (.ifCond .eq 17, 3) := by decide +kernel
theorem dX10_isWayClear_208 : decode cX10_isWayClear 208 = .ok (.aload_n 0, 1) := by decide +kernel
theorem dX10_isWayClear_209 : decode cX10_isWayClear 209 = .ok (.iload_n 3, 1) := by decide +kernel
theorem dX10_isWayClear_210 : decode cX10_isWayClear 210 = .ok (.iload 4, 2) := by decide +kernel
theorem dX10_isWayClear_212 : decode cX10_isWayClear 212 = .ok (.invokevirtual 106, 3) := by decide +kernel
theorem dX10_isWayClear_215 : decode cX10_isWayClear 215 = .ok (.ifCond .eq 7, 3) := by decide +kernel
theorem dX10_isWayClear_218 : decode cX10_isWayClear 218 = .ok (.iconst 1, 1) := by decide +kernel
theorem dX10_isWayClear_219 : decode cX10_isWayClear 219 = .ok (.goto 4, 3) := by decide +kernel
theorem dX10_isWayClear_222 : decode cX10_isWayClear 222 = .ok (.iconst 0, 1) := by decide +kernel
theorem dX10_isWayClear_223 : decode cX10_isWayClear 223 = .ok (.istore 11, 2) := by decide +kernel
theorem dX10_isWayClear_225 : decode cX10_isWayClear 225 = .ok (.goto (-147), 3) := by decide +kernel
theorem dX10_isWayClear_228 : decode cX10_isWayClear 228 = .ok (.iload 11, 2) := by decide +kernel
theorem dX10_isWayClear_230 : decode cX10_isWayClear 230 = .ok (.ireturn, 1) := by decide +kernel
theorem dX10_isSeen_0 : decode cX10_isSeen 0 = .ok (.iload_n 1, 1) := by decide +kernel
theorem dX10_isSeen_1 : decode cX10_isSeen 1 = .ok (.iload_n 2, 1) := by decide +kernel
theorem dX10_isSeen_2 : decode cX10_isSeen 2 = .ok (.if_icmp .ne 9, 3) := by decide +kernel
theorem dX10_isSeen_5 : decode cX10_isSeen 5 = .ok (.aload_n 0, 1) := by decide +kernel
theorem dX10_isSeen_6 : decode cX10_isSeen 6 = .ok (.iload_n 1, 1) := by decide +kernel
theorem dX10_isSeen_7 : decode cX10_isSeen 7 = .ok (.invokevirtual 91, 3) := by decide +kernel
theorem dX10_isSeen_10 : decode cX10_isSeen 10 = .ok (.ireturn, 1) := by decide +kernel
theorem dX10_isSeen_11 : decode cX10_isSeen 11 = .ok (.iload_n 1, 1) := by decide +kernel
theorem dX10_isSeen_12 : decode cX10_isSeen 12 = .ok (.aload_n 0, 1) := by decide +kernel
theorem dX10_isSeen_13 : decode cX10_isSeen 13 = .ok (.getfield 68, 3) := by decide +kernel
theorem dX10_isSeen_16 : decode cX10_isSeen 16 = .ok (.irem, 1) := by decide +kernel
theorem dX10_isSeen_17 : decode cX10_isSeen 17 = .ok (.iload_n 2, 1) := by decide +kernel
theorem dX10_isSeen_18 : decode cX10_isSeen 18 = .ok (.aload_n 0, 1) := by decide +kernel
theorem dX10_isSeen_19 : decode cX10_isSeen 19 = .ok (.getfield 68, 3) := by decide +kernel
theorem dX10_isSeen_22 : decode cX10_isSeen 22 = .ok (.irem, 1) := by decide +kernel
theorem dX10_isSeen_23 : decode cX10_isSeen 23 = .ok (.isub, 1) := by decide +kernel
theorem dX10_isSeen_24 : decode cX10_isSeen 24 = .ok (.invokestatic 102, 3) := by decide +kernel
theorem dX10_isSeen_27 : decode cX10_isSeen 27 = .ok (.istore_n 3, 1) := by decide +kernel
theorem dX10_isSeen_28 : decode cX10_isSeen 28 = .ok (.iload_n 1, 1) := by decide +kernel
theorem dX10_isSeen_29 : decode cX10_isSeen 29 = .ok (.aload_n 0, 1) := by decide +kernel
theorem dX10_isSeen_30 : decode cX10_isSeen 30 = .ok (.getfield 68, 3) := by decide +kernel
theorem dX10_isSeen_33 : decode cX10_isSeen 33 = .ok (.idiv, 1) := by decide +kernel
theorem dX10_isSeen_34 : decode cX10_isSeen 34 = .ok (.iload_n 2, 1) := by decide +kernel
theorem dX10_isSeen_35 : decode cX10_isSeen 35 = .ok (.aload_n 0, 1) := by decide +kernel
theorem dX10_isSeen_36 : decode cX10_isSeen 36 = .ok (.getfield 68, 3) := by decide +kernel
theorem dX10_isSeen_39 : decode cX10_isSeen 39 = .ok (.idiv, 1) := by decide +kernel
theorem dX10_isSeen_40 : decode cX10_isSeen 40 = .ok (.isub, 1) := by decide +kernel
theorem dX10_isSeen_41 : decode cX10_isSeen 41 = .ok (.invokestatic 102, 3) := by decide +kernel
theorem dX10_isSeen_44 : decode cX10_isSeen 44 = .ok (.istore 4, 2) := by decide +kernel
theorem dX10_isSeen_46 : decode cX10_isSeen 46 = .ok (.aload_n 0, 1) := by decide +kernel
theorem dX10_isSeen_47 : decode cX10_isSeen 47 = .ok (.getfield 7, 3) := by decide +kernel
theorem dX10_isSeen_50 : decode cX10_isSeen 50 = .ok (.iload_n 1, 1) := by decide +kernel
theorem dX10_isSeen_51 : decode cX10_isSeen 51 = .ok (.iaload, 1) := by decide +kernel
theorem dX10_isSeen_52 : decode cX10_isSeen 52 = .ok (.ifCond .ne 29, 3) := by decide +kernel
theorem dX10_isSeen_55 : decode cX10_isSeen 55 = .ok (.aload_n 0, 1) := by decide +kernel
theorem dX10_isSeen_56 : decode cX10_isSeen 56 = .ok (.getfield 7, 3) := by decide +kernel
theorem dX10_isSeen_59 : decode cX10_isSeen 59 = .ok (.iload_n 2, 1) := by decide +kernel
theorem dX10_isSeen_60 : decode cX10_isSeen 60 = .ok (.iaload, 1) := by decide +kernel
theorem dX10_isSeen_61 : decode cX10_isSeen 61 = .ok (.ifCond .ne 20, 3) := by decide +kernel
theorem dX10_isSeen_64 : decode cX10_isSeen 64 = .ok (.iload_n 3, 1) := by decide +kernel
theorem dX10_isSeen_65 : decode cX10_isSeen 65 = .ok (.aload_n 0, 1) := by decide +kernel
theorem dX10_isSeen_66 : decode cX10_isSeen 66 = .ok (.getfield 17, 3) := by decide +kernel
theorem dX10_isSeen_69 : decode cX10_isSeen 69 = .ok (.if_icmp .gt 12, 3) := by decide +kernel
theorem dX10_isSeen_72 : decode cX10_isSeen 72 = .ok (.iload 4, 2) := by decide +kernel
theorem dX10_isSeen_74 : decode cX10_isSeen 74 = .ok (.aload_n 0, 1) := by decide +kernel
theorem dX10_isSeen_75 : decode cX10_isSeen 75 = .ok (.getfield 17, 3) := by decide +kernel
theorem dX10_isSeen_78 : decode cX10_isSeen 78 = .ok (.if_icmp .le 5, 3) := by decide +kernel
theorem dX10_isSeen_81 : decode cX10_isSeen 81 = .ok (.iconst 0, 1) := by decide +kernel
theorem dX10_isSeen_82 : decode cX10_isSeen 82 = .ok (.ireturn, 1) := by decide +kernel
theorem dX10_isSeen_83 : decode cX10_isSeen 83 = .ok (.aload_n 0, 1) := by decide +kernel
theorem dX10_isSeen_84 : decode cX10_isSeen 84 = .ok (.getfield 13, 3) := by decide +kernel
theorem dX10_isSeen_87 : decode cX10_isSeen 87 = .ok (.ifCond .ne 29, 3) := by decide +kernel
theorem dX10_isSeen_90 : decode cX10_isSeen 90 = .ok (.iload_n 3, 1) := by decide +kernel
theorem dX10_isSeen_91 : decode cX10_isSeen 91 = .ok (.ifCond .eq 8, 3) := by decide +kernel
theorem dX10_isSeen_94 : decode cX10_isSeen 94 = .ok (.iload 4, 2) := by decide +kernel
theorem dX10_isSeen_96 : decode cX10_isSeen 96 = .ok (.ifCond .ne 16, 3) := by decide +kernel
theorem dX10_isSeen_99 : decode cX10_isSeen 99 = .ok (.aload_n 0, 1) := by decide +kernel
theorem dX10_isSeen_100 : decode cX10_isSeen 100 = .ok (.iload_n 1, 1) := by decide +kernel
theorem dX10_isSeen_101 : decode cX10_isSeen 101 = .ok (.iload_n 2, 1) := by decide +kernel
theorem dX10_isSeen_102 : decode cX10_isSeen 102 = .ok (.invokevirtual 113, 3) := by decide +kernel
theorem dX10_isSeen_105 : decode cX10_isSeen 105 = .ok (.ifCond .eq 7, 3) := by decide +kernel
theorem dX10_isSeen_108 : decode cX10_isSeen 108 = .ok (.iconst 1, 1) := by decide +kernel
theorem dX10_isSeen_109 : decode cX10_isSeen 109 = .ok (.goto 30, 3) := by decide +kernel
theorem dX10_isSeen_112 : decode cX10_isSeen 112 = .ok (.iconst 0, 1) := by decide +kernel
theorem dX10_isSeen_113 : decode cX10_isSeen 113 = .ok (.goto 26, 3) := by decide +kernel
theorem dX10_isSeen_116 : decode cX10_isSeen 116 = .ok (.aload_n 0, 1) := by decide +kernel
theorem dX10_isSeen_117 : decode cX10_isSeen 117 = .ok (.getfield 13, 3) := by decide +kernel
theorem dX10_isSeen_120 : decode cX10_isSeen 120 = .ok (.iconst 1, 1) := by decide +kernel
theorem dX10_isSeen_121 : decode cX10_isSeen 121 = .ok (.if_icmp .ne 12, 3) := by decide +kernel
theorem dX10_isSeen_124 : decode cX10_isSeen 124 = .ok (.aload_n 0, 1) := by decide +kernel
theorem dX10_isSeen_125 : decode cX10_isSeen 125 = .ok (.iload_n 1, 1) := by decide +kernel
theorem dX10_isSeen_126 : decode cX10_isSeen 126 = .ok (.iload_n 2, 1) := by decide +kernel
theorem dX10_isSeen_127 : decode cX10_isSeen 127 = .ok (.invokevirtual 113, 3) := by decide +kernel
theorem dX10_isSeen_130 : decode cX10_isSeen 130 = .ok (.goto 9, 3) := by decide +kernel
theorem dX10_isSeen_133 : decode cX10_isSeen 133 = .ok (.aload_n 0, 1) := by decide +kernel
theorem dX10_isSeen_134 : decode cX10_isSeen 134 = .ok (.iload_n 1, 1) := by decide +kernel
theorem dX10_isSeen_135 : decode cX10_isSeen 135 = .ok (.iload_n 2, 1) := by decide +kernel
theorem dX10_isSeen_136 : decode cX10_isSeen 136 = .ok (.invokevirtual 116, 3) := by decide +kernel
theorem dX10_isSeen_139 : decode cX10_isSeen 139 = .ok (.ireturn, 1) := by decide +kernel
theorem dX10_sees_0 : decode cX10_sees 0 = .ok (.aload_n 0, 1) := by decide +kernel
theorem dX10_sees_1 : decode cX10_sees 1 = .ok (.iload_n 1, 1) := by decide +kernel
theorem dX10_sees_2 : decode cX10_sees 2 = .ok (.invokevirtual 85, 3) := by decide +kernel
theorem dX10_sees_5 : decode cX10_sees 5 = .ok (.ifCond .eq 11, 3) := by decide +kernel
theorem dX10_sees_8 : decode cX10_sees 8 = .ok (.aload_n 0, 1) := by decide +kernel
theorem dX10_sees_9 : decode cX10_sees 9 = .ok (.iload_n 2, 1) := by decide +kernel
theorem dX10_sees_10 : decode cX10_sees 10 = .ok (.invokevirtual 85, 3) := by decide +kernel
theorem dX10_sees_13 : decode cX10_sees 13 = .ok (.ifCond .ne 7, 3) := by decide +kernel
theorem dX10_sees_16 : decode cX10_sees 16 = .ok (.iconst (-1), 1) := by decide +kernel
theorem dX10_sees_17 : decode cX10_sees 17 = .ok (.goto 17, 3) := by decide +kernel
theorem dX10_sees_20 : decode cX10_sees 20 = .ok (.aload_n 0, 1) := by decide +kernel
theorem dX10_sees_21 : decode cX10_sees 21 = .ok (.iload_n 1, 1) := by decide +kernel
theorem dX10_sees_22 : decode cX10_sees 22 = .ok (.iload_n 2, 1) := by decide +kernel
theorem dX10_sees_23 : decode cX10_sees 23 = .ok (.invokevirtual 119, 3) := by decide +kernel
theorem dX10_sees_26 : decode cX10_sees 26 = .ok (.ifCond .eq 7, 3) := by decide +kernel
theorem dX10_sees_29 : decode cX10_sees 29 = .ok (.iconst 1, 1) := by decide +kernel
theorem dX10_sees_30 : decode cX10_sees 30 = .ok (.goto 4, 3) := by decide +kernel
theorem dX10_sees_33 : decode cX10_sees 33 = .ok (.iconst 0, 1) := by decide +kernel
theorem dX10_sees_34 : decode cX10_sees 34 = .ok (.ireturn, 1) := by decide +kernel
theorem dX10_viewOf_0 : decode cX10_viewOf 0 = .ok (.iconst 0, 1) := by decide +kernel
theorem dX10_viewOf_1 : decode cX10_viewOf 1 = .ok (.istore_n 2, 1) := by decide +kernel
theorem dX10_viewOf_2 : decode cX10_viewOf 2 = .ok (.iconst 0, 1) := by decide +kernel
theorem dX10_viewOf_3 : decode cX10_viewOf 3 = .ok (.istore_n 3, 1) := by decide +kernel
theorem dX10_viewOf_4 : decode cX10_viewOf 4 = .ok (.iload_n 3, 1) := by decide +kernel
theorem dX10_viewOf_5 : decode cX10_viewOf 5 = .ok (.aload_n 0, 1) := by decide +kernel
theorem dX10_viewOf_6 : decode cX10_viewOf 6 = .ok (.getfield 68, 3) := by decide +kernel
theorem dX10_viewOf_9 : decode cX10_viewOf 9 = .ok (.aload_n 0, 1) := by decide +kernel
theorem dX10_viewOf_10 : decode cX10_viewOf 10 = .ok (.getfield 71, 3) := by decide +kernel
theorem dX10_viewOf_13 : decode cX10_viewOf 13 = .ok (.imul, 1) := by decide +kernel
theorem dX10_viewOf_14 : decode cX10_viewOf 14 = .ok (.if_icmp .ge 26, 3) := by decide +kernel
theorem dX10_viewOf_17 : decode cX10_viewOf 17 = .ok (.iload_n 2, 1) := by decide +kernel
theorem dX10_viewOf_18 : decode cX10_viewOf 18 = .ok (.aload_n 0, 1) := by decide +kernel
theorem dX10_viewOf_19 : decode cX10_viewOf 19 = .ok (.iload_n 1, 1) := by decide +kernel
theorem dX10_viewOf_20 : decode cX10_viewOf 20 = .ok (.iload_n 3, 1) := by decide +kernel
theorem dX10_viewOf_21 : decode cX10_viewOf 21 = .ok (.invokevirtual 119, 3) := by decide +kernel
theorem dX10_viewOf_24 : decode cX10_viewOf 24 = .ok (.ifCond .eq 7, 3) := by decide +kernel
theorem dX10_viewOf_27 : decode cX10_viewOf 27 = .ok (.iconst 1, 1) := by decide +kernel
theorem dX10_viewOf_28 : decode cX10_viewOf 28 = .ok (.goto 4, 3) := by decide +kernel
theorem dX10_viewOf_31 : decode cX10_viewOf 31 = .ok (.iconst 0, 1) := by decide +kernel
theorem dX10_viewOf_32 : decode cX10_viewOf 32 = .ok (.iadd, 1) := by decide +kernel
theorem dX10_viewOf_33 : decode cX10_viewOf 33 = .ok (.istore_n 2, 1) := by decide +kernel
theorem dX10_viewOf_34 : decode cX10_viewOf 34 = .ok (.iinc 3 1, 3) := by decide +kernel
theorem dX10_viewOf_37 : decode cX10_viewOf 37 = .ok (.goto (-33), 3) := by decide +kernel
theorem dX10_viewOf_40 : decode cX10_viewOf 40 = .ok (.iload_n 2, 1) := by decide +kernel
theorem dX10_viewOf_41 : decode cX10_viewOf 41 = .ok (.ireturn, 1) := by decide +kernel
theorem dX10_view_0 : decode cX10_view 0 = .ok (.aload_n 0, 1) := by decide +kernel
theorem dX10_view_1 : decode cX10_view 1 = .ok (.iload_n 1, 1) := by decide +kernel
theorem dX10_view_2 : decode cX10_view 2 = .ok (.invokevirtual 85, 3) := by decide +kernel
theorem dX10_view_5 : decode cX10_view 5 = .ok (.ifCond .eq 11, 3) := by decide +kernel
theorem dX10_view_8 : decode cX10_view 8 = .ok (.aload_n 0, 1) := by decide +kernel
theorem dX10_view_9 : decode cX10_view 9 = .ok (.iload_n 1, 1) := by decide +kernel
theorem dX10_view_10 : decode cX10_view 10 = .ok (.invokevirtual 122, 3) := by decide +kernel
theorem dX10_view_13 : decode cX10_view 13 = .ok (.goto 4, 3) := by decide +kernel
theorem dX10_view_16 : decode cX10_view 16 = .ok (.iconst (-1), 1) := by decide +kernel
theorem dX10_view_17 : decode cX10_view 17 = .ok (.ireturn, 1) := by decide +kernel
theorem dX10_best_0 : decode cX10_best 0 = .ok (.bipush (-9), 2) := by decide +kernel
theorem dX10_best_2 : decode cX10_best 2 = .ok (.istore_n 1, 1) := by decide +kernel
theorem dX10_best_3 : decode cX10_best 3 = .ok (.iconst 0, 1) := by decide +kernel
theorem dX10_best_4 : decode cX10_best 4 = .ok (.istore_n 2, 1) := by decide +kernel
theorem dX10_best_5 : decode cX10_best 5 = .ok (.iconst 0, 1) := by decide +kernel
theorem dX10_best_6 : decode cX10_best 6 = .ok (.istore_n 3, 1) := by decide +kernel
theorem dX10_best_7 : decode cX10_best 7 = .ok (.iload_n 3, 1) := by decide +kernel
theorem dX10_best_8 : decode cX10_best 8 = .ok (.aload_n 0, 1) := by decide +kernel
theorem dX10_best_9 : decode cX10_best 9 = .ok (.getfield 68, 3) := by decide +kernel
theorem dX10_best_12 : decode cX10_best 12 = .ok (.aload_n 0, 1) := by decide +kernel
theorem dX10_best_13 : decode cX10_best 13 = .ok (.getfield 71, 3) := by decide +kernel
theorem dX10_best_16 : decode cX10_best 16 = .ok (.imul, 1) := by decide +kernel
theorem dX10_best_17 : decode cX10_best 17 = .ok (.if_icmp .ge 53, 3) := by decide +kernel
theorem dX10_best_20 : decode cX10_best 20 = .ok (.aload_n 0, 1) := by decide +kernel
theorem dX10_best_21 : decode cX10_best 21 = .ok (.iload_n 3, 1) := by decide +kernel
theorem dX10_best_22 : decode cX10_best 22 = .ok (.invokevirtual 91, 3) := by decide +kernel
theorem dX10_best_25 : decode cX10_best 25 = .ok (.ifCond .eq 11, 3) := by decide +kernel
theorem dX10_best_28 : decode cX10_best 28 = .ok (.aload_n 0, 1) := by decide +kernel
theorem dX10_best_29 : decode cX10_best 29 = .ok (.iload_n 3, 1) := by decide +kernel
theorem dX10_best_30 : decode cX10_best 30 = .ok (.invokevirtual 122, 3) := by decide +kernel
theorem dX10_best_33 : decode cX10_best 33 = .ok (.goto 4, 3) := by decide +kernel
theorem dX10_best_36 : decode cX10_best 36 = .ok (.iconst 0, 1) := by decide +kernel
theorem dX10_best_37 : decode cX10_best 37 = .ok (.istore 4, 2) := by decide +kernel
theorem dX10_best_39 : decode cX10_best 39 = .ok (.iload 4, 2) := by decide +kernel
theorem dX10_best_41 : decode cX10_best 41 = .ok (.iload_n 2, 1) := by decide +kernel
theorem dX10_best_42 : decode cX10_best 42 = .ok (.if_icmp .le 7, 3) := by decide +kernel
theorem dX10_best_45 : decode cX10_best 45 = .ok (.iload_n 3, 1) := by decide +kernel
theorem dX10_best_46 : decode cX10_best 46 = .ok (.goto 4, 3) := by decide +kernel
theorem dX10_best_49 : decode cX10_best 49 = .ok (.iload_n 1, 1) := by decide +kernel
theorem dX10_best_50 : decode cX10_best 50 = .ok (.istore_n 1, 1) := by decide +kernel
theorem dX10_best_51 : decode cX10_best 51 = .ok (.iload 4, 2) := by decide +kernel
theorem dX10_best_53 : decode cX10_best 53 = .ok (.iload_n 2, 1) := by decide +kernel
theorem dX10_best_54 : decode cX10_best 54 = .ok (.if_icmp .le 8, 3) := by decide +kernel
theorem dX10_best_57 : decode cX10_best 57 = .ok (.iload 4, 2) := by decide +kernel
theorem dX10_best_59 : decode cX10_best 59 = .ok (.goto 4, 3) := by decide +kernel
theorem dX10_best_62 : decode cX10_best 62 = .ok (.iload_n 2, 1) := by decide +kernel
theorem dX10_best_63 : decode cX10_best 63 = .ok (.istore_n 2, 1) := by decide +kernel
theorem dX10_best_64 : decode cX10_best 64 = .ok (.iinc 3 1, 3) := by decide +kernel
theorem dX10_best_67 : decode cX10_best 67 = .ok (.goto (-60), 3) := by decide +kernel
theorem dX10_best_70 : decode cX10_best 70 = .ok (.iload_n 1, 1) := by decide +kernel
theorem dX10_best_71 : decode cX10_best 71 = .ok (.ireturn, 1) := by decide +kernel
theorem dX10_picture_0 : decode cX10_picture 0 = .ok (.aload_n 0, 1) := by decide +kernel
theorem dX10_picture_1 : decode cX10_picture 1 = .ok (.iload_n 1, 1) := by decide +kernel
theorem dX10_picture_2 : decode cX10_picture 2 = .ok (.invokevirtual 85, 3) := by decide +kernel
theorem dX10_picture_5 : decode cX10_picture 5 = .ok (.ifCond .ne 5, 3) := by decide +kernel
theorem dX10_picture_8 : decode cX10_picture 8 = .ok (.iconst (-1), 1) := by decide +kernel
theorem dX10_picture_9 : decode cX10_picture 9 = .ok (.ireturn, 1) := by decide +kernel
theorem dX10_picture_10 : decode cX10_picture 10 = .ok (.iload_n 2, 1) := by decide +kernel
theorem dX10_picture_11 : decode cX10_picture 11 = .ok (.i2l, 1) := by decide +kernel
theorem dX10_picture_12 : decode cX10_picture 12 = .ok (.lconst 0, 1) := by decide +kernel
theorem dX10_picture_13 : decode cX10_picture 13 = .ok (.ldc2_w 89, 3) := by decide +kernel
theorem dX10_picture_16 : decode cX10_picture 16 = .ok (.invokestatic 77, 3) := by decide +kernel
theorem dX10_picture_19 : decode cX10_picture 19 = .ok (.ifCond .ne 6, 3) := by decide +kernel
theorem dX10_picture_22 : decode cX10_picture 22 = .ok (.bipush (-2), 2) := by decide +kernel
theorem dX10_picture_24 : decode cX10_picture 24 = .ok (.ireturn, 1) := by decide +kernel
theorem dX10_picture_25 : decode cX10_picture 25 = .ok (.aload_n 0, 1) := by decide +kernel
theorem dX10_picture_26 : decode cX10_picture 26 = .ok (.getfield 7, 3) := by decide +kernel
theorem dX10_picture_29 : decode cX10_picture 29 = .ok (.iload_n 1, 1) := by decide +kernel
theorem dX10_picture_30 : decode cX10_picture 30 = .ok (.iaload, 1) := by decide +kernel
theorem dX10_picture_31 : decode cX10_picture 31 = .ok (.ifCond .eq 6, 3) := by decide +kernel
theorem dX10_picture_34 : decode cX10_picture 34 = .ok (.bipush (-3), 2) := by decide +kernel
theorem dX10_picture_36 : decode cX10_picture 36 = .ok (.ireturn, 1) := by decide +kernel
theorem dX10_picture_37 : decode cX10_picture 37 = .ok (.aload_n 0, 1) := by decide +kernel
theorem dX10_picture_38 : decode cX10_picture 38 = .ok (.getfield 74, 3) := by decide +kernel
theorem dX10_picture_41 : decode cX10_picture 41 = .ok (.bipush 8, 2) := by decide +kernel
theorem dX10_picture_43 : decode cX10_picture 43 = .ok (.if_icmp .ne 6, 3) := by decide +kernel
theorem dX10_picture_46 : decode cX10_picture 46 = .ok (.bipush (-4), 2) := by decide +kernel
theorem dX10_picture_48 : decode cX10_picture 48 = .ok (.ireturn, 1) := by decide +kernel
theorem dX10_picture_49 : decode cX10_picture 49 = .ok (.aload_n 0, 1) := by decide +kernel
theorem dX10_picture_50 : decode cX10_picture 50 = .ok (.getfield 27, 3) := by decide +kernel
theorem dX10_picture_53 : decode cX10_picture 53 = .ok (.aload_n 0, 1) := by decide +kernel
theorem dX10_picture_54 : decode cX10_picture 54 = .ok (.getfield 74, 3) := by decide +kernel
theorem dX10_picture_57 : decode cX10_picture 57 = .ok (.iload_n 1, 1) := by decide +kernel
theorem dX10_picture_58 : decode cX10_picture 58 = .ok (.iastore, 1) := by decide +kernel
theorem dX10_picture_59 : decode cX10_picture 59 = .ok (.aload_n 0, 1) := by decide +kernel
theorem dX10_picture_60 : decode cX10_picture 60 = .ok (.getfield 30, 3) := by decide +kernel
theorem dX10_picture_63 : decode cX10_picture 63 = .ok (.aload_n 0, 1) := by decide +kernel
theorem dX10_picture_64 : decode cX10_picture 64 = .ok (.getfield 74, 3) := by decide +kernel
theorem dX10_picture_67 : decode cX10_picture 67 = .ok (.iload_n 2, 1) := by decide +kernel
theorem dX10_picture_68 : decode cX10_picture 68 = .ok (.iastore, 1) := by decide +kernel
theorem dX10_picture_69 : decode cX10_picture 69 = .ok (.aload_n 0, 1) := by decide +kernel
theorem dX10_picture_70 : decode cX10_picture 70 = .ok (.dup, 1) := by decide +kernel
theorem dX10_picture_71 : decode cX10_picture 71 = .ok (.getfield 74, 3) := by decide +kernel
theorem dX10_picture_74 : decode cX10_picture 74 = .ok (.iconst 1, 1) := by decide +kernel
theorem dX10_picture_75 : decode cX10_picture 75 = .ok (.iadd, 1) := by decide +kernel
theorem dX10_picture_76 : decode cX10_picture 76 = .ok (.putfield 74, 3) := by decide +kernel
theorem dX10_picture_79 : decode cX10_picture 79 = .ok (.aload_n 0, 1) := by decide +kernel
theorem dX10_picture_80 : decode cX10_picture 80 = .ok (.getfield 74, 3) := by decide +kernel
theorem dX10_picture_83 : decode cX10_picture 83 = .ok (.iconst 1, 1) := by decide +kernel
theorem dX10_picture_84 : decode cX10_picture 84 = .ok (.isub, 1) := by decide +kernel
theorem dX10_picture_85 : decode cX10_picture 85 = .ok (.ireturn, 1) := by decide +kernel
theorem dX10_isPicture_0 : decode cX10_isPicture 0 = .ok (.iload_n 1, 1) := by decide +kernel
theorem dX10_isPicture_1 : decode cX10_isPicture 1 = .ok (.i2l, 1) := by decide +kernel
theorem dX10_isPicture_2 : decode cX10_isPicture 2 = .ok (.lconst 0, 1) := by decide +kernel
theorem dX10_isPicture_3 : decode cX10_isPicture 3 = .ok (.aload_n 0, 1) := by decide +kernel
theorem dX10_isPicture_4 : decode cX10_isPicture 4 = .ok (.getfield 74, 3) := by decide +kernel
theorem dX10_isPicture_7 : decode cX10_isPicture 7 = .ok (.iconst 1, 1) := by decide +kernel
theorem dX10_isPicture_8 : decode cX10_isPicture 8 = .ok (.isub, 1) := by decide +kernel
theorem dX10_isPicture_9 : decode cX10_isPicture 9 = .ok (.i2l, 1) := by decide +kernel
theorem dX10_isPicture_10 : decode cX10_isPicture 10 = .ok (.invokestatic 77, 3) := by decide +kernel
theorem dX10_isPicture_13 : decode cX10_isPicture 13 = .ok (.ireturn, 1) := by decide +kernel
theorem dX10_about_0 : decode cX10_about 0 = .ok (.aload_n 0, 1) := by decide +kernel
theorem dX10_about_1 : decode cX10_about 1 = .ok (.iload_n 1, 1) := by decide +kernel
theorem dX10_about_2 : decode cX10_about 2 = .ok (.invokevirtual 125, 3) := by decide +kernel
theorem dX10_about_5 : decode cX10_about 5 = .ok (.ifCond .ne 5, 3) := by decide +kernel
theorem dX10_about_8 : decode cX10_about 8 = .ok (.iconst (-1), 1) := by decide +kernel
theorem dX10_about_9 : decode cX10_about 9 = .ok (.ireturn, 1) := by decide +kernel
theorem dX10_about_10 : decode cX10_about 10 = .ok (.iload_n 2, 1) := by decide +kernel
theorem dX10_about_11 : decode cX10_about 11 = .ok (.ifCond .ne 12, 3) := by decide +kernel
theorem dX10_about_14 : decode cX10_about 14 = .ok (.aload_n 0, 1) := by decide +kernel
theorem dX10_about_15 : decode cX10_about 15 = .ok (.getfield 27, 3) := by decide +kernel
theorem dX10_about_18 : decode cX10_about 18 = .ok (.iload_n 1, 1) := by decide +kernel
theorem dX10_about_19 : decode cX10_about 19 = .ok (.iaload, 1) := by decide +kernel
theorem dX10_about_20 : decode cX10_about 20 = .ok (.goto 19, 3) := by decide +kernel
theorem dX10_about_23 : decode cX10_about 23 = .ok (.iload_n 2, 1) := by decide +kernel
theorem dX10_about_24 : decode cX10_about 24 = .ok (.iconst 1, 1) := by decide +kernel
theorem dX10_about_25 : decode cX10_about 25 = .ok (.if_icmp .ne 12, 3) := by decide +kernel
theorem dX10_about_28 : decode cX10_about 28 = .ok (.aload_n 0, 1) := by decide +kernel
theorem dX10_about_29 : decode cX10_about 29 = .ok (.getfield 30, 3) := by decide +kernel
theorem dX10_about_32 : decode cX10_about 32 = .ok (.iload_n 1, 1) := by decide +kernel
theorem dX10_about_33 : decode cX10_about 33 = .ok (.iaload, 1) := by decide +kernel
theorem dX10_about_34 : decode cX10_about 34 = .ok (.goto 5, 3) := by decide +kernel
theorem dX10_about_37 : decode cX10_about 37 = .ok (.bipush (-2), 2) := by decide +kernel
theorem dX10_about_39 : decode cX10_about 39 = .ok (.ireturn, 1) := by decide +kernel
theorem dX10_sightsPicture_0 : decode cX10_sightsPicture 0 = .ok (.iload_n 2, 1) := by decide +kernel
theorem dX10_sightsPicture_1 : decode cX10_sightsPicture 1 = .ok (.aload_n 0, 1) := by decide +kernel
theorem dX10_sightsPicture_2 : decode cX10_sightsPicture 2 = .ok (.getfield 68, 3) := by decide +kernel
theorem dX10_sightsPicture_5 : decode cX10_sightsPicture 5 = .ok (.irem, 1) := by decide +kernel
theorem dX10_sightsPicture_6 : decode cX10_sightsPicture 6 = .ok (.aload_n 0, 1) := by decide +kernel
theorem dX10_sightsPicture_7 : decode cX10_sightsPicture 7 = .ok (.getfield 27, 3) := by decide +kernel
theorem dX10_sightsPicture_10 : decode cX10_sightsPicture 10 = .ok (.iload_n 1, 1) := by decide +kernel
theorem dX10_sightsPicture_11 : decode cX10_sightsPicture 11 = .ok (.iaload, 1) := by decide +kernel
theorem dX10_sightsPicture_12 : decode cX10_sightsPicture 12 = .ok (.aload_n 0, 1) := by decide +kernel
theorem dX10_sightsPicture_13 : decode cX10_sightsPicture 13 = .ok (.getfield 68, 3) := by decide +kernel
theorem dX10_sightsPicture_16 : decode cX10_sightsPicture 16 = .ok (.irem, 1) := by decide +kernel
theorem dX10_sightsPicture_17 : decode cX10_sightsPicture 17 = .ok (.isub, 1) := by decide +kernel
theorem dX10_sightsPicture_18 : decode cX10_sightsPicture 18 = .ok (.istore_n 3, 1) := by decide +kernel
theorem dX10_sightsPicture_19 : decode cX10_sightsPicture 19 = .ok (.iload_n 2, 1) := by decide +kernel
theorem dX10_sightsPicture_20 : decode cX10_sightsPicture 20 = .ok (.aload_n 0, 1) := by decide +kernel
theorem dX10_sightsPicture_21 : decode cX10_sightsPicture 21 = .ok (.getfield 68, 3) := by decide +kernel
theorem dX10_sightsPicture_24 : decode cX10_sightsPicture 24 = .ok (.idiv, 1) := by decide +kernel
theorem dX10_sightsPicture_25 : decode cX10_sightsPicture 25 = .ok (.aload_n 0, 1) := by decide +kernel
theorem dX10_sightsPicture_26 : decode cX10_sightsPicture 26 = .ok (.getfield 27, 3) := by decide +kernel
theorem dX10_sightsPicture_29 : decode cX10_sightsPicture 29 = .ok (.iload_n 1, 1) := by decide +kernel
theorem dX10_sightsPicture_30 : decode cX10_sightsPicture 30 = .ok (.iaload, 1) := by decide +kernel
theorem dX10_sightsPicture_31 : decode cX10_sightsPicture 31 = .ok (.aload_n 0, 1) := by decide +kernel
theorem dX10_sightsPicture_32 : decode cX10_sightsPicture 32 = .ok (.getfield 68, 3) := by decide +kernel
theorem dX10_sightsPicture_35 : decode cX10_sightsPicture 35 = .ok (.idiv, 1) := by decide +kernel
theorem dX10_sightsPicture_36 : decode cX10_sightsPicture 36 = .ok (.isub, 1) := by decide +kernel
theorem dX10_sightsPicture_37 : decode cX10_sightsPicture 37 = .ok (.istore 4, 2) := by decide +kernel
theorem dX10_sightsPicture_39 : decode cX10_sightsPicture 39 = .ok (.aload_n 0, 1) := by decide +kernel
theorem dX10_sightsPicture_40 : decode cX10_sightsPicture 40 = .ok (.getfield 30, 3) := by decide +kernel
theorem dX10_sightsPicture_43 : decode cX10_sightsPicture 43 = .ok (.iload_n 1, 1) := by decide +kernel
theorem dX10_sightsPicture_44 : decode cX10_sightsPicture 44 = .ok (.iaload, 1) := by decide +kernel
theorem dX10_sightsPicture_45 : decode cX10_sightsPicture 45 = .ok (.istore 5, 2) := by decide +kernel
theorem dX10_sightsPicture_47 : decode cX10_sightsPicture 47 = .ok (.iload 5, 2) := by decide +kernel
theorem dX10_sightsPicture_49 : decode cX10_sightsPicture 49 = .ok (.ifCond .ne 15, 3) := by decide +kernel
theorem dX10_sightsPicture_52 : decode cX10_sightsPicture 52 = .ok (.iload_n 3, 1) := by decide +kernel
theorem dX10_sightsPicture_53 : decode cX10_sightsPicture 53 = .ok (.ifCond .lt 7, 3) := by decide +kernel
theorem dX10_sightsPicture_56 : decode cX10_sightsPicture 56 = .ok (.iconst 1, 1) := by decide +kernel
theorem dX10_sightsPicture_57 : decode cX10_sightsPicture 57 = .ok (.goto 54, 3) := by decide +kernel
theorem dX10_sightsPicture_60 : decode cX10_sightsPicture 60 = .ok (.iconst 0, 1) := by decide +kernel
theorem dX10_sightsPicture_61 : decode cX10_sightsPicture 61 = .ok (.goto 50, 3) := by decide +kernel
theorem dX10_sightsPicture_64 : decode cX10_sightsPicture 64 = .ok (.iload 5, 2) := by decide +kernel
theorem dX10_sightsPicture_66 : decode cX10_sightsPicture 66 = .ok (.iconst 1, 1) := by decide +kernel
theorem dX10_sightsPicture_67 : decode cX10_sightsPicture 67 = .ok (.if_icmp .ne 16, 3) := by decide +kernel
theorem dX10_sightsPicture_70 : decode cX10_sightsPicture 70 = .ok (.iload 4, 2) := by decide +kernel
theorem dX10_sightsPicture_72 : decode cX10_sightsPicture 72 = .ok (.ifCond .lt 7, 3) := by decide +kernel
theorem dX10_sightsPicture_75 : decode cX10_sightsPicture 75 = .ok (.iconst 1, 1) := by decide +kernel
theorem dX10_sightsPicture_76 : decode cX10_sightsPicture 76 = .ok (.goto 35, 3) := by decide +kernel
theorem dX10_sightsPicture_79 : decode cX10_sightsPicture 79 = .ok (.iconst 0, 1) := by decide +kernel
theorem dX10_sightsPicture_80 : decode cX10_sightsPicture 80 = .ok (.goto 31, 3) := by decide +kernel
theorem dX10_sightsPicture_83 : decode cX10_sightsPicture 83 = .ok (.iload 5, 2) := by decide +kernel
theorem dX10_sightsPicture_85 : decode cX10_sightsPicture 85 = .ok (.iconst 2, 1) := by decide +kernel
theorem dX10_sightsPicture_86 : decode cX10_sightsPicture 86 = .ok (.if_icmp .ne 15, 3) := by decide +kernel
theorem dX10_sightsPicture_89 : decode cX10_sightsPicture 89 = .ok (.iload_n 3, 1) := by decide +kernel
theorem dX10_sightsPicture_90 : decode cX10_sightsPicture 90 = .ok (.ifCond .gt 7, 3) := by decide +kernel
theorem dX10_sightsPicture_93 : decode cX10_sightsPicture 93 = .ok (.iconst 1, 1) := by decide +kernel
theorem dX10_sightsPicture_94 : decode cX10_sightsPicture 94 = .ok (.goto 17, 3) := by decide +kernel
theorem dX10_sightsPicture_97 : decode cX10_sightsPicture 97 = .ok (.iconst 0, 1) := by decide +kernel
theorem dX10_sightsPicture_98 : decode cX10_sightsPicture 98 = .ok (.goto 13, 3) := by decide +kernel
theorem dX10_sightsPicture_101 : decode cX10_sightsPicture 101 = .ok (.iload 4, 2) := by decide +kernel
theorem dX10_sightsPicture_103 : decode cX10_sightsPicture 103 = .ok (.ifCond .gt 7, 3) := by decide +kernel
theorem dX10_sightsPicture_106 : decode cX10_sightsPicture 106 = .ok (.iconst 1, 1) := by decide +kernel
theorem dX10_sightsPicture_107 : decode cX10_sightsPicture 107 = .ok (.goto 4, 3) := by decide +kernel
theorem dX10_sightsPicture_110 : decode cX10_sightsPicture 110 = .ok (.iconst 0, 1) := by decide +kernel
theorem dX10_sightsPicture_111 : decode cX10_sightsPicture 111 = .ok (.istore 6, 2) := by decide +kernel
theorem dX10_sightsPicture_113 : decode cX10_sightsPicture 113 = .ok (.iload 6, 2) := by decide +kernel
theorem dX10_sightsPicture_115 : decode cX10_sightsPicture 115 = .ok (.ifCond .eq 21, 3) := by decide +kernel
theorem dX10_sightsPicture_118 : decode cX10_sightsPicture 118 = .ok (.aload_n 0, 1) := by decide +kernel
theorem dX10_sightsPicture_119 : decode cX10_sightsPicture 119 = .ok (.iload_n 2, 1) := by decide +kernel
theorem dX10_sightsPicture_120 : decode cX10_sightsPicture 120 = .ok (.aload_n 0, 1) := by decide +kernel
theorem dX10_sightsPicture_121 : decode cX10_sightsPicture 121 = .ok (.getfield 27, 3) := by decide +kernel
theorem dX10_sightsPicture_124 : decode cX10_sightsPicture 124 = .ok (.iload_n 1, 1) := by decide +kernel
theorem dX10_sightsPicture_125 : decode cX10_sightsPicture 125 = .ok (.iaload, 1) := by decide +kernel
theorem dX10_sightsPicture_126 : decode cX10_sightsPicture 126 = .ok (.invokevirtual 119, 3) := by decide +kernel
theorem dX10_sightsPicture_129 : decode cX10_sightsPicture 129 = .ok (.ifCond .eq 7, 3) := by decide +kernel
theorem dX10_sightsPicture_132 : decode cX10_sightsPicture 132 = .ok (.iconst 1, 1) := by decide +kernel
theorem dX10_sightsPicture_133 : decode cX10_sightsPicture 133 = .ok (.goto 4, 3) := by decide +kernel
theorem dX10_sightsPicture_136 : decode cX10_sightsPicture 136 = .ok (.iconst 0, 1) := by decide +kernel
theorem dX10_sightsPicture_137 : decode cX10_sightsPicture 137 = .ok (.ireturn, 1) := by decide +kernel
theorem dX10_sightsFrom_0 : decode cX10_sightsFrom 0 = .ok (.iconst 0, 1) := by decide +kernel
theorem dX10_sightsFrom_1 : decode cX10_sightsFrom 1 = .ok (.istore_n 2, 1) := by decide +kernel
theorem dX10_sightsFrom_2 : decode cX10_sightsFrom 2 = .ok (.iconst 0, 1) := by decide +kernel
theorem dX10_sightsFrom_3 : decode cX10_sightsFrom 3 = .ok (.istore_n 3, 1) := by decide +kernel
theorem dX10_sightsFrom_4 : decode cX10_sightsFrom 4 = .ok (.iload_n 3, 1) := by decide +kernel
theorem dX10_sightsFrom_5 : decode cX10_sightsFrom 5 = .ok (.aload_n 0, 1) := by decide +kernel
theorem dX10_sightsFrom_6 : decode cX10_sightsFrom 6 = .ok (.getfield 74, 3) := by decide +kernel
theorem dX10_sightsFrom_9 : decode cX10_sightsFrom 9 = .ok (.if_icmp .ge 28, 3) := by decide +kernel
theorem dX10_sightsFrom_12 : decode cX10_sightsFrom 12 = .ok (.iload_n 2, 1) := by decide +kernel
theorem dX10_sightsFrom_13 : decode cX10_sightsFrom 13 = .ok (.aload_n 0, 1) := by decide +kernel
theorem dX10_sightsFrom_14 : decode cX10_sightsFrom 14 = .ok (.iload_n 3, 1) := by decide +kernel
theorem dX10_sightsFrom_15 : decode cX10_sightsFrom 15 = .ok (.iload_n 1, 1) := by decide +kernel
theorem dX10_sightsFrom_16 : decode cX10_sightsFrom 16 = .ok (.invokevirtual 128, 3) := by decide +kernel
theorem dX10_sightsFrom_19 : decode cX10_sightsFrom 19 = .ok (.ifCond .eq 9, 3) := by decide +kernel
theorem dX10_sightsFrom_22 : decode cX10_sightsFrom 22 = .ok (.iconst 1, 1) := by decide +kernel
theorem dX10_sightsFrom_23 : decode cX10_sightsFrom 23 = .ok (.iload_n 3, 1) := by decide +kernel
theorem dX10_sightsFrom_24 : decode cX10_sightsFrom 24 = .ok (.ishl, 1) := by decide +kernel
theorem dX10_sightsFrom_25 : decode cX10_sightsFrom 25 = .ok (.goto 4, 3) := by decide +kernel
theorem dX10_sightsFrom_28 : decode cX10_sightsFrom 28 = .ok (.iconst 0, 1) := by decide +kernel
theorem dX10_sightsFrom_29 : decode cX10_sightsFrom 29 = .ok (.ior, 1) := by decide +kernel
theorem dX10_sightsFrom_30 : decode cX10_sightsFrom 30 = .ok (.istore_n 2, 1) := by decide +kernel
theorem dX10_sightsFrom_31 : decode cX10_sightsFrom 31 = .ok (.iinc 3 1, 3) := by decide +kernel
theorem dX10_sightsFrom_34 : decode cX10_sightsFrom 34 = .ok (.goto (-30), 3) := by decide +kernel
theorem dX10_sightsFrom_37 : decode cX10_sightsFrom 37 = .ok (.iload_n 2, 1) := by decide +kernel
theorem dX10_sightsFrom_38 : decode cX10_sightsFrom 38 = .ok (.ireturn, 1) := by decide +kernel
theorem dX10_seen_0 : decode cX10_seen 0 = .ok (.aload_n 0, 1) := by decide +kernel
theorem dX10_seen_1 : decode cX10_seen 1 = .ok (.iload_n 1, 1) := by decide +kernel
theorem dX10_seen_2 : decode cX10_seen 2 = .ok (.invokevirtual 125, 3) := by decide +kernel
theorem dX10_seen_5 : decode cX10_seen 5 = .ok (.ifCond .eq 11, 3) := by decide +kernel
theorem dX10_seen_8 : decode cX10_seen 8 = .ok (.aload_n 0, 1) := by decide +kernel
theorem dX10_seen_9 : decode cX10_seen 9 = .ok (.iload_n 2, 1) := by decide +kernel
theorem dX10_seen_10 : decode cX10_seen 10 = .ok (.invokevirtual 85, 3) := by decide +kernel
theorem dX10_seen_13 : decode cX10_seen 13 = .ok (.ifCond .ne 7, 3) := by decide +kernel
theorem dX10_seen_16 : decode cX10_seen 16 = .ok (.iconst (-1), 1) := by decide +kernel
theorem dX10_seen_17 : decode cX10_seen 17 = .ok (.goto 17, 3) := by decide +kernel
theorem dX10_seen_20 : decode cX10_seen 20 = .ok (.aload_n 0, 1) := by decide +kernel
theorem dX10_seen_21 : decode cX10_seen 21 = .ok (.iload_n 1, 1) := by decide +kernel
theorem dX10_seen_22 : decode cX10_seen 22 = .ok (.iload_n 2, 1) := by decide +kernel
theorem dX10_seen_23 : decode cX10_seen 23 = .ok (.invokevirtual 128, 3) := by decide +kernel
theorem dX10_seen_26 : decode cX10_seen 26 = .ok (.ifCond .eq 7, 3) := by decide +kernel
theorem dX10_seen_29 : decode cX10_seen 29 = .ok (.iconst 1, 1) := by decide +kernel
theorem dX10_seen_30 : decode cX10_seen 30 = .ok (.goto 4, 3) := by decide +kernel
theorem dX10_seen_33 : decode cX10_seen 33 = .ok (.iconst 0, 1) := by decide +kernel
theorem dX10_seen_34 : decode cX10_seen 34 = .ok (.ireturn, 1) := by decide +kernel
theorem dX10_from_0 : decode cX10_from 0 = .ok (.aload_n 0, 1) := by decide +kernel
theorem dX10_from_1 : decode cX10_from 1 = .ok (.iload_n 1, 1) := by decide +kernel
theorem dX10_from_2 : decode cX10_from 2 = .ok (.invokevirtual 85, 3) := by decide +kernel
theorem dX10_from_5 : decode cX10_from 5 = .ok (.ifCond .eq 11, 3) := by decide +kernel
theorem dX10_from_8 : decode cX10_from 8 = .ok (.aload_n 0, 1) := by decide +kernel
theorem dX10_from_9 : decode cX10_from 9 = .ok (.iload_n 1, 1) := by decide +kernel
theorem dX10_from_10 : decode cX10_from 10 = .ok (.invokevirtual 131, 3) := by decide +kernel
theorem dX10_from_13 : decode cX10_from 13 = .ok (.goto 4, 3) := by decide +kernel
theorem dX10_from_16 : decode cX10_from 16 = .ok (.iconst (-1), 1) := by decide +kernel
theorem dX10_from_17 : decode cX10_from 17 = .ok (.ireturn, 1) := by decide +kernel
theorem dX10_laySights_0 : decode cX10_laySights 0 = .ok (.iconst 0, 1) := by decide +kernel
theorem dX10_laySights_1 : decode cX10_laySights 1 = .ok (.istore_n 1, 1) := by decide +kernel
theorem dX10_laySights_2 : decode cX10_laySights 2 = .ok (.iload_n 1, 1) := by decide +kernel
theorem dX10_laySights_3 : decode cX10_laySights 3 = .ok (.aload_n 0, 1) := by decide +kernel
theorem dX10_laySights_4 : decode cX10_laySights 4 = .ok (.getfield 68, 3) := by decide +kernel
theorem dX10_laySights_7 : decode cX10_laySights 7 = .ok (.aload_n 0, 1) := by decide +kernel
theorem dX10_laySights_8 : decode cX10_laySights 8 = .ok (.getfield 71, 3) := by decide +kernel
theorem dX10_laySights_11 : decode cX10_laySights 11 = .ok (.imul, 1) := by decide +kernel
theorem dX10_laySights_12 : decode cX10_laySights 12 = .ok (.if_icmp .ge 32, 3) := by decide +kernel
theorem dX10_laySights_15 : decode cX10_laySights 15 = .ok (.aload_n 0, 1) := by decide +kernel
theorem dX10_laySights_16 : decode cX10_laySights 16 = .ok (.getfield 33, 3) := by decide +kernel
theorem dX10_laySights_19 : decode cX10_laySights 19 = .ok (.iload_n 1, 1) := by decide +kernel
theorem dX10_laySights_20 : decode cX10_laySights 20 = .ok (.aload_n 0, 1) := by decide +kernel
theorem dX10_laySights_21 : decode cX10_laySights 21 = .ok (.iload_n 1, 1) := by decide +kernel
theorem dX10_laySights_22 : decode cX10_laySights 22 = .ok (.invokevirtual 91, 3) := by decide +kernel
theorem dX10_laySights_25 : decode cX10_laySights 25 = .ok (.ifCond .eq 11, 3) := by decide +kernel
theorem dX10_laySights_28 : decode cX10_laySights 28 = .ok (.aload_n 0, 1) := by decide +kernel
theorem dX10_laySights_29 : decode cX10_laySights 29 = .ok (.iload_n 1, 1) := by decide +kernel
theorem dX10_laySights_30 : decode cX10_laySights 30 = .ok (.invokevirtual 131, 3) := by decide +kernel
theorem dX10_laySights_33 : decode cX10_laySights 33 = .ok (.goto 4, 3) := by decide +kernel
theorem dX10_laySights_36 : decode cX10_laySights 36 = .ok (.iconst 0, 1) := by decide +kernel
theorem dX10_laySights_37 : decode cX10_laySights 37 = .ok (.iastore, 1) := by decide +kernel
theorem dX10_laySights_38 : decode cX10_laySights 38 = .ok (.iinc 1 1, 3) := by decide +kernel
theorem dX10_laySights_41 : decode cX10_laySights 41 = .ok (.goto (-39), 3) := by decide +kernel
theorem dX10_laySights_44 : decode cX10_laySights 44 = .ok (.return_, 1) := by decide +kernel
theorem dX10_layPosts_0 : decode cX10_layPosts 0 = .ok (.aload_n 0, 1) := by decide +kernel
theorem dX10_layPosts_1 : decode cX10_layPosts 1 = .ok (.invokevirtual 134, 3) := by decide +kernel
theorem dX10_layPosts_4 : decode cX10_layPosts 4 = .ok (.aload_n 0, 1) := by decide +kernel
theorem dX10_layPosts_5 : decode cX10_layPosts 5 = .ok (.getfield 68, 3) := by decide +kernel
theorem dX10_layPosts_8 : decode cX10_layPosts 8 = .ok (.aload_n 0, 1) := by decide +kernel
theorem dX10_layPosts_9 : decode cX10_layPosts 9 = .ok (.getfield 71, 3) := by decide +kernel
theorem dX10_layPosts_12 : decode cX10_layPosts 12 = .ok (.imul, 1) := by decide +kernel
theorem dX10_layPosts_13 : decode cX10_layPosts 13 = .ok (.istore_n 1, 1) := by decide +kernel
theorem dX10_layPosts_14 : decode cX10_layPosts 14 = .ok (.iconst 1, 1) := by decide +kernel
theorem dX10_layPosts_15 : decode cX10_layPosts 15 = .ok (.aload_n 0, 1) := by decide +kernel
theorem dX10_layPosts_16 : decode cX10_layPosts 16 = .ok (.getfield 74, 3) := by decide +kernel
theorem dX10_layPosts_19 : decode cX10_layPosts 19 = .ok (.ishl, 1) := by decide +kernel
theorem dX10_layPosts_20 : decode cX10_layPosts 20 = .ok (.istore_n 2, 1) := by decide +kernel
theorem dX10_layPosts_21 : decode cX10_layPosts 21 = .ok (.iconst 0, 1) := by decide +kernel
theorem dX10_layPosts_22 : decode cX10_layPosts 22 = .ok (.istore_n 3, 1) := by decide +kernel
theorem dX10_layPosts_23 : decode cX10_layPosts 23 = .ok (.iload_n 3, 1) := by decide +kernel
theorem dX10_layPosts_24 : decode cX10_layPosts 24 = .ok (.iload_n 2, 1) := by decide +kernel
theorem dX10_layPosts_25 : decode cX10_layPosts 25 = .ok (.if_icmp .ge 34, 3) := by decide +kernel
theorem dX10_layPosts_28 : decode cX10_layPosts 28 = .ok (.aload_n 0, 1) := by decide +kernel
theorem dX10_layPosts_29 : decode cX10_layPosts 29 = .ok (.getfield 36, 3) := by decide +kernel
theorem dX10_layPosts_32 : decode cX10_layPosts 32 = .ok (.sipush 256, 3) := by decide +kernel
theorem dX10_layPosts_35 : decode cX10_layPosts 35 = .ok (.iload_n 1, 1) := by decide +kernel
theorem dX10_layPosts_36 : decode cX10_layPosts 36 = .ok (.imul, 1) := by decide +kernel
theorem dX10_layPosts_37 : decode cX10_layPosts 37 = .ok (.iload_n 3, 1) := by decide +kernel
theorem dX10_layPosts_38 : decode cX10_layPosts 38 = .ok (.iadd, 1) := by decide +kernel
theorem dX10_layPosts_39 : decode cX10_layPosts 39 = .ok (.iload_n 3, 1) := by decide +kernel
theorem dX10_layPosts_40 : decode cX10_layPosts 40 = .ok (.iload_n 2, 1) := by decide +kernel
theorem dX10_layPosts_41 : decode cX10_layPosts 41 = .ok (.iconst 1, 1) := by decide +kernel
theorem dX10_layPosts_42 : decode cX10_layPosts 42 = .ok (.isub, 1) := by decide +kernel
theorem dX10_layPosts_43 : decode cX10_layPosts 43 = .ok (.if_icmp .ne 7, 3) := by decide +kernel
theorem dX10_layPosts_46 : decode cX10_layPosts 46 = .ok (.iconst 0, 1) := by decide +kernel
theorem dX10_layPosts_47 : decode cX10_layPosts 47 = .ok (.goto 5, 3) := by decide +kernel
theorem dX10_layPosts_50 : decode cX10_layPosts 50 = .ok (.ldc 137, 2) := by decide +kernel
theorem dX10_layPosts_52 : decode cX10_layPosts 52 = .ok (.iastore, 1) := by decide +kernel
theorem dX10_layPosts_53 : decode cX10_layPosts 53 = .ok (.iinc 3 1, 3) := by decide +kernel
theorem dX10_layPosts_56 : decode cX10_layPosts 56 = .ok (.goto (-33), 3) := by decide +kernel
theorem dX10_layPosts_59 : decode cX10_layPosts 59 = .ok (.iload_n 1, 1) := by decide +kernel
theorem dX10_layPosts_60 : decode cX10_layPosts 60 = .ok (.iconst 1, 1) := by decide +kernel
theorem dX10_layPosts_61 : decode cX10_layPosts 61 = .ok (.isub, 1) := by decide +kernel
theorem dX10_layPosts_62 : decode cX10_layPosts 62 = .ok (.istore_n 3, 1) := by decide +kernel
theorem dX10_layPosts_63 : decode cX10_layPosts 63 = .ok (.iload_n 3, 1) := by decide +kernel
theorem dX10_layPosts_64 : decode cX10_layPosts 64 = .ok (.ifCond .lt 111, 3) := by decide +kernel
theorem dX10_layPosts_67 : decode cX10_layPosts 67 = .ok (.iconst 0, 1) := by decide +kernel
theorem dX10_layPosts_68 : decode cX10_layPosts 68 = .ok (.istore 4, 2) := by decide +kernel
theorem dX10_layPosts_70 : decode cX10_layPosts 70 = .ok (.iload 4, 2) := by decide +kernel
theorem dX10_layPosts_72 : decode cX10_layPosts 72 = .ok (.iload_n 2, 1) := by decide +kernel
theorem dX10_layPosts_73 : decode cX10_layPosts 73 = .ok (.if_icmp .ge 96, 3) := by decide +kernel
theorem dX10_layPosts_76 : decode cX10_layPosts 76 = .ok (.aload_n 0, 1) := by decide +kernel
theorem dX10_layPosts_77 : decode cX10_layPosts 77 = .ok (.getfield 36, 3) := by decide +kernel
theorem dX10_layPosts_80 : decode cX10_layPosts 80 = .ok (.sipush 256, 3) := by decide +kernel
theorem dX10_layPosts_83 : decode cX10_layPosts 83 = .ok (.iload_n 3, 1) := by decide +kernel
theorem dX10_layPosts_84 : decode cX10_layPosts 84 = .ok (.imul, 1) := by decide +kernel
theorem dX10_layPosts_85 : decode cX10_layPosts 85 = .ok (.sipush 256, 3) := by decide +kernel
theorem dX10_layPosts_88 : decode cX10_layPosts 88 = .ok (.iadd, 1) := by decide +kernel
theorem dX10_layPosts_89 : decode cX10_layPosts 89 = .ok (.iload 4, 2) := by decide +kernel
theorem dX10_layPosts_91 : decode cX10_layPosts 91 = .ok (.iadd, 1) := by decide +kernel
theorem dX10_layPosts_92 : decode cX10_layPosts 92 = .ok (.iaload, 1) := by decide +kernel
theorem dX10_layPosts_93 : decode cX10_layPosts 93 = .ok (.istore 5, 2) := by decide +kernel
theorem dX10_layPosts_95 : decode cX10_layPosts 95 = .ok (.aload_n 0, 1) := by decide +kernel
theorem dX10_layPosts_96 : decode cX10_layPosts 96 = .ok (.iload_n 3, 1) := by decide +kernel
theorem dX10_layPosts_97 : decode cX10_layPosts 97 = .ok (.invokevirtual 91, 3) := by decide +kernel
theorem dX10_layPosts_100 : decode cX10_layPosts 100 = .ok (.ifCond .eq 32, 3) := by decide +kernel
theorem dX10_layPosts_103 : decode cX10_layPosts 103 = .ok (.iconst 1, 1) := by decide +kernel
theorem dX10_layPosts_104 : decode cX10_layPosts 104 = .ok (.aload_n 0, 1) := by decide +kernel
theorem dX10_layPosts_105 : decode cX10_layPosts 105 = .ok (.getfield 36, 3) := by decide +kernel
theorem dX10_layPosts_108 : decode cX10_layPosts 108 = .ok (.sipush 256, 3) := by decide +kernel
theorem dX10_layPosts_111 : decode cX10_layPosts 111 = .ok (.iload_n 3, 1) := by decide +kernel
theorem dX10_layPosts_112 : decode cX10_layPosts 112 = .ok (.imul, 1) := by decide +kernel
theorem dX10_layPosts_113 : decode cX10_layPosts 113 = .ok (.sipush 256, 3) := by decide +kernel
theorem dX10_layPosts_116 : decode cX10_layPosts 116 = .ok (.iadd, 1) := by decide +kernel
theorem dX10_layPosts_117 : decode cX10_layPosts 117 = .ok (.iload 4, 2) := by decide +kernel
theorem dX10_layPosts_119 : decode cX10_layPosts 119 = .ok (.aload_n 0, 1) := by decide +kernel
theorem dX10_layPosts_120 : decode cX10_layPosts 120 = .ok (.getfield 33, 3) := by decide +kernel
theorem dX10_layPosts_123 : decode cX10_layPosts 123 = .ok (.iload_n 3, 1) := by decide +kernel
theorem dX10_layPosts_124 : decode cX10_layPosts 124 = .ok (.iaload, 1) := by decide +kernel
theorem dX10_layPosts_125 : decode cX10_layPosts 125 = .ok (.ior, 1) := by decide +kernel
theorem dX10_layPosts_126 : decode cX10_layPosts 126 = .ok (.iadd, 1) := by decide +kernel
theorem dX10_layPosts_127 : decode cX10_layPosts 127 = .ok (.iaload, 1) := by decide +kernel
theorem dX10_layPosts_128 : decode cX10_layPosts 128 = .ok (.iadd, 1) := by decide +kernel
theorem dX10_layPosts_129 : decode cX10_layPosts 129 = .ok (.goto 5, 3) := by decide +kernel
theorem dX10_layPosts_132 : decode cX10_layPosts 132 = .ok (.ldc 137, 2) := by decide +kernel
theorem dX10_layPosts_134 : decode cX10_layPosts 134 = .ok (.istore 6, 2) := by decide +kernel
theorem dX10_layPosts_136 : decode cX10_layPosts 136 = .ok (.aload_n 0, 1) := by decide +kernel
theorem dX10_layPosts_137 : decode cX10_layPosts 137 = .ok (.getfield 36, 3) := by decide +kernel
theorem dX10_layPosts_140 : decode cX10_layPosts 140 = .ok (.sipush 256, 3) := by decide +kernel
theorem dX10_layPosts_143 : decode cX10_layPosts 143 = .ok (.iload_n 3, 1) := by decide +kernel
theorem dX10_layPosts_144 : decode cX10_layPosts 144 = .ok (.imul, 1) := by decide +kernel
theorem dX10_layPosts_145 : decode cX10_layPosts 145 = .ok (.iload 4, 2) := by decide +kernel
theorem dX10_layPosts_147 : decode cX10_layPosts 147 = .ok (.iadd, 1) := by decide +kernel
theorem dX10_layPosts_148 : decode cX10_layPosts 148 = .ok (.iload 6, 2) := by decide +kernel
theorem dX10_layPosts_150 : decode cX10_layPosts 150 = .ok (.iload 5, 2) := by decide +kernel
theorem dX10_layPosts_152 : decode cX10_layPosts 152 = .ok (.if_icmp .ge 8, 3) := by decide +kernel
theorem dX10_layPosts_155 : decode cX10_layPosts 155 = .ok (.iload 6, 2) := by decide +kernel
theorem dX10_layPosts_157 : decode cX10_layPosts 157 = .ok (.goto 5, 3) := by decide +kernel
theorem dX10_layPosts_160 : decode cX10_layPosts 160 = .ok (.iload 5, 2) := by decide +kernel
theorem dX10_layPosts_162 : decode cX10_layPosts 162 = .ok (.iastore, 1) := by decide +kernel
theorem dX10_layPosts_163 : decode cX10_layPosts 163 = .ok (.iinc 4 1, 3) := by decide +kernel
theorem dX10_layPosts_166 : decode cX10_layPosts 166 = .ok (.goto (-96), 3) := by decide +kernel
theorem dX10_layPosts_169 : decode cX10_layPosts 169 = .ok (.iinc 3 (-1), 3) := by decide +kernel
theorem dX10_layPosts_172 : decode cX10_layPosts 172 = .ok (.goto (-109), 3) := by decide +kernel
theorem dX10_layPosts_175 : decode cX10_layPosts 175 = .ok (.aload_n 0, 1) := by decide +kernel
theorem dX10_layPosts_176 : decode cX10_layPosts 176 = .ok (.iconst 0, 1) := by decide +kernel
theorem dX10_layPosts_177 : decode cX10_layPosts 177 = .ok (.putfield 138, 3) := by decide +kernel
theorem dX10_layPosts_180 : decode cX10_layPosts 180 = .ok (.iconst 0, 1) := by decide +kernel
theorem dX10_layPosts_181 : decode cX10_layPosts 181 = .ok (.istore_n 3, 1) := by decide +kernel
theorem dX10_layPosts_182 : decode cX10_layPosts 182 = .ok (.iconst 0, 1) := by decide +kernel
theorem dX10_layPosts_183 : decode cX10_layPosts 183 = .ok (.istore 4, 2) := by decide +kernel
theorem dX10_layPosts_185 : decode cX10_layPosts 185 = .ok (.iload 4, 2) := by decide +kernel
theorem dX10_layPosts_187 : decode cX10_layPosts 187 = .ok (.iload_n 1, 1) := by decide +kernel
theorem dX10_layPosts_188 : decode cX10_layPosts 188 = .ok (.if_icmp .ge 131, 3) := by decide +kernel
theorem dX10_layPosts_191 : decode cX10_layPosts 191 = .ok (.aload_n 0, 1) := by decide +kernel
theorem dX10_layPosts_192 : decode cX10_layPosts 192 = .ok (.getfield 36, 3) := by decide +kernel
theorem dX10_layPosts_195 : decode cX10_layPosts 195 = .ok (.iconst 0, 1) := by decide +kernel
theorem dX10_layPosts_196 : decode cX10_layPosts 196 = .ok (.iaload, 1) := by decide +kernel
theorem dX10_layPosts_197 : decode cX10_layPosts 197 = .ok (.ldc 137, 2) := by decide +kernel
theorem dX10_layPosts_199 : decode cX10_layPosts 199 = .ok (.if_icmp .ge 120, 3) := by decide +kernel
theorem dX10_layPosts_202 : decode cX10_layPosts 202 = .ok (.aload_n 0, 1) := by decide +kernel
theorem dX10_layPosts_203 : decode cX10_layPosts 203 = .ok (.iload 4, 2) := by decide +kernel
theorem dX10_layPosts_205 : decode cX10_layPosts 205 = .ok (.invokevirtual 91, 3) := by decide +kernel
theorem dX10_layPosts_208 : decode cX10_layPosts 208 = .ok (.ifCond .eq 66, 3) := by decide +kernel
theorem dX10_layPosts_211 : decode cX10_layPosts 211 = .ok (.aload_n 0, 1) := by decide +kernel
theorem dX10_layPosts_212 : decode cX10_layPosts 212 = .ok (.getfield 36, 3) := by decide +kernel
theorem dX10_layPosts_215 : decode cX10_layPosts 215 = .ok (.sipush 256, 3) := by decide +kernel
theorem dX10_layPosts_218 : decode cX10_layPosts 218 = .ok (.iload 4, 2) := by decide +kernel
theorem dX10_layPosts_220 : decode cX10_layPosts 220 = .ok (.imul, 1) := by decide +kernel
theorem dX10_layPosts_221 : decode cX10_layPosts 221 = .ok (.iload_n 3, 1) := by decide +kernel
theorem dX10_layPosts_222 : decode cX10_layPosts 222 = .ok (.iadd, 1) := by decide +kernel
theorem dX10_layPosts_223 : decode cX10_layPosts 223 = .ok (.iaload, 1) := by decide +kernel
theorem dX10_layPosts_224 : decode cX10_layPosts 224 = .ok (.ifCond .le 50, 3) := by decide +kernel
theorem dX10_layPosts_227 : decode cX10_layPosts 227 = .ok (.iconst 1, 1) := by decide +kernel
theorem dX10_layPosts_228 : decode cX10_layPosts 228 = .ok (.aload_n 0, 1) := by decide +kernel
theorem dX10_layPosts_229 : decode cX10_layPosts 229 = .ok (.getfield 36, 3) := by decide +kernel
theorem dX10_layPosts_232 : decode cX10_layPosts 232 = .ok (.sipush 256, 3) := by decide +kernel
theorem dX10_layPosts_235 : decode cX10_layPosts 235 = .ok (.iload 4, 2) := by decide +kernel
theorem dX10_layPosts_237 : decode cX10_layPosts 237 = .ok (.imul, 1) := by decide +kernel
theorem dX10_layPosts_238 : decode cX10_layPosts 238 = .ok (.sipush 256, 3) := by decide +kernel
theorem dX10_layPosts_241 : decode cX10_layPosts 241 = .ok (.iadd, 1) := by decide +kernel
theorem dX10_layPosts_242 : decode cX10_layPosts 242 = .ok (.iload_n 3, 1) := by decide +kernel
theorem dX10_layPosts_243 : decode cX10_layPosts 243 = .ok (.aload_n 0, 1) := by decide +kernel
theorem dX10_layPosts_244 : decode cX10_layPosts 244 = .ok (.getfield 33, 3) := by decide +kernel
theorem dX10_layPosts_247 : decode cX10_layPosts 247 = .ok (.iload 4, 2) := by decide +kernel
theorem dX10_layPosts_249 : decode cX10_layPosts 249 = .ok (.iaload, 1) := by decide +kernel
theorem dX10_layPosts_250 : decode cX10_layPosts 250 = .ok (.ior, 1) := by decide +kernel
theorem dX10_layPosts_251 : decode cX10_layPosts 251 = .ok (.iadd, 1) := by decide +kernel
theorem dX10_layPosts_252 : decode cX10_layPosts 252 = .ok (.iaload, 1) := by decide +kernel
theorem dX10_layPosts_253 : decode cX10_layPosts 253 = .ok (.iadd, 1) := by decide +kernel
theorem dX10_layPosts_254 : decode cX10_layPosts 254 = .ok (.aload_n 0, 1) := by decide +kernel
theorem dX10_layPosts_255 : decode cX10_layPosts 255 = .ok (.getfield 36, 3) := by decide +kernel
theorem dX10_layPosts_258 : decode cX10_layPosts 258 = .ok (.sipush 256, 3) := by decide +kernel
theorem dX10_layPosts_261 : decode cX10_layPosts 261 = .ok (.iload 4, 2) := by decide +kernel
theorem dX10_layPosts_263 : decode cX10_layPosts 263 = .ok (.imul, 1) := by decide +kernel
theorem dX10_layPosts_264 : decode cX10_layPosts 264 = .ok (.iload_n 3, 1) := by decide +kernel
theorem dX10_layPosts_265 : decode cX10_layPosts 265 = .ok (.iadd, 1) := by decide +kernel
theorem dX10_layPosts_266 : decode cX10_layPosts 266 = .ok (.iaload, 1) := by decide +kernel
theorem dX10_layPosts_267 : decode cX10_layPosts 267 = .ok (.if_icmp .ne 7, 3) := by decide +kernel
theorem dX10_layPosts_270 : decode cX10_layPosts 270 = .ok (.iconst 1, 1) := by decide +kernel
theorem dX10_layPosts_271 : decode cX10_layPosts 271 = .ok (.goto 4, 3) := by decide +kernel
theorem dX10_layPosts_274 : decode cX10_layPosts 274 = .ok (.iconst 0, 1) := by decide +kernel
theorem dX10_layPosts_275 : decode cX10_layPosts 275 = .ok (.istore 5, 2) := by decide +kernel
theorem dX10_layPosts_277 : decode cX10_layPosts 277 = .ok (.iload 5, 2) := by decide +kernel
theorem dX10_layPosts_279 : decode cX10_layPosts 279 = .ok (.ifCond .eq 34, 3) := by decide +kernel
theorem dX10_layPosts_282 : decode cX10_layPosts 282 = .ok (.aload_n 0, 1) := by decide +kernel
theorem dX10_layPosts_283 : decode cX10_layPosts 283 = .ok (.getfield 39, 3) := by decide +kernel
theorem dX10_layPosts_286 : decode cX10_layPosts 286 = .ok (.aload_n 0, 1) := by decide +kernel
theorem dX10_layPosts_287 : decode cX10_layPosts 287 = .ok (.getfield 138, 3) := by decide +kernel
theorem dX10_layPosts_290 : decode cX10_layPosts 290 = .ok (.iload 4, 2) := by decide +kernel
theorem dX10_layPosts_292 : decode cX10_layPosts 292 = .ok (.iastore, 1) := by decide +kernel
theorem dX10_layPosts_293 : decode cX10_layPosts 293 = .ok (.aload_n 0, 1) := by decide +kernel
theorem dX10_layPosts_294 : decode cX10_layPosts 294 = .ok (.dup, 1) := by decide +kernel
theorem dX10_layPosts_295 : decode cX10_layPosts 295 = .ok (.getfield 138, 3) := by decide +kernel
theorem dX10_layPosts_298 : decode cX10_layPosts 298 = .ok (.iconst 1, 1) := by decide +kernel
theorem dX10_layPosts_299 : decode cX10_layPosts 299 = .ok (.iadd, 1) := by decide +kernel
theorem dX10_layPosts_300 : decode cX10_layPosts 300 = .ok (.putfield 138, 3) := by decide +kernel
theorem dX10_layPosts_303 : decode cX10_layPosts 303 = .ok (.iload_n 3, 1) := by decide +kernel
theorem dX10_layPosts_304 : decode cX10_layPosts 304 = .ok (.aload_n 0, 1) := by decide +kernel
theorem dX10_layPosts_305 : decode cX10_layPosts 305 = .ok (.getfield 33, 3) := by decide +kernel
theorem dX10_layPosts_308 : decode cX10_layPosts 308 = .ok (.iload 4, 2) := by decide +kernel
theorem dX10_layPosts_310 : decode cX10_layPosts 310 = .ok (.iaload, 1) := by decide +kernel
theorem dX10_layPosts_311 : decode cX10_layPosts 311 = .ok (.ior, 1) := by decide +kernel
theorem dX10_layPosts_312 : decode cX10_layPosts 312 = .ok (.istore_n 3, 1) := by decide +kernel
theorem dX10_layPosts_313 : decode cX10_layPosts 313 = .ok (.iinc 4 1, 3) := by decide +kernel
theorem dX10_layPosts_316 : decode cX10_layPosts 316 = .ok (.goto (-131), 3) := by decide +kernel
theorem dX10_layPosts_319 : decode cX10_layPosts 319 = .ok (.return_, 1) := by decide +kernel
theorem dX10_fewest_0 : decode cX10_fewest 0 = .ok (.aload_n 0, 1) := by decide +kernel
theorem dX10_fewest_1 : decode cX10_fewest 1 = .ok (.invokevirtual 141, 3) := by decide +kernel
theorem dX10_fewest_4 : decode cX10_fewest 4 = .ok (.aload_n 0, 1) := by decide +kernel
theorem dX10_fewest_5 : decode cX10_fewest 5 = .ok (.getfield 36, 3) := by decide +kernel
theorem dX10_fewest_8 : decode cX10_fewest 8 = .ok (.iconst 0, 1) := by decide +kernel
theorem dX10_fewest_9 : decode cX10_fewest 9 = .ok (.iaload, 1) := by decide +kernel
theorem dX10_fewest_10 : decode cX10_fewest 10 = .ok (.ldc 137, 2) := by decide +kernel
theorem dX10_fewest_12 : decode cX10_fewest 12 = .ok (.if_icmp .lt 8, 3) := by decide +kernel
theorem dX10_fewest_15 : decode cX10_fewest 15 = .ok (.bipush (-9), 2) := by decide +kernel
theorem dX10_fewest_17 : decode cX10_fewest 17 = .ok (.goto 9, 3) := by decide +kernel
theorem dX10_fewest_20 : decode cX10_fewest 20 = .ok (.aload_n 0, 1) := by decide +kernel
theorem dX10_fewest_21 : decode cX10_fewest 21 = .ok (.getfield 36, 3) := by decide +kernel
theorem dX10_fewest_24 : decode cX10_fewest 24 = .ok (.iconst 0, 1) := by decide +kernel
theorem dX10_fewest_25 : decode cX10_fewest 25 = .ok (.iaload, 1) := by decide +kernel
theorem dX10_fewest_26 : decode cX10_fewest 26 = .ok (.ireturn, 1) := by decide +kernel
theorem dX10_post_0 : decode cX10_post 0 = .ok (.aload_n 0, 1) := by decide +kernel
theorem dX10_post_1 : decode cX10_post 1 = .ok (.invokevirtual 141, 3) := by decide +kernel
theorem dX10_post_4 : decode cX10_post 4 = .ok (.iload_n 1, 1) := by decide +kernel
theorem dX10_post_5 : decode cX10_post 5 = .ok (.i2l, 1) := by decide +kernel
theorem dX10_post_6 : decode cX10_post 6 = .ok (.lconst 0, 1) := by decide +kernel
theorem dX10_post_7 : decode cX10_post 7 = .ok (.aload_n 0, 1) := by decide +kernel
theorem dX10_post_8 : decode cX10_post 8 = .ok (.getfield 138, 3) := by decide +kernel
theorem dX10_post_11 : decode cX10_post 11 = .ok (.iconst 1, 1) := by decide +kernel
theorem dX10_post_12 : decode cX10_post 12 = .ok (.isub, 1) := by decide +kernel
theorem dX10_post_13 : decode cX10_post 13 = .ok (.i2l, 1) := by decide +kernel
theorem dX10_post_14 : decode cX10_post 14 = .ok (.invokestatic 77, 3) := by decide +kernel
theorem dX10_post_17 : decode cX10_post 17 = .ok (.ifCond .eq 12, 3) := by decide +kernel
theorem dX10_post_20 : decode cX10_post 20 = .ok (.aload_n 0, 1) := by decide +kernel
theorem dX10_post_21 : decode cX10_post 21 = .ok (.getfield 39, 3) := by decide +kernel
theorem dX10_post_24 : decode cX10_post 24 = .ok (.iload_n 1, 1) := by decide +kernel
theorem dX10_post_25 : decode cX10_post 25 = .ok (.iaload, 1) := by decide +kernel
theorem dX10_post_26 : decode cX10_post 26 = .ok (.goto 5, 3) := by decide +kernel
theorem dX10_post_29 : decode cX10_post 29 = .ok (.bipush (-9), 2) := by decide +kernel
theorem dX10_post_31 : decode cX10_post 31 = .ok (.ireturn, 1) := by decide +kernel
theorem dX10_layTour_0 : decode cX10_layTour 0 = .ok (.aload_n 0, 1) := by decide +kernel
theorem dX10_layTour_1 : decode cX10_layTour 1 = .ok (.invokevirtual 134, 3) := by decide +kernel
theorem dX10_layTour_4 : decode cX10_layTour 4 = .ok (.iconst 1, 1) := by decide +kernel
theorem dX10_layTour_5 : decode cX10_layTour 5 = .ok (.aload_n 0, 1) := by decide +kernel
theorem dX10_layTour_6 : decode cX10_layTour 6 = .ok (.getfield 74, 3) := by decide +kernel
theorem dX10_layTour_9 : decode cX10_layTour 9 = .ok (.ishl, 1) := by decide +kernel
theorem dX10_layTour_10 : decode cX10_layTour 10 = .ok (.iconst 1, 1) := by decide +kernel
theorem dX10_layTour_11 : decode cX10_layTour 11 = .ok (.isub, 1) := by decide +kernel
theorem dX10_layTour_12 : decode cX10_layTour 12 = .ok (.istore_n 2, 1) := by decide +kernel
theorem dX10_layTour_13 : decode cX10_layTour 13 = .ok (.iconst 0, 1) := by decide +kernel
theorem dX10_layTour_14 : decode cX10_layTour 14 = .ok (.istore_n 3, 1) := by decide +kernel
theorem dX10_layTour_15 : decode cX10_layTour 15 = .ok (.iload_n 3, 1) := by decide +kernel
theorem dX10_layTour_16 : decode cX10_layTour 16 = .ok (.sipush 16384, 3) := by decide +kernel
theorem dX10_layTour_19 : decode cX10_layTour 19 = .ok (.if_icmp .ge 17, 3) := by decide +kernel
theorem dX10_layTour_22 : decode cX10_layTour 22 = .ok (.aload_n 0, 1) := by decide +kernel
theorem dX10_layTour_23 : decode cX10_layTour 23 = .ok (.getfield 42, 3) := by decide +kernel
theorem dX10_layTour_26 : decode cX10_layTour 26 = .ok (.iload_n 3, 1) := by decide +kernel
theorem dX10_layTour_27 : decode cX10_layTour 27 = .ok (.bipush (-9), 2) := by decide +kernel
theorem dX10_layTour_29 : decode cX10_layTour 29 = .ok (.iastore, 1) := by decide +kernel
theorem dX10_layTour_30 : decode cX10_layTour 30 = .ok (.iinc 3 1, 3) := by decide +kernel
theorem dX10_layTour_33 : decode cX10_layTour 33 = .ok (.goto (-18), 3) := by decide +kernel
theorem dX10_layTour_36 : decode cX10_layTour 36 = .ok (.iconst 0, 1) := by decide +kernel
theorem dX10_layTour_37 : decode cX10_layTour 37 = .ok (.istore_n 3, 1) := by decide +kernel
theorem dX10_layTour_38 : decode cX10_layTour 38 = .ok (.aload_n 0, 1) := by decide +kernel
theorem dX10_layTour_39 : decode cX10_layTour 39 = .ok (.getfield 42, 3) := by decide +kernel
theorem dX10_layTour_42 : decode cX10_layTour 42 = .ok (.sipush 256, 3) := by decide +kernel
theorem dX10_layTour_45 : decode cX10_layTour 45 = .ok (.iload_n 1, 1) := by decide +kernel
theorem dX10_layTour_46 : decode cX10_layTour 46 = .ok (.imul, 1) := by decide +kernel
theorem dX10_layTour_47 : decode cX10_layTour 47 = .ok (.iload_n 2, 1) := by decide +kernel
theorem dX10_layTour_48 : decode cX10_layTour 48 = .ok (.iadd, 1) := by decide +kernel
theorem dX10_layTour_49 : decode cX10_layTour 49 = .ok (.iconst 0, 1) := by decide +kernel
theorem dX10_layTour_50 : decode cX10_layTour 50 = .ok (.iastore, 1) := by decide +kernel
theorem dX10_layTour_51 : decode cX10_layTour 51 = .ok (.aload_n 0, 1) := by decide +kernel
theorem dX10_layTour_52 : decode cX10_layTour 52 = .ok (.getfield 21, 3) := by decide +kernel
theorem dX10_layTour_55 : decode cX10_layTour 55 = .ok (.iconst 0, 1) := by decide +kernel
theorem dX10_layTour_56 : decode cX10_layTour 56 = .ok (.sipush 256, 3) := by decide +kernel
theorem dX10_layTour_59 : decode cX10_layTour 59 = .ok (.iload_n 1, 1) := by decide +kernel
theorem dX10_layTour_60 : decode cX10_layTour 60 = .ok (.imul, 1) := by decide +kernel
theorem dX10_layTour_61 : decode cX10_layTour 61 = .ok (.iload_n 2, 1) := by decide +kernel
theorem dX10_layTour_62 : decode cX10_layTour 62 = .ok (.iadd, 1) := by decide +kernel
theorem dX10_layTour_63 : decode cX10_layTour 63 = .ok (.iastore, 1) := by decide +kernel
theorem dX10_layTour_64 : decode cX10_layTour 64 = .ok (.iconst 1, 1) := by decide +kernel
theorem dX10_layTour_65 : decode cX10_layTour 65 = .ok (.istore_n 3, 1) := by decide +kernel
theorem dX10_layTour_66 : decode cX10_layTour 66 = .ok (.iconst 0, 1) := by decide +kernel
theorem dX10_layTour_67 : decode cX10_layTour 67 = .ok (.istore 4, 2) := by decide +kernel
theorem dX10_layTour_69 : decode cX10_layTour 69 = .ok (.iload 4, 2) := by decide +kernel
theorem dX10_layTour_71 : decode cX10_layTour 71 = .ok (.iload_n 3, 1) := by decide +kernel
theorem dX10_layTour_72 : decode cX10_layTour 72 = .ok (.if_icmp .ge 162, 3) := by decide +kernel
theorem dX10_layTour_75 : decode cX10_layTour 75 = .ok (.aload_n 0, 1) := by decide +kernel
theorem dX10_layTour_76 : decode cX10_layTour 76 = .ok (.getfield 21, 3) := by decide +kernel
theorem dX10_layTour_79 : decode cX10_layTour 79 = .ok (.iload 4, 2) := by decide +kernel
theorem dX10_layTour_81 : decode cX10_layTour 81 = .ok (.iaload, 1) := by decide +kernel
theorem dX10_layTour_82 : decode cX10_layTour 82 = .ok (.sipush 256, 3) := by decide +kernel
theorem dX10_layTour_85 : decode cX10_layTour 85 = .ok (.idiv, 1) := by decide +kernel
theorem dX10_layTour_86 : decode cX10_layTour 86 = .ok (.istore 5, 2) := by decide +kernel
theorem dX10_layTour_88 : decode cX10_layTour 88 = .ok (.aload_n 0, 1) := by decide +kernel
theorem dX10_layTour_89 : decode cX10_layTour 89 = .ok (.getfield 21, 3) := by decide +kernel
theorem dX10_layTour_92 : decode cX10_layTour 92 = .ok (.iload 4, 2) := by decide +kernel
theorem dX10_layTour_94 : decode cX10_layTour 94 = .ok (.iaload, 1) := by decide +kernel
theorem dX10_layTour_95 : decode cX10_layTour 95 = .ok (.sipush 256, 3) := by decide +kernel
theorem dX10_layTour_98 : decode cX10_layTour 98 = .ok (.irem, 1) := by decide +kernel
theorem dX10_layTour_99 : decode cX10_layTour 99 = .ok (.istore 6, 2) := by decide +kernel
theorem dX10_layTour_101 : decode cX10_layTour 101 = .ok (.iconst 0, 1) := by decide +kernel
theorem dX10_layTour_102 : decode cX10_layTour 102 = .ok (.istore 7, 2) := by decide +kernel
theorem dX10_layTour_104 : decode cX10_layTour 104 = .ok (.iload 7, 2) := by decide +kernel
theorem dX10_layTour_106 : decode cX10_layTour 106 = .ok (.iconst 4, 1) := by decide +kernel
theorem dX10_layTour_107 : decode cX10_layTour 107 = .ok (.if_icmp .ge 121, 3) := by decide +kernel
theorem dX10_layTour_110 : decode cX10_layTour 110 = .ok (.aload_n 0, 1) := by decide +kernel
theorem dX10_layTour_111 : decode cX10_layTour 111 = .ok (.iload 5, 2) := by decide +kernel
theorem dX10_layTour_113 : decode cX10_layTour 113 = .ok (.iload 7, 2) := by decide +kernel
theorem dX10_layTour_115 : decode cX10_layTour 115 = .ok (.invokevirtual 94, 3) := by decide +kernel
theorem dX10_layTour_118 : decode cX10_layTour 118 = .ok (.istore 8, 2) := by decide +kernel
theorem dX10_layTour_120 : decode cX10_layTour 120 = .ok (.iconst 0, 1) := by decide +kernel
theorem dX10_layTour_121 : decode cX10_layTour 121 = .ok (.istore 9, 2) := by decide +kernel
theorem dX10_layTour_123 : decode cX10_layTour 123 = .ok (.iload 9, 2) := by decide +kernel
theorem dX10_layTour_125 : decode cX10_layTour 125 = .ok (.iload_n 2, 1) := by decide +kernel
theorem dX10_layTour_126 : decode cX10_layTour 126 = .ok (.if_icmp .gt 96, 3) := by decide +kernel
theorem dX10_layTour_129 : decode cX10_layTour 129 = .ok (.iload 8, 2) := by decide +kernel
theorem dX10_layTour_131 : decode cX10_layTour 131 = .ok (.bipush (-9), 2) := by decide +kernel
theorem dX10_layTour_133 : decode cX10_layTour 133 = .ok (.if_icmp .eq 89, 3) := by decide +kernel
theorem dX10_layTour_136 : decode cX10_layTour 136 = .ok (.iload 9, 2) := by decide +kernel
theorem dX10_layTour_138 : decode cX10_layTour 138 = .ok (.aload_n 0, 1) := by decide +kernel
theorem dX10_layTour_139 : decode cX10_layTour 139 = .ok (.getfield 33, 3) := by decide +kernel
theorem dX10_layTour_142 : decode cX10_layTour 142 = .ok (.iload 5, 2) := by decide +kernel
theorem dX10_layTour_144 : decode cX10_layTour 144 = .ok (.iaload, 1) := by decide +kernel
theorem dX10_layTour_145 : decode cX10_layTour 145 = .ok (.ior, 1) := by decide +kernel
theorem dX10_layTour_146 : decode cX10_layTour 146 = .ok (.iload 6, 2) := by decide +kernel
theorem dX10_layTour_148 : decode cX10_layTour 148 = .ok (.if_icmp .ne 68, 3) := by decide +kernel
theorem dX10_layTour_151 : decode cX10_layTour 151 = .ok (.aload_n 0, 1) := by decide +kernel
theorem dX10_layTour_152 : decode cX10_layTour 152 = .ok (.getfield 42, 3) := by decide +kernel
theorem dX10_layTour_155 : decode cX10_layTour 155 = .ok (.sipush 256, 3) := by decide +kernel
theorem dX10_layTour_158 : decode cX10_layTour 158 = .ok (.iload 8, 2) := by decide +kernel
theorem dX10_layTour_160 : decode cX10_layTour 160 = .ok (.imul, 1) := by decide +kernel
theorem dX10_layTour_161 : decode cX10_layTour 161 = .ok (.iload 9, 2) := by decide +kernel
theorem dX10_layTour_163 : decode cX10_layTour 163 = .ok (.iadd, 1) := by decide +kernel
theorem dX10_layTour_164 : decode cX10_layTour 164 = .ok (.iaload, 1) := by decide +kernel
theorem dX10_layTour_165 : decode cX10_layTour 165 = .ok (.bipush (-9), 2) := by decide +kernel
theorem dX10_layTour_167 : decode cX10_layTour 167 = .ok (.if_icmp .ne 49, 3) := by decide +kernel
theorem dX10_layTour_170 : decode cX10_layTour 170 = .ok (.aload_n 0, 1) := by decide +kernel
theorem dX10_layTour_171 : decode cX10_layTour 171 = .ok (.getfield 42, 3) := by decide +kernel
theorem dX10_layTour_174 : decode cX10_layTour 174 = .ok (.sipush 256, 3) := by decide +kernel
theorem dX10_layTour_177 : decode cX10_layTour 177 = .ok (.iload 8, 2) := by decide +kernel
theorem dX10_layTour_179 : decode cX10_layTour 179 = .ok (.imul, 1) := by decide +kernel
theorem dX10_layTour_180 : decode cX10_layTour 180 = .ok (.iload 9, 2) := by decide +kernel
theorem dX10_layTour_182 : decode cX10_layTour 182 = .ok (.iadd, 1) := by decide +kernel
theorem dX10_layTour_183 : decode cX10_layTour 183 = .ok (.aload_n 0, 1) := by decide +kernel
theorem dX10_layTour_184 : decode cX10_layTour 184 = .ok (.getfield 42, 3) := by decide +kernel
theorem dX10_layTour_187 : decode cX10_layTour 187 = .ok (.aload_n 0, 1) := by decide +kernel
theorem dX10_layTour_188 : decode cX10_layTour 188 = .ok (.getfield 21, 3) := by decide +kernel
theorem dX10_layTour_191 : decode cX10_layTour 191 = .ok (.iload 4, 2) := by decide +kernel
theorem dX10_layTour_193 : decode cX10_layTour 193 = .ok (.iaload, 1) := by decide +kernel
theorem dX10_layTour_194 : decode cX10_layTour 194 = .ok (.iaload, 1) := by decide +kernel
theorem dX10_layTour_195 : decode cX10_layTour 195 = .ok (.iconst 1, 1) := by decide +kernel
theorem dX10_layTour_196 : decode cX10_layTour 196 = .ok (.iadd, 1) := by decide +kernel
theorem dX10_layTour_197 : decode cX10_layTour 197 = .ok (.iastore, 1) := by decide +kernel
theorem dX10_layTour_198 : decode cX10_layTour 198 = .ok (.aload_n 0, 1) := by decide +kernel
theorem dX10_layTour_199 : decode cX10_layTour 199 = .ok (.getfield 21, 3) := by decide +kernel
theorem dX10_layTour_202 : decode cX10_layTour 202 = .ok (.iload_n 3, 1) := by decide +kernel
theorem dX10_layTour_203 : decode cX10_layTour 203 = .ok (.sipush 256, 3) := by decide +kernel
theorem dX10_layTour_206 : decode cX10_layTour 206 = .ok (.iload 8, 2) := by decide +kernel
theorem dX10_layTour_208 : decode cX10_layTour 208 = .ok (.imul, 1) := by decide +kernel
theorem dX10_layTour_209 : decode cX10_layTour 209 = .ok (.iload 9, 2) := by decide +kernel
theorem dX10_layTour_211 : decode cX10_layTour 211 = .ok (.iadd, 1) := by decide +kernel
theorem dX10_layTour_212 : decode cX10_layTour 212 = .ok (.iastore, 1) := by decide +kernel
theorem dX10_layTour_213 : decode cX10_layTour 213 = .ok (.iinc 3 1, 3) := by decide +kernel
theorem dX10_layTour_216 : decode cX10_layTour 216 = .ok (.iinc 9 1, 3) := by decide +kernel
theorem dX10_layTour_219 : decode cX10_layTour 219 = .ok (.goto (-96), 3) := by decide +kernel
theorem dX10_layTour_222 : decode cX10_layTour 222 = .ok (.iinc 7 1, 3) := by decide +kernel
theorem dX10_layTour_225 : decode cX10_layTour 225 = .ok (.goto (-121), 3) := by decide +kernel
theorem dX10_layTour_228 : decode cX10_layTour 228 = .ok (.iinc 4 1, 3) := by decide +kernel
theorem dX10_layTour_231 : decode cX10_layTour 231 = .ok (.goto (-162), 3) := by decide +kernel
theorem dX10_layTour_234 : decode cX10_layTour 234 = .ok (.return_, 1) := by decide +kernel
theorem dX10_mayTour_0 : decode cX10_mayTour 0 = .ok (.aload_n 0, 1) := by decide +kernel
theorem dX10_mayTour_1 : decode cX10_mayTour 1 = .ok (.iload_n 1, 1) := by decide +kernel
theorem dX10_mayTour_2 : decode cX10_mayTour 2 = .ok (.invokevirtual 85, 3) := by decide +kernel
theorem dX10_mayTour_5 : decode cX10_mayTour 5 = .ok (.ifCond .ne 7, 3) := by decide +kernel
theorem dX10_mayTour_8 : decode cX10_mayTour 8 = .ok (.iconst (-1), 1) := by decide +kernel
theorem dX10_mayTour_9 : decode cX10_mayTour 9 = .ok (.goto 17, 3) := by decide +kernel
theorem dX10_mayTour_12 : decode cX10_mayTour 12 = .ok (.aload_n 0, 1) := by decide +kernel
theorem dX10_mayTour_13 : decode cX10_mayTour 13 = .ok (.iload_n 1, 1) := by decide +kernel
theorem dX10_mayTour_14 : decode cX10_mayTour 14 = .ok (.invokevirtual 91, 3) := by decide +kernel
theorem dX10_mayTour_17 : decode cX10_mayTour 17 = .ok (.ifCond .eq 7, 3) := by decide +kernel
theorem dX10_mayTour_20 : decode cX10_mayTour 20 = .ok (.iconst 0, 1) := by decide +kernel
theorem dX10_mayTour_21 : decode cX10_mayTour 21 = .ok (.goto 5, 3) := by decide +kernel
theorem dX10_mayTour_24 : decode cX10_mayTour 24 = .ok (.bipush (-3), 2) := by decide +kernel
theorem dX10_mayTour_26 : decode cX10_mayTour 26 = .ok (.ireturn, 1) := by decide +kernel
