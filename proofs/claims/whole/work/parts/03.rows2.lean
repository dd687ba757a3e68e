theorem dX8_visit_54 : decode cX8_visit 54 = .ok (.iload_n 1, 1) := by decide +kernel
theorem dX8_visit_55 : decode cX8_visit 55 = .ok (.bipush 6, 2) := by decide +kernel
theorem dX8_visit_57 : decode cX8_visit 57 = .ok (.ishl, 1) := by decide +kernel
theorem dX8_visit_58 : decode cX8_visit 58 = .ok (.ior, 1) := by decide +kernel
theorem dX8_visit_59 : decode cX8_visit 59 = .ok (.iload_n 2, 1) := by decide +kernel
theorem dX8_visit_60 : decode cX8_visit 60 = .ok (.ior, 1) := by decide +kernel
theorem dX8_visit_61 : decode cX8_visit 61 = .ok (.iastore, 1) := by decide +kernel
theorem dX8_visit_62 : decode cX8_visit 62 = .ok (.aload_n 0, 1) := by decide +kernel
theorem dX8_visit_63 : decode cX8_visit 63 = .ok (.dup, 1) := by decide +kernel
theorem dX8_visit_64 : decode cX8_visit 64 = .ok (.getfield 25, 3) := by decide +kernel
theorem dX8_visit_67 : decode cX8_visit 67 = .ok (.iconst 1, 1) := by decide +kernel
theorem dX8_visit_68 : decode cX8_visit 68 = .ok (.iadd, 1) := by decide +kernel
theorem dX8_visit_69 : decode cX8_visit 69 = .ok (.putfield 25, 3) := by decide +kernel
theorem dX8_visit_72 : decode cX8_visit 72 = .ok (.return_, 1) := by decide +kernel
theorem dX8_cellAt_0 : decode cX8_cellAt 0 = .ok (.aload_n 0, 1) := by decide +kernel
theorem dX8_cellAt_1 : decode cX8_cellAt 1 = .ok (.getfield 9, 3) := by decide +kernel
theorem dX8_cellAt_4 : decode cX8_cellAt 4 = .ok (.iload_n 1, 1) := by decide +kernel
theorem dX8_cellAt_5 : decode cX8_cellAt 5 = .ok (.iaload, 1) := by decide +kernel
theorem dX8_cellAt_6 : decode cX8_cellAt 6 = .ok (.bipush 63, 2) := by decide +kernel
theorem dX8_cellAt_8 : decode cX8_cellAt 8 = .ok (.iand, 1) := by decide +kernel
theorem dX8_cellAt_9 : decode cX8_cellAt 9 = .ok (.ireturn, 1) := by decide +kernel
theorem dX8_layerAt_0 : decode cX8_layerAt 0 = .ok (.aload_n 0, 1) := by decide +kernel
theorem dX8_layerAt_1 : decode cX8_layerAt 1 = .ok (.getfield 9, 3) := by decide +kernel
theorem dX8_layerAt_4 : decode cX8_layerAt 4 = .ok (.iload_n 1, 1) := by decide +kernel
theorem dX8_layerAt_5 : decode cX8_layerAt 5 = .ok (.iaload, 1) := by decide +kernel
theorem dX8_layerAt_6 : decode cX8_layerAt 6 = .ok (.bipush 6, 2) := by decide +kernel
theorem dX8_layerAt_8 : decode cX8_layerAt 8 = .ok (.ishr, 1) := by decide +kernel
theorem dX8_layerAt_9 : decode cX8_layerAt 9 = .ok (.sipush 255, 3) := by decide +kernel
theorem dX8_layerAt_12 : decode cX8_layerAt 12 = .ok (.iand, 1) := by decide +kernel
theorem dX8_layerAt_13 : decode cX8_layerAt 13 = .ok (.ireturn, 1) := by decide +kernel
theorem dX8_moveAt_0 : decode cX8_moveAt 0 = .ok (.aload_n 0, 1) := by decide +kernel
theorem dX8_moveAt_1 : decode cX8_moveAt 1 = .ok (.getfield 9, 3) := by decide +kernel
theorem dX8_moveAt_4 : decode cX8_moveAt 4 = .ok (.iload_n 1, 1) := by decide +kernel
theorem dX8_moveAt_5 : decode cX8_moveAt 5 = .ok (.iaload, 1) := by decide +kernel
theorem dX8_moveAt_6 : decode cX8_moveAt 6 = .ok (.bipush 14, 2) := by decide +kernel
theorem dX8_moveAt_8 : decode cX8_moveAt 8 = .ok (.ishr, 1) := by decide +kernel
theorem dX8_moveAt_9 : decode cX8_moveAt 9 = .ok (.bipush 7, 2) := by decide +kernel
theorem dX8_moveAt_11 : decode cX8_moveAt 11 = .ok (.iand, 1) := by decide +kernel
theorem dX8_moveAt_12 : decode cX8_moveAt 12 = .ok (.ireturn, 1) := by decide +kernel
theorem dX8_parentOf_0 : decode cX8_parentOf 0 = .ok (.aload_n 0, 1) := by decide +kernel
theorem dX8_parentOf_1 : decode cX8_parentOf 1 = .ok (.getfield 9, 3) := by decide +kernel
theorem dX8_parentOf_4 : decode cX8_parentOf 4 = .ok (.iload_n 1, 1) := by decide +kernel
theorem dX8_parentOf_5 : decode cX8_parentOf 5 = .ok (.iaload, 1) := by decide +kernel
theorem dX8_parentOf_6 : decode cX8_parentOf 6 = .ok (.bipush 17, 2) := by decide +kernel
theorem dX8_parentOf_8 : decode cX8_parentOf 8 = .ok (.ishr, 1) := by decide +kernel
theorem dX8_parentOf_9 : decode cX8_parentOf 9 = .ok (.ireturn, 1) := by decide +kernel
theorem dX8_movesTo_0 : decode cX8_movesTo 0 = .ok (.iload_n 1, 1) := by decide +kernel
theorem dX8_movesTo_1 : decode cX8_movesTo 1 = .ok (.iconst (-1), 1) := by decide +kernel
theorem dX8_movesTo_2 : decode cX8_movesTo 2 = .ok (.if_icmp .ne 6, 3) := by decide +kernel
theorem dX8_movesTo_5 : decode cX8_movesTo 5 = .ok (.bipush (-9), 2) := by decide +kernel
theorem dX8_movesTo_7 : decode cX8_movesTo 7 = .ok (.ireturn, 1) := by decide +kernel
theorem dX8_movesTo_8 : decode cX8_movesTo 8 = .ok (.iconst 0, 1) := by decide +kernel
theorem dX8_movesTo_9 : decode cX8_movesTo 9 = .ok (.istore_n 2, 1) := by decide +kernel
theorem dX8_movesTo_10 : decode cX8_movesTo 10 = .ok (.iload_n 1, 1) := by decide +kernel
theorem dX8_movesTo_11 : decode cX8_movesTo 11 = .ok (.istore_n 3, 1) := by decide +kernel
theorem dX8_movesTo_12 : decode cX8_movesTo 12 = .ok (.iload_n 3, 1) := by decide +kernel
theorem dX8_movesTo_13 : decode cX8_movesTo 13 = .ok (.ifCond .le 22, 3) := by decide +kernel
theorem dX8_movesTo_16 : decode cX8_movesTo 16 = .ok (.iload_n 2, 1) := by decide +kernel
theorem dX8_movesTo_17 : decode cX8_movesTo 17 = .ok (.sipush 16384, 3) := by decide +kernel
theorem dX8_movesTo_20 : decode cX8_movesTo 20 = .ok (.if_icmp .ge 15, 3) := by decide +kernel
theorem dX8_movesTo_23 : decode cX8_movesTo 23 = .ok (.iinc 2 1, 3) := by decide +kernel
theorem dX8_movesTo_26 : decode cX8_movesTo 26 = .ok (.aload_n 0, 1) := by decide +kernel
theorem dX8_movesTo_27 : decode cX8_movesTo 27 = .ok (.iload_n 3, 1) := by decide +kernel
theorem dX8_movesTo_28 : decode cX8_movesTo 28 = .ok (.invokevirtual 33, 3) := by decide +kernel
theorem dX8_movesTo_31 : decode cX8_movesTo 31 = .ok (.istore_n 3, 1) := by decide +kernel
theorem dX8_movesTo_32 : decode cX8_movesTo 32 = .ok (.goto (-20), 3) := by decide +kernel
theorem dX8_movesTo_35 : decode cX8_movesTo 35 = .ok (.iload_n 2, 1) := by decide +kernel
theorem dX8_movesTo_36 : decode cX8_movesTo 36 = .ok (.ireturn, 1) := by decide +kernel
theorem dX8_moveTo_0 : decode cX8_moveTo 0 = .ok (.aload_n 0, 1) := by decide +kernel
theorem dX8_moveTo_1 : decode cX8_moveTo 1 = .ok (.iload_n 1, 1) := by decide +kernel
theorem dX8_moveTo_2 : decode cX8_moveTo 2 = .ok (.invokevirtual 37, 3) := by decide +kernel
theorem dX8_moveTo_5 : decode cX8_moveTo 5 = .ok (.istore_n 3, 1) := by decide +kernel
theorem dX8_moveTo_6 : decode cX8_moveTo 6 = .ok (.iload_n 2, 1) := by decide +kernel
theorem dX8_moveTo_7 : decode cX8_moveTo 7 = .ok (.ifCond .lt 8, 3) := by decide +kernel
theorem dX8_moveTo_10 : decode cX8_moveTo 10 = .ok (.iload_n 2, 1) := by decide +kernel
theorem dX8_moveTo_11 : decode cX8_moveTo 11 = .ok (.iload_n 3, 1) := by decide +kernel
theorem dX8_moveTo_12 : decode cX8_moveTo 12 = .ok (.if_icmp .lt 6, 3) := by decide +kernel
theorem dX8_moveTo_15 : decode cX8_moveTo 15 = .ok (.bipush (-9), 2) := by decide +kernel
theorem dX8_moveTo_17 : decode cX8_moveTo 17 = .ok (.ireturn, 1) := by decide +kernel
theorem dX8_moveTo_18 : decode cX8_moveTo 18 = .ok (.iload_n 1, 1) := by decide +kernel
theorem dX8_moveTo_19 : decode cX8_moveTo 19 = .ok (.istore 4, 2) := by decide +kernel
theorem dX8_moveTo_21 : decode cX8_moveTo 21 = .ok (.iload_n 3, 1) := by decide +kernel
theorem dX8_moveTo_22 : decode cX8_moveTo 22 = .ok (.iconst 1, 1) := by decide +kernel
theorem dX8_moveTo_23 : decode cX8_moveTo 23 = .ok (.isub, 1) := by decide +kernel
theorem dX8_moveTo_24 : decode cX8_moveTo 24 = .ok (.istore 5, 2) := by decide +kernel
theorem dX8_moveTo_26 : decode cX8_moveTo 26 = .ok (.iload 5, 2) := by decide +kernel
theorem dX8_moveTo_28 : decode cX8_moveTo 28 = .ok (.iload_n 2, 1) := by decide +kernel
theorem dX8_moveTo_29 : decode cX8_moveTo 29 = .ok (.if_icmp .le 17, 3) := by decide +kernel
theorem dX8_moveTo_32 : decode cX8_moveTo 32 = .ok (.aload_n 0, 1) := by decide +kernel
theorem dX8_moveTo_33 : decode cX8_moveTo 33 = .ok (.iload 4, 2) := by decide +kernel
theorem dX8_moveTo_35 : decode cX8_moveTo 35 = .ok (.invokevirtual 33, 3) := by decide +kernel
theorem dX8_moveTo_38 : decode cX8_moveTo 38 = .ok (.istore 4, 2) := by decide +kernel
theorem dX8_moveTo_40 : decode cX8_moveTo 40 = .ok (.iinc 5 (-1), 3) := by decide +kernel
theorem dX8_moveTo_43 : decode cX8_moveTo 43 = .ok (.goto (-17), 3) := by decide +kernel
theorem dX8_moveTo_46 : decode cX8_moveTo 46 = .ok (.aload_n 0, 1) := by decide +kernel
theorem dX8_moveTo_47 : decode cX8_moveTo 47 = .ok (.iload 4, 2) := by decide +kernel
theorem dX8_moveTo_49 : decode cX8_moveTo 49 = .ok (.invokevirtual 40, 3) := by decide +kernel
theorem dX8_moveTo_52 : decode cX8_moveTo 52 = .ok (.ireturn, 1) := by decide +kernel
theorem dX9_init_0 : decode cX9_init 0 = .ok (.aload_n 0, 1) := by decide +kernel
theorem dX9_init_1 : decode cX9_init 1 = .ok (.invokespecial 3, 3) := by decide +kernel
theorem dX9_init_4 : decode cX9_init 4 = .ok (.aload_n 0, 1) := by decide +kernel
theorem dX9_init_5 : decode cX9_init 5 = .ok (.new 9, 3) := by decide +kernel
theorem dX9_init_8 : decode cX9_init 8 = .ok (.dup, 1) := by decide +kernel
theorem dX9_init_9 : decode cX9_init 9 = .ok (.invokespecial 11, 3) := by decide +kernel
theorem dX9_init_12 : decode cX9_init 12 = .ok (.putfield 12, 3) := by decide +kernel
theorem dX9_init_15 : decode cX9_init 15 = .ok (.aload_n 0, 1) := by decide +kernel
theorem dX9_init_16 : decode cX9_init 16 = .ok (.new 16, 3) := by decide +kernel
theorem dX9_init_19 : decode cX9_init 19 = .ok (.dup, 1) := by decide +kernel
theorem dX9_init_20 : decode cX9_init 20 = .ok (.aload_n 0, 1) := by decide +kernel
theorem dX9_init_21 : decode cX9_init 21 = .ok (.getfield 12, 3) := by decide +kernel
theorem dX9_init_24 : decode cX9_init 24 = .ok (.invokespecial 18, 3) := by decide +kernel
theorem dX9_init_27 : decode cX9_init 27 = .ok (.putfield 21, 3) := by decide +kernel
theorem dX9_init_30 : decode cX9_init 30 = .ok (.aload_n 0, 1) := by decide +kernel
theorem dX9_init_31 : decode cX9_init 31 = .ok (.new 25, 3) := by decide +kernel
theorem dX9_init_34 : decode cX9_init 34 = .ok (.dup, 1) := by decide +kernel
theorem dX9_init_35 : decode cX9_init 35 = .ok (.aload_n 0, 1) := by decide +kernel
theorem dX9_init_36 : decode cX9_init 36 = .ok (.getfield 12, 3) := by decide +kernel
theorem dX9_init_39 : decode cX9_init 39 = .ok (.aload_n 0, 1) := by decide +kernel
theorem dX9_init_40 : decode cX9_init 40 = .ok (.getfield 21, 3) := by decide +kernel
theorem dX9_init_43 : decode cX9_init 43 = .ok (.invokespecial 27, 3) := by decide +kernel
theorem dX9_init_46 : decode cX9_init 46 = .ok (.putfield 30, 3) := by decide +kernel
theorem dX9_init_49 : decode cX9_init 49 = .ok (.aload_n 0, 1) := by decide +kernel
theorem dX9_init_50 : decode cX9_init 50 = .ok (.new 34, 3) := by decide +kernel
theorem dX9_init_53 : decode cX9_init 53 = .ok (.dup, 1) := by decide +kernel
theorem dX9_init_54 : decode cX9_init 54 = .ok (.invokespecial 36, 3) := by decide +kernel
theorem dX9_init_57 : decode cX9_init 57 = .ok (.putfield 37, 3) := by decide +kernel
theorem dX9_init_60 : decode cX9_init 60 = .ok (.aload_n 0, 1) := by decide +kernel
theorem dX9_init_61 : decode cX9_init 61 = .ok (.new 41, 3) := by decide +kernel
theorem dX9_init_64 : decode cX9_init 64 = .ok (.dup, 1) := by decide +kernel
theorem dX9_init_65 : decode cX9_init 65 = .ok (.aload_n 0, 1) := by decide +kernel
theorem dX9_init_66 : decode cX9_init 66 = .ok (.getfield 12, 3) := by decide +kernel
theorem dX9_init_69 : decode cX9_init 69 = .ok (.aload_n 0, 1) := by decide +kernel
theorem dX9_init_70 : decode cX9_init 70 = .ok (.getfield 30, 3) := by decide +kernel
theorem dX9_init_73 : decode cX9_init 73 = .ok (.invokespecial 43, 3) := by decide +kernel
theorem dX9_init_76 : decode cX9_init 76 = .ok (.putfield 46, 3) := by decide +kernel
theorem dX9_init_79 : decode cX9_init 79 = .ok (.aload_n 0, 1) := by decide +kernel
theorem dX9_init_80 : decode cX9_init 80 = .ok (.new 50, 3) := by decide +kernel
theorem dX9_init_83 : decode cX9_init 83 = .ok (.dup, 1) := by decide +kernel
theorem dX9_init_84 : decode cX9_init 84 = .ok (.aload_n 0, 1) := by decide +kernel
theorem dX9_init_85 : decode cX9_init 85 = .ok (.getfield 30, 3) := by decide +kernel
theorem dX9_init_88 : decode cX9_init 88 = .ok (.aload_n 0, 1) := by decide +kernel
theorem dX9_init_89 : decode cX9_init 89 = .ok (.getfield 37, 3) := by decide +kernel
theorem dX9_init_92 : decode cX9_init 92 = .ok (.invokespecial 52, 3) := by decide +kernel
theorem dX9_init_95 : decode cX9_init 95 = .ok (.putfield 55, 3) := by decide +kernel
theorem dX9_init_98 : decode cX9_init 98 = .ok (.new 59, 3) := by decide +kernel
theorem dX9_init_101 : decode cX9_init 101 = .ok (.dup, 1) := by decide +kernel
theorem dX9_init_102 : decode cX9_init 102 = .ok (.invokespecial 61, 3) := by decide +kernel
theorem dX9_init_105 : decode cX9_init 105 = .ok (.astore_n 1, 1) := by decide +kernel
theorem dX9_init_106 : decode cX9_init 106 = .ok (.aload_n 0, 1) := by decide +kernel
theorem dX9_init_107 : decode cX9_init 107 = .ok (.new 62, 3) := by decide +kernel
theorem dX9_init_110 : decode cX9_init 110 = .ok (.dup, 1) := by decide +kernel
theorem dX9_init_111 : decode cX9_init 111 = .ok (.aload_n 0, 1) := by decide +kernel
theorem dX9_init_112 : decode cX9_init 112 = .ok (.getfield 12, 3) := by decide +kernel
theorem dX9_init_115 : decode cX9_init 115 = .ok (.aload_n 0, 1) := by decide +kernel
theorem dX9_init_116 : decode cX9_init 116 = .ok (.getfield 30, 3) := by decide +kernel
theorem dX9_init_119 : decode cX9_init 119 = .ok (.aload_n 1, 1) := by decide +kernel
theorem dX9_init_120 : decode cX9_init 120 = .ok (.invokespecial 64, 3) := by decide +kernel
theorem dX9_init_123 : decode cX9_init 123 = .ok (.putfield 67, 3) := by decide +kernel
theorem dX9_init_126 : decode cX9_init 126 = .ok (.aload_n 0, 1) := by decide +kernel
theorem dX9_init_127 : decode cX9_init 127 = .ok (.new 71, 3) := by decide +kernel
theorem dX9_init_130 : decode cX9_init 130 = .ok (.dup, 1) := by decide +kernel
theorem dX9_init_131 : decode cX9_init 131 = .ok (.aload_n 0, 1) := by decide +kernel
theorem dX9_init_132 : decode cX9_init 132 = .ok (.getfield 12, 3) := by decide +kernel
theorem dX9_init_135 : decode cX9_init 135 = .ok (.aload_n 0, 1) := by decide +kernel
theorem dX9_init_136 : decode cX9_init 136 = .ok (.getfield 21, 3) := by decide +kernel
theorem dX9_init_139 : decode cX9_init 139 = .ok (.aload_n 0, 1) := by decide +kernel
theorem dX9_init_140 : decode cX9_init 140 = .ok (.getfield 37, 3) := by decide +kernel
theorem dX9_init_143 : decode cX9_init 143 = .ok (.aload_n 1, 1) := by decide +kernel
theorem dX9_init_144 : decode cX9_init 144 = .ok (.invokespecial 73, 3) := by decide +kernel
theorem dX9_init_147 : decode cX9_init 147 = .ok (.putfield 76, 3) := by decide +kernel
theorem dX9_init_150 : decode cX9_init 150 = .ok (.aload_n 0, 1) := by decide +kernel
theorem dX9_init_151 : decode cX9_init 151 = .ok (.bipush 64, 2) := by decide +kernel
theorem dX9_init_153 : decode cX9_init 153 = .ok (.newarray .int, 2) := by decide +kernel
theorem dX9_init_155 : decode cX9_init 155 = .ok (.putfield 80, 3) := by decide +kernel
theorem dX9_init_158 : decode cX9_init 158 = .ok (.return_, 1) := by decide +kernel
theorem dX9_hall_0 : decode cX9_hall 0 = .ok (.iload_n 1, 1) := by decide +kernel
theorem dX9_hall_1 : decode cX9_hall 1 = .ok (.invokestatic 84, 3) := by decide +kernel
theorem dX9_hall_4 : decode cX9_hall 4 = .ok (.ifCond .eq 10, 3) := by decide +kernel
theorem dX9_hall_7 : decode cX9_hall 7 = .ok (.iload_n 2, 1) := by decide +kernel
theorem dX9_hall_8 : decode cX9_hall 8 = .ok (.invokestatic 84, 3) := by decide +kernel
theorem dX9_hall_11 : decode cX9_hall 11 = .ok (.ifCond .ne 6, 3) := by decide +kernel
theorem dX9_hall_14 : decode cX9_hall 14 = .ok (.bipush (-2), 2) := by decide +kernel
theorem dX9_hall_16 : decode cX9_hall 16 = .ok (.ireturn, 1) := by decide +kernel
theorem dX9_hall_17 : decode cX9_hall 17 = .ok (.aload_n 0, 1) := by decide +kernel
theorem dX9_hall_18 : decode cX9_hall 18 = .ok (.getfield 12, 3) := by decide +kernel
theorem dX9_hall_21 : decode cX9_hall 21 = .ok (.iload_n 1, 1) := by decide +kernel
theorem dX9_hall_22 : decode cX9_hall 22 = .ok (.iload_n 2, 1) := by decide +kernel
theorem dX9_hall_23 : decode cX9_hall 23 = .ok (.invokevirtual 88, 3) := by decide +kernel
theorem dX9_hall_26 : decode cX9_hall 26 = .ok (.aload_n 0, 1) := by decide +kernel
theorem dX9_hall_27 : decode cX9_hall 27 = .ok (.getfield 30, 3) := by decide +kernel
theorem dX9_hall_30 : decode cX9_hall 30 = .ok (.invokevirtual 92, 3) := by decide +kernel
theorem dX9_hall_33 : decode cX9_hall 33 = .ok (.aload_n 0, 1) := by decide +kernel
theorem dX9_hall_34 : decode cX9_hall 34 = .ok (.getfield 37, 3) := by decide +kernel
theorem dX9_hall_37 : decode cX9_hall 37 = .ok (.invokevirtual 95, 3) := by decide +kernel
theorem dX9_hall_40 : decode cX9_hall 40 = .ok (.aload_n 0, 1) := by decide +kernel
theorem dX9_hall_41 : decode cX9_hall 41 = .ok (.getfield 12, 3) := by decide +kernel
theorem dX9_hall_44 : decode cX9_hall 44 = .ok (.invokevirtual 96, 3) := by decide +kernel
theorem dX9_hall_47 : decode cX9_hall 47 = .ok (.ireturn, 1) := by decide +kernel
theorem dX9_cell_0 : decode cX9_cell 0 = .ok (.aload_n 0, 1) := by decide +kernel
theorem dX9_cell_1 : decode cX9_cell 1 = .ok (.getfield 12, 3) := by decide +kernel
theorem dX9_cell_4 : decode cX9_cell 4 = .ok (.iload_n 1, 1) := by decide +kernel
theorem dX9_cell_5 : decode cX9_cell 5 = .ok (.invokevirtual 100, 3) := by decide +kernel
theorem dX9_cell_8 : decode cX9_cell 8 = .ok (.ifCond .ne 5, 3) := by decide +kernel
theorem dX9_cell_11 : decode cX9_cell 11 = .ok (.iconst (-1), 1) := by decide +kernel
theorem dX9_cell_12 : decode cX9_cell 12 = .ok (.ireturn, 1) := by decide +kernel
theorem dX9_cell_13 : decode cX9_cell 13 = .ok (.iload_n 2, 1) := by decide +kernel
theorem dX9_cell_14 : decode cX9_cell 14 = .ok (.ifCond .lt 8, 3) := by decide +kernel
theorem dX9_cell_17 : decode cX9_cell 17 = .ok (.iload_n 2, 1) := by decide +kernel
theorem dX9_cell_18 : decode cX9_cell 18 = .ok (.iconst 3, 1) := by decide +kernel
theorem dX9_cell_19 : decode cX9_cell 19 = .ok (.if_icmp .le 6, 3) := by decide +kernel
theorem dX9_cell_22 : decode cX9_cell 22 = .ok (.bipush (-2), 2) := by decide +kernel
theorem dX9_cell_24 : decode cX9_cell 24 = .ok (.ireturn, 1) := by decide +kernel
theorem dX9_cell_25 : decode cX9_cell 25 = .ok (.aload_n 0, 1) := by decide +kernel
theorem dX9_cell_26 : decode cX9_cell 26 = .ok (.getfield 12, 3) := by decide +kernel
theorem dX9_cell_29 : decode cX9_cell 29 = .ok (.iload_n 1, 1) := by decide +kernel
theorem dX9_cell_30 : decode cX9_cell 30 = .ok (.invokevirtual 103, 3) := by decide +kernel
theorem dX9_cell_33 : decode cX9_cell 33 = .ok (.istore_n 3, 1) := by decide +kernel
theorem dX9_cell_34 : decode cX9_cell 34 = .ok (.aload_n 0, 1) := by decide +kernel
theorem dX9_cell_35 : decode cX9_cell 35 = .ok (.getfield 12, 3) := by decide +kernel
theorem dX9_cell_38 : decode cX9_cell 38 = .ok (.iload_n 1, 1) := by decide +kernel
theorem dX9_cell_39 : decode cX9_cell 39 = .ok (.iload_n 2, 1) := by decide +kernel
theorem dX9_cell_40 : decode cX9_cell 40 = .ok (.invokevirtual 107, 3) := by decide +kernel
theorem dX9_cell_43 : decode cX9_cell 43 = .ok (.iload_n 3, 1) := by decide +kernel
theorem dX9_cell_44 : decode cX9_cell 44 = .ok (.ireturn, 1) := by decide +kernel
theorem dX9_kind_0 : decode cX9_kind 0 = .ok (.aload_n 0, 1) := by decide +kernel
theorem dX9_kind_1 : decode cX9_kind 1 = .ok (.getfield 12, 3) := by decide +kernel
theorem dX9_kind_4 : decode cX9_kind 4 = .ok (.iload_n 1, 1) := by decide +kernel
theorem dX9_kind_5 : decode cX9_kind 5 = .ok (.invokevirtual 100, 3) := by decide +kernel
theorem dX9_kind_8 : decode cX9_kind 8 = .ok (.ifCond .eq 14, 3) := by decide +kernel
theorem dX9_kind_11 : decode cX9_kind 11 = .ok (.aload_n 0, 1) := by decide +kernel
theorem dX9_kind_12 : decode cX9_kind 12 = .ok (.getfield 12, 3) := by decide +kernel
theorem dX9_kind_15 : decode cX9_kind 15 = .ok (.iload_n 1, 1) := by decide +kernel
theorem dX9_kind_16 : decode cX9_kind 16 = .ok (.invokevirtual 103, 3) := by decide +kernel
theorem dX9_kind_19 : decode cX9_kind 19 = .ok (.goto 4, 3) := by decide +kernel
theorem dX9_kind_22 : decode cX9_kind 22 = .ok (.iconst (-1), 1) := by decide +kernel
theorem dX9_kind_23 : decode cX9_kind 23 = .ok (.ireturn, 1) := by decide +kernel
theorem dX9_law_0 : decode cX9_law 0 = .ok (.iload_n 1, 1) := by decide +kernel
theorem dX9_law_1 : decode cX9_law 1 = .ok (.ifCond .lt 8, 3) := by decide +kernel
theorem dX9_law_4 : decode cX9_law 4 = .ok (.iload_n 1, 1) := by decide +kernel
theorem dX9_law_5 : decode cX9_law 5 = .ok (.iconst 2, 1) := by decide +kernel
theorem dX9_law_6 : decode cX9_law 6 = .ok (.if_icmp .le 6, 3) := by decide +kernel
theorem dX9_law_9 : decode cX9_law 9 = .ok (.bipush (-2), 2) := by decide +kernel
theorem dX9_law_11 : decode cX9_law 11 = .ok (.ireturn, 1) := by decide +kernel
theorem dX9_law_12 : decode cX9_law 12 = .ok (.aload_n 0, 1) := by decide +kernel
theorem dX9_law_13 : decode cX9_law 13 = .ok (.getfield 21, 3) := by decide +kernel
theorem dX9_law_16 : decode cX9_law 16 = .ok (.iload_n 1, 1) := by decide +kernel
theorem dX9_law_17 : decode cX9_law 17 = .ok (.invokevirtual 110, 3) := by decide +kernel
theorem dX9_law_20 : decode cX9_law 20 = .ok (.ireturn, 1) := by decide +kernel
theorem dX9_range_0 : decode cX9_range 0 = .ok (.iload_n 1, 1) := by decide +kernel
theorem dX9_range_1 : decode cX9_range 1 = .ok (.iconst 1, 1) := by decide +kernel
theorem dX9_range_2 : decode cX9_range 2 = .ok (.if_icmp .lt 9, 3) := by decide +kernel
theorem dX9_range_5 : decode cX9_range 5 = .ok (.iload_n 1, 1) := by decide +kernel
theorem dX9_range_6 : decode cX9_range 6 = .ok (.bipush 8, 2) := by decide +kernel
theorem dX9_range_8 : decode cX9_range 8 = .ok (.if_icmp .le 6, 3) := by decide +kernel
theorem dX9_range_11 : decode cX9_range 11 = .ok (.bipush (-2), 2) := by decide +kernel
theorem dX9_range_13 : decode cX9_range 13 = .ok (.ireturn, 1) := by decide +kernel
theorem dX9_range_14 : decode cX9_range 14 = .ok (.aload_n 0, 1) := by decide +kernel
theorem dX9_range_15 : decode cX9_range 15 = .ok (.getfield 21, 3) := by decide +kernel
theorem dX9_range_18 : decode cX9_range 18 = .ok (.iload_n 1, 1) := by decide +kernel
theorem dX9_range_19 : decode cX9_range 19 = .ok (.invokevirtual 113, 3) := by decide +kernel
theorem dX9_range_22 : decode cX9_range 22 = .ok (.ireturn, 1) := by decide +kernel
theorem dX9_far_0 : decode cX9_far 0 = .ok (.aload_n 0, 1) := by decide +kernel
theorem dX9_far_1 : decode cX9_far 1 = .ok (.getfield 12, 3) := by decide +kernel
theorem dX9_far_4 : decode cX9_far 4 = .ok (.iload_n 1, 1) := by decide +kernel
theorem dX9_far_5 : decode cX9_far 5 = .ok (.invokevirtual 100, 3) := by decide +kernel
theorem dX9_far_8 : decode cX9_far 8 = .ok (.ifCond .eq 14, 3) := by decide +kernel
theorem dX9_far_11 : decode cX9_far 11 = .ok (.aload_n 0, 1) := by decide +kernel
theorem dX9_far_12 : decode cX9_far 12 = .ok (.getfield 12, 3) := by decide +kernel
theorem dX9_far_15 : decode cX9_far 15 = .ok (.iload_n 2, 1) := by decide +kernel
theorem dX9_far_16 : decode cX9_far 16 = .ok (.invokevirtual 100, 3) := by decide +kernel
theorem dX9_far_19 : decode cX9_far 19 = .ok (.ifCond .ne 5, 3) := by decide +kernel
theorem dX9_far_22 : decode cX9_far 22 = .ok (.iconst (-1), 1) := by decide +kernel
theorem dX9_far_23 : decode cX9_far 23 = .ok (.ireturn, 1) := by decide +kernel
theorem dX9_far_24 : decode cX9_far 24 = .ok (.aload_n 0, 1) := by decide +kernel
theorem dX9_far_25 : decode cX9_far 25 = .ok (.getfield 12, 3) := by decide +kernel
theorem dX9_far_28 : decode cX9_far 28 = .ok (.iload_n 1, 1) := by decide +kernel
theorem dX9_far_29 : decode cX9_far 29 = .ok (.iload_n 2, 1) := by decide +kernel
theorem dX9_far_30 : decode cX9_far 30 = .ok (.invokevirtual 116, 3) := by decide +kernel
theorem dX9_far_33 : decode cX9_far 33 = .ok (.ireturn, 1) := by decide +kernel
theorem dX9_sees_0 : decode cX9_sees 0 = .ok (.aload_n 0, 1) := by decide +kernel
theorem dX9_sees_1 : decode cX9_sees 1 = .ok (.getfield 12, 3) := by decide +kernel
theorem dX9_sees_4 : decode cX9_sees 4 = .ok (.iload_n 1, 1) := by decide +kernel
theorem dX9_sees_5 : decode cX9_sees 5 = .ok (.invokevirtual 100, 3) := by decide +kernel
theorem dX9_sees_8 : decode cX9_sees 8 = .ok (.ifCond .eq 14, 3) := by decide +kernel
theorem dX9_sees_11 : decode cX9_sees 11 = .ok (.aload_n 0, 1) := by decide +kernel
theorem dX9_sees_12 : decode cX9_sees 12 = .ok (.getfield 12, 3) := by decide +kernel
theorem dX9_sees_15 : decode cX9_sees 15 = .ok (.iload_n 2, 1) := by decide +kernel
theorem dX9_sees_16 : decode cX9_sees 16 = .ok (.invokevirtual 100, 3) := by decide +kernel
theorem dX9_sees_19 : decode cX9_sees 19 = .ok (.ifCond .ne 5, 3) := by decide +kernel
theorem dX9_sees_22 : decode cX9_sees 22 = .ok (.iconst (-1), 1) := by decide +kernel
theorem dX9_sees_23 : decode cX9_sees 23 = .ok (.ireturn, 1) := by decide +kernel
theorem dX9_sees_24 : decode cX9_sees 24 = .ok (.aload_n 0, 1) := by decide +kernel
theorem dX9_sees_25 : decode cX9_sees 25 = .ok (.getfield 21, 3) := by decide +kernel
theorem dX9_sees_28 : decode cX9_sees 28 = .ok (.iload_n 1, 1) := by decide +kernel
theorem dX9_sees_29 : decode cX9_sees 29 = .ok (.iload_n 2, 1) := by decide +kernel
theorem dX9_sees_30 : decode cX9_sees 30 = .ok (.invokevirtual 120, 3) := by decide +kernel
theorem dX9_sees_33 : decode cX9_sees 33 = .ok (.invokestatic 124, 3) := by decide +kernel
theorem dX9_sees_36 : decode cX9_sees 36 = .ok (.ireturn, 1) := by decide +kernel
theorem dX9_view_0 : decode cX9_view 0 = .ok (.aload_n 0, 1) := by decide +kernel
theorem dX9_view_1 : decode cX9_view 1 = .ok (.getfield 12, 3) := by decide +kernel
theorem dX9_view_4 : decode cX9_view 4 = .ok (.iload_n 1, 1) := by decide +kernel
theorem dX9_view_5 : decode cX9_view 5 = .ok (.invokevirtual 100, 3) := by decide +kernel
theorem dX9_view_8 : decode cX9_view 8 = .ok (.ifCond .eq 17, 3) := by decide +kernel
theorem dX9_view_11 : decode cX9_view 11 = .ok (.aload_n 0, 1) := by decide +kernel
theorem dX9_view_12 : decode cX9_view 12 = .ok (.getfield 21, 3) := by decide +kernel
theorem dX9_view_15 : decode cX9_view 15 = .ok (.iload_n 1, 1) := by decide +kernel
theorem dX9_view_16 : decode cX9_view 16 = .ok (.invokevirtual 128, 3) := by decide +kernel
theorem dX9_view_19 : decode cX9_view 19 = .ok (.invokestatic 132, 3) := by decide +kernel
theorem dX9_view_22 : decode cX9_view 22 = .ok (.goto 4, 3) := by decide +kernel
theorem dX9_view_25 : decode cX9_view 25 = .ok (.iconst (-1), 1) := by decide +kernel
theorem dX9_view_26 : decode cX9_view 26 = .ok (.ireturn, 1) := by decide +kernel
theorem dX9_best_0 : decode cX9_best 0 = .ok (.bipush (-9), 2) := by decide +kernel
theorem dX9_best_2 : decode cX9_best 2 = .ok (.istore_n 1, 1) := by decide +kernel
theorem dX9_best_3 : decode cX9_best 3 = .ok (.iconst 0, 1) := by decide +kernel
theorem dX9_best_4 : decode cX9_best 4 = .ok (.istore_n 2, 1) := by decide +kernel
theorem dX9_best_5 : decode cX9_best 5 = .ok (.iconst 0, 1) := by decide +kernel
theorem dX9_best_6 : decode cX9_best 6 = .ok (.istore_n 3, 1) := by decide +kernel
theorem dX9_best_7 : decode cX9_best 7 = .ok (.iload_n 3, 1) := by decide +kernel
theorem dX9_best_8 : decode cX9_best 8 = .ok (.aload_n 0, 1) := by decide +kernel
theorem dX9_best_9 : decode cX9_best 9 = .ok (.getfield 12, 3) := by decide +kernel
theorem dX9_best_12 : decode cX9_best 12 = .ok (.invokevirtual 96, 3) := by decide +kernel
theorem dX9_best_15 : decode cX9_best 15 = .ok (.if_icmp .ge 33, 3) := by decide +kernel
theorem dX9_best_18 : decode cX9_best 18 = .ok (.aload_n 0, 1) := by decide +kernel
theorem dX9_best_19 : decode cX9_best 19 = .ok (.getfield 21, 3) := by decide +kernel
theorem dX9_best_22 : decode cX9_best 22 = .ok (.iload_n 3, 1) := by decide +kernel
theorem dX9_best_23 : decode cX9_best 23 = .ok (.invokevirtual 128, 3) := by decide +kernel
theorem dX9_best_26 : decode cX9_best 26 = .ok (.invokestatic 132, 3) := by decide +kernel
theorem dX9_best_29 : decode cX9_best 29 = .ok (.istore 4, 2) := by decide +kernel
theorem dX9_best_31 : decode cX9_best 31 = .ok (.iload 4, 2) := by decide +kernel
theorem dX9_best_33 : decode cX9_best 33 = .ok (.iload_n 2, 1) := by decide +kernel
theorem dX9_best_34 : decode cX9_best 34 = .ok (.if_icmp .le 8, 3) := by decide +kernel
theorem dX9_best_37 : decode cX9_best 37 = .ok (.iload 4, 2) := by decide +kernel
theorem dX9_best_39 : decode cX9_best 39 = .ok (.istore_n 2, 1) := by decide +kernel
theorem dX9_best_40 : decode cX9_best 40 = .ok (.iload_n 3, 1) := by decide +kernel
theorem dX9_best_41 : decode cX9_best 41 = .ok (.istore_n 1, 1) := by decide +kernel
theorem dX9_best_42 : decode cX9_best 42 = .ok (.iinc 3 1, 3) := by decide +kernel
theorem dX9_best_45 : decode cX9_best 45 = .ok (.goto (-38), 3) := by decide +kernel
theorem dX9_best_48 : decode cX9_best 48 = .ok (.iload_n 1, 1) := by decide +kernel
theorem dX9_best_49 : decode cX9_best 49 = .ok (.ireturn, 1) := by decide +kernel
theorem dX9_picture_0 : decode cX9_picture 0 = .ok (.aload_n 0, 1) := by decide +kernel
theorem dX9_picture_1 : decode cX9_picture 1 = .ok (.getfield 12, 3) := by decide +kernel
theorem dX9_picture_4 : decode cX9_picture 4 = .ok (.iload_n 1, 1) := by decide +kernel
theorem dX9_picture_5 : decode cX9_picture 5 = .ok (.invokevirtual 100, 3) := by decide +kernel
theorem dX9_picture_8 : decode cX9_picture 8 = .ok (.ifCond .ne 5, 3) := by decide +kernel
theorem dX9_picture_11 : decode cX9_picture 11 = .ok (.iconst (-1), 1) := by decide +kernel
theorem dX9_picture_12 : decode cX9_picture 12 = .ok (.ireturn, 1) := by decide +kernel
theorem dX9_picture_13 : decode cX9_picture 13 = .ok (.iload_n 2, 1) := by decide +kernel
theorem dX9_picture_14 : decode cX9_picture 14 = .ok (.ifCond .lt 8, 3) := by decide +kernel
theorem dX9_picture_17 : decode cX9_picture 17 = .ok (.iload_n 2, 1) := by decide +kernel
theorem dX9_picture_18 : decode cX9_picture 18 = .ok (.iconst 3, 1) := by decide +kernel
theorem dX9_picture_19 : decode cX9_picture 19 = .ok (.if_icmp .le 6, 3) := by decide +kernel
theorem dX9_picture_22 : decode cX9_picture 22 = .ok (.bipush (-2), 2) := by decide +kernel
theorem dX9_picture_24 : decode cX9_picture 24 = .ok (.ireturn, 1) := by decide +kernel
theorem dX9_picture_25 : decode cX9_picture 25 = .ok (.aload_n 0, 1) := by decide +kernel
theorem dX9_picture_26 : decode cX9_picture 26 = .ok (.getfield 12, 3) := by decide +kernel
theorem dX9_picture_29 : decode cX9_picture 29 = .ok (.iload_n 1, 1) := by decide +kernel
theorem dX9_picture_30 : decode cX9_picture 30 = .ok (.invokevirtual 138, 3) := by decide +kernel
theorem dX9_picture_33 : decode cX9_picture 33 = .ok (.ifCond .ne 6, 3) := by decide +kernel
theorem dX9_picture_36 : decode cX9_picture 36 = .ok (.bipush (-3), 2) := by decide +kernel
theorem dX9_picture_38 : decode cX9_picture 38 = .ok (.ireturn, 1) := by decide +kernel
theorem dX9_picture_39 : decode cX9_picture 39 = .ok (.aload_n 0, 1) := by decide +kernel
theorem dX9_picture_40 : decode cX9_picture 40 = .ok (.getfield 30, 3) := by decide +kernel
theorem dX9_picture_43 : decode cX9_picture 43 = .ok (.iload_n 1, 1) := by decide +kernel
theorem dX9_picture_44 : decode cX9_picture 44 = .ok (.iload_n 2, 1) := by decide +kernel
theorem dX9_picture_45 : decode cX9_picture 45 = .ok (.invokevirtual 141, 3) := by decide +kernel
theorem dX9_picture_48 : decode cX9_picture 48 = .ok (.ireturn, 1) := by decide +kernel
theorem dX9_about_0 : decode cX9_about 0 = .ok (.aload_n 0, 1) := by decide +kernel
theorem dX9_about_1 : decode cX9_about 1 = .ok (.getfield 30, 3) := by decide +kernel
theorem dX9_about_4 : decode cX9_about 4 = .ok (.iload_n 1, 1) := by decide +kernel
theorem dX9_about_5 : decode cX9_about 5 = .ok (.invokevirtual 144, 3) := by decide +kernel
theorem dX9_about_8 : decode cX9_about 8 = .ok (.ifCond .ne 5, 3) := by decide +kernel
theorem dX9_about_11 : decode cX9_about 11 = .ok (.iconst (-1), 1) := by decide +kernel
theorem dX9_about_12 : decode cX9_about 12 = .ok (.ireturn, 1) := by decide +kernel
theorem dX9_about_13 : decode cX9_about 13 = .ok (.iload_n 2, 1) := by decide +kernel
theorem dX9_about_14 : decode cX9_about 14 = .ok (.ifCond .ne 12, 3) := by decide +kernel
theorem dX9_about_17 : decode cX9_about 17 = .ok (.aload_n 0, 1) := by decide +kernel
theorem dX9_about_18 : decode cX9_about 18 = .ok (.getfield 30, 3) := by decide +kernel
theorem dX9_about_21 : decode cX9_about 21 = .ok (.iload_n 1, 1) := by decide +kernel
theorem dX9_about_22 : decode cX9_about 22 = .ok (.invokevirtual 147, 3) := by decide +kernel
theorem dX9_about_25 : decode cX9_about 25 = .ok (.ireturn, 1) := by decide +kernel
theorem dX9_about_26 : decode cX9_about 26 = .ok (.iload_n 2, 1) := by decide +kernel
theorem dX9_about_27 : decode cX9_about 27 = .ok (.iconst 1, 1) := by decide +kernel
theorem dX9_about_28 : decode cX9_about 28 = .ok (.if_icmp .ne 14, 3) := by decide +kernel
theorem dX9_about_31 : decode cX9_about 31 = .ok (.aload_n 0, 1) := by decide +kernel
theorem dX9_about_32 : decode cX9_about 32 = .ok (.getfield 30, 3) := by decide +kernel
theorem dX9_about_35 : decode cX9_about 35 = .ok (.iload_n 1, 1) := by decide +kernel
theorem dX9_about_36 : decode cX9_about 36 = .ok (.invokevirtual 150, 3) := by decide +kernel
theorem dX9_about_39 : decode cX9_about 39 = .ok (.goto 5, 3) := by decide +kernel
theorem dX9_about_42 : decode cX9_about 42 = .ok (.bipush (-2), 2) := by decide +kernel
theorem dX9_about_44 : decode cX9_about 44 = .ok (.ireturn, 1) := by decide +kernel
theorem dX9_seen_0 : decode cX9_seen 0 = .ok (.aload_n 0, 1) := by decide +kernel
theorem dX9_seen_1 : decode cX9_seen 1 = .ok (.getfield 30, 3) := by decide +kernel
theorem dX9_seen_4 : decode cX9_seen 4 = .ok (.iload_n 1, 1) := by decide +kernel
theorem dX9_seen_5 : decode cX9_seen 5 = .ok (.invokevirtual 144, 3) := by decide +kernel
theorem dX9_seen_8 : decode cX9_seen 8 = .ok (.ifCond .eq 14, 3) := by decide +kernel
theorem dX9_seen_11 : decode cX9_seen 11 = .ok (.aload_n 0, 1) := by decide +kernel
theorem dX9_seen_12 : decode cX9_seen 12 = .ok (.getfield 12, 3) := by decide +kernel
theorem dX9_seen_15 : decode cX9_seen 15 = .ok (.iload_n 2, 1) := by decide +kernel
theorem dX9_seen_16 : decode cX9_seen 16 = .ok (.invokevirtual 100, 3) := by decide +kernel
theorem dX9_seen_19 : decode cX9_seen 19 = .ok (.ifCond .ne 5, 3) := by decide +kernel
theorem dX9_seen_22 : decode cX9_seen 22 = .ok (.iconst (-1), 1) := by decide +kernel
theorem dX9_seen_23 : decode cX9_seen 23 = .ok (.ireturn, 1) := by decide +kernel
theorem dX9_seen_24 : decode cX9_seen 24 = .ok (.aload_n 0, 1) := by decide +kernel
theorem dX9_seen_25 : decode cX9_seen 25 = .ok (.getfield 30, 3) := by decide +kernel
theorem dX9_seen_28 : decode cX9_seen 28 = .ok (.iload_n 1, 1) := by decide +kernel
theorem dX9_seen_29 : decode cX9_seen 29 = .ok (.iload_n 2, 1) := by decide +kernel
theorem dX9_seen_30 : decode cX9_seen 30 = .ok (.invokevirtual 153, 3) := by decide +kernel
theorem dX9_seen_33 : decode cX9_seen 33 = .ok (.invokestatic 124, 3) := by decide +kernel
theorem dX9_seen_36 : decode cX9_seen 36 = .ok (.ireturn, 1) := by decide +kernel
theorem dX9_from_0 : decode cX9_from 0 = .ok (.aload_n 0, 1) := by decide +kernel
theorem dX9_from_1 : decode cX9_from 1 = .ok (.getfield 12, 3) := by decide +kernel
theorem dX9_from_4 : decode cX9_from 4 = .ok (.iload_n 1, 1) := by decide +kernel
theorem dX9_from_5 : decode cX9_from 5 = .ok (.invokevirtual 100, 3) := by decide +kernel
theorem dX9_from_8 : decode cX9_from 8 = .ok (.ifCond .eq 14, 3) := by decide +kernel
theorem dX9_from_11 : decode cX9_from 11 = .ok (.aload_n 0, 1) := by decide +kernel
theorem dX9_from_12 : decode cX9_from 12 = .ok (.getfield 30, 3) := by decide +kernel
theorem dX9_from_15 : decode cX9_from 15 = .ok (.iload_n 1, 1) := by decide +kernel
theorem dX9_from_16 : decode cX9_from 16 = .ok (.invokevirtual 156, 3) := by decide +kernel
theorem dX9_from_19 : decode cX9_from 19 = .ok (.goto 4, 3) := by decide +kernel
theorem dX9_from_22 : decode cX9_from 22 = .ok (.iconst (-1), 1) := by decide +kernel
theorem dX9_from_23 : decode cX9_from 23 = .ok (.ireturn, 1) := by decide +kernel
theorem dX9_fewest_0 : decode cX9_fewest 0 = .ok (.aload_n 0, 1) := by decide +kernel
theorem dX9_fewest_1 : decode cX9_fewest 1 = .ok (.getfield 30, 3) := by decide +kernel
theorem dX9_fewest_4 : decode cX9_fewest 4 = .ok (.invokevirtual 159, 3) := by decide +kernel
theorem dX9_fewest_7 : decode cX9_fewest 7 = .ok (.aload_n 0, 1) := by decide +kernel
theorem dX9_fewest_8 : decode cX9_fewest 8 = .ok (.getfield 46, 3) := by decide +kernel
theorem dX9_fewest_11 : decode cX9_fewest 11 = .ok (.invokevirtual 162, 3) := by decide +kernel
theorem dX9_fewest_14 : decode cX9_fewest 14 = .ok (.aload_n 0, 1) := by decide +kernel
theorem dX9_fewest_15 : decode cX9_fewest 15 = .ok (.getfield 46, 3) := by decide +kernel
theorem dX9_fewest_18 : decode cX9_fewest 18 = .ok (.invokevirtual 165, 3) := by decide +kernel
theorem dX9_fewest_21 : decode cX9_fewest 21 = .ok (.ireturn, 1) := by decide +kernel
theorem dX9_post_0 : decode cX9_post 0 = .ok (.aload_n 0, 1) := by decide +kernel
theorem dX9_post_1 : decode cX9_post 1 = .ok (.getfield 30, 3) := by decide +kernel
theorem dX9_post_4 : decode cX9_post 4 = .ok (.invokevirtual 159, 3) := by decide +kernel
theorem dX9_post_7 : decode cX9_post 7 = .ok (.aload_n 0, 1) := by decide +kernel
theorem dX9_post_8 : decode cX9_post 8 = .ok (.getfield 46, 3) := by decide +kernel
theorem dX9_post_11 : decode cX9_post 11 = .ok (.invokevirtual 162, 3) := by decide +kernel
theorem dX9_post_14 : decode cX9_post 14 = .ok (.aload_n 0, 1) := by decide +kernel
theorem dX9_post_15 : decode cX9_post 15 = .ok (.getfield 46, 3) := by decide +kernel
theorem dX9_post_18 : decode cX9_post 18 = .ok (.iload_n 1, 1) := by decide +kernel
theorem dX9_post_19 : decode cX9_post 19 = .ok (.invokevirtual 166, 3) := by decide +kernel
theorem dX9_post_22 : decode cX9_post 22 = .ok (.ireturn, 1) := by decide +kernel
theorem dX9_tour_0 : decode cX9_tour 0 = .ok (.aload_n 0, 1) := by decide +kernel
theorem dX9_tour_1 : decode cX9_tour 1 = .ok (.getfield 12, 3) := by decide +kernel
theorem dX9_tour_4 : decode cX9_tour 4 = .ok (.iload_n 1, 1) := by decide +kernel
theorem dX9_tour_5 : decode cX9_tour 5 = .ok (.invokevirtual 100, 3) := by decide +kernel
theorem dX9_tour_8 : decode cX9_tour 8 = .ok (.ifCond .ne 5, 3) := by decide +kernel
theorem dX9_tour_11 : decode cX9_tour 11 = .ok (.iconst (-1), 1) := by decide +kernel
theorem dX9_tour_12 : decode cX9_tour 12 = .ok (.ireturn, 1) := by decide +kernel
theorem dX9_tour_13 : decode cX9_tour 13 = .ok (.aload_n 0, 1) := by decide +kernel
theorem dX9_tour_14 : decode cX9_tour 14 = .ok (.getfield 12, 3) := by decide +kernel
theorem dX9_tour_17 : decode cX9_tour 17 = .ok (.iload_n 1, 1) := by decide +kernel
theorem dX9_tour_18 : decode cX9_tour 18 = .ok (.invokevirtual 167, 3) := by decide +kernel
theorem dX9_tour_21 : decode cX9_tour 21 = .ok (.ifCond .ne 6, 3) := by decide +kernel
theorem dX9_tour_24 : decode cX9_tour 24 = .ok (.bipush (-3), 2) := by decide +kernel
theorem dX9_tour_26 : decode cX9_tour 26 = .ok (.ireturn, 1) := by decide +kernel
theorem dX9_tour_27 : decode cX9_tour 27 = .ok (.aload_n 0, 1) := by decide +kernel
theorem dX9_tour_28 : decode cX9_tour 28 = .ok (.getfield 30, 3) := by decide +kernel
theorem dX9_tour_31 : decode cX9_tour 31 = .ok (.invokevirtual 159, 3) := by decide +kernel
theorem dX9_tour_34 : decode cX9_tour 34 = .ok (.aload_n 0, 1) := by decide +kernel
theorem dX9_tour_35 : decode cX9_tour 35 = .ok (.getfield 67, 3) := by decide +kernel
theorem dX9_tour_38 : decode cX9_tour 38 = .ok (.iload_n 1, 1) := by decide +kernel
theorem dX9_tour_39 : decode cX9_tour 39 = .ok (.invokevirtual 170, 3) := by decide +kernel
theorem dX9_tour_42 : decode cX9_tour 42 = .ok (.ireturn, 1) := by decide +kernel
theorem dX9_tourStep_0 : decode cX9_tourStep 0 = .ok (.aload_n 0, 1) := by decide +kernel
theorem dX9_tourStep_1 : decode cX9_tourStep 1 = .ok (.getfield 12, 3) := by decide +kernel
theorem dX9_tourStep_4 : decode cX9_tourStep 4 = .ok (.iload_n 1, 1) := by decide +kernel
theorem dX9_tourStep_5 : decode cX9_tourStep 5 = .ok (.invokevirtual 100, 3) := by decide +kernel
theorem dX9_tourStep_8 : decode cX9_tourStep 8 = .ok (.ifCond .ne 5, 3) := by decide +kernel
theorem dX9_tourStep_11 : decode cX9_tourStep 11 = .ok (.iconst (-1), 1) := by decide +kernel
theorem dX9_tourStep_12 : decode cX9_tourStep 12 = .ok (.ireturn, 1) := by decide +kernel
theorem dX9_tourStep_13 : decode cX9_tourStep 13 = .ok (.aload_n 0, 1) := by decide +kernel
theorem dX9_tourStep_14 : decode cX9_tourStep 14 = .ok (.getfield 12, 3) := by decide +kernel
theorem dX9_tourStep_17 : decode cX9_tourStep 17 = .ok (.iload_n 1, 1) := by decide +kernel
theorem dX9_tourStep_18 : decode cX9_tourStep 18 = .ok (.invokevirtual 167, 3) := by decide +kernel
theorem dX9_tourStep_21 : decode cX9_tourStep 21 = .ok (.ifCond .ne 6, 3) := by decide +kernel
theorem dX9_tourStep_24 : decode cX9_tourStep 24 = .ok (.bipush (-3), 2) := by decide +kernel
theorem dX9_tourStep_26 : decode cX9_tourStep 26 = .ok (.ireturn, 1) := by decide +kernel
theorem dX9_tourStep_27 : decode cX9_tourStep 27 = .ok (.aload_n 0, 1) := by decide +kernel
theorem dX9_tourStep_28 : decode cX9_tourStep 28 = .ok (.getfield 30, 3) := by decide +kernel
theorem dX9_tourStep_31 : decode cX9_tourStep 31 = .ok (.invokevirtual 159, 3) := by decide +kernel
theorem dX9_tourStep_34 : decode cX9_tourStep 34 = .ok (.aload_n 0, 1) := by decide +kernel
theorem dX9_tourStep_35 : decode cX9_tourStep 35 = .ok (.getfield 67, 3) := by decide +kernel
theorem dX9_tourStep_38 : decode cX9_tourStep 38 = .ok (.iload_n 1, 1) := by decide +kernel
theorem dX9_tourStep_39 : decode cX9_tourStep 39 = .ok (.iload_n 2, 1) := by decide +kernel
theorem dX9_tourStep_40 : decode cX9_tourStep 40 = .ok (.invokevirtual 173, 3) := by decide +kernel
theorem dX9_tourStep_43 : decode cX9_tourStep 43 = .ok (.ireturn, 1) := by decide +kernel
theorem dX9_step_0 : decode cX9_step 0 = .ok (.iload_n 1, 1) := by decide +kernel
theorem dX9_step_1 : decode cX9_step 1 = .ok (.invokestatic 176, 3) := by decide +kernel
theorem dX9_step_4 : decode cX9_step 4 = .ok (.ifCond .eq 14, 3) := by decide +kernel
theorem dX9_step_7 : decode cX9_step 7 = .ok (.aload_n 0, 1) := by decide +kernel
theorem dX9_step_8 : decode cX9_step 8 = .ok (.getfield 12, 3) := by decide +kernel
theorem dX9_step_11 : decode cX9_step 11 = .ok (.iload_n 2, 1) := by decide +kernel
theorem dX9_step_12 : decode cX9_step 12 = .ok (.invokevirtual 100, 3) := by decide +kernel
theorem dX9_step_15 : decode cX9_step 15 = .ok (.ifCond .ne 5, 3) := by decide +kernel
theorem dX9_step_18 : decode cX9_step 18 = .ok (.iconst (-1), 1) := by decide +kernel
theorem dX9_step_19 : decode cX9_step 19 = .ok (.ireturn, 1) := by decide +kernel
theorem dX9_step_20 : decode cX9_step 20 = .ok (.aload_n 0, 1) := by decide +kernel
theorem dX9_step_21 : decode cX9_step 21 = .ok (.getfield 12, 3) := by decide +kernel
theorem dX9_step_24 : decode cX9_step 24 = .ok (.iload_n 2, 1) := by decide +kernel
theorem dX9_step_25 : decode cX9_step 25 = .ok (.invokevirtual 167, 3) := by decide +kernel
theorem dX9_step_28 : decode cX9_step 28 = .ok (.ifCond .ne 6, 3) := by decide +kernel
theorem dX9_step_31 : decode cX9_step 31 = .ok (.bipush (-3), 2) := by decide +kernel
theorem dX9_step_33 : decode cX9_step 33 = .ok (.ireturn, 1) := by decide +kernel
theorem dX9_step_34 : decode cX9_step 34 = .ok (.aload_n 0, 1) := by decide +kernel
theorem dX9_step_35 : decode cX9_step 35 = .ok (.getfield 37, 3) := by decide +kernel
theorem dX9_step_38 : decode cX9_step 38 = .ok (.iload_n 1, 1) := by decide +kernel
theorem dX9_step_39 : decode cX9_step 39 = .ok (.invokevirtual 179, 3) := by decide +kernel
theorem dX9_step_42 : decode cX9_step 42 = .ok (.istore_n 3, 1) := by decide +kernel
theorem dX9_step_43 : decode cX9_step 43 = .ok (.iload_n 3, 1) := by decide +kernel
theorem dX9_step_44 : decode cX9_step 44 = .ok (.bipush (-9), 2) := by decide +kernel
theorem dX9_step_46 : decode cX9_step 46 = .ok (.if_icmp .eq 23, 3) := by decide +kernel
theorem dX9_step_49 : decode cX9_step 49 = .ok (.iload_n 3, 1) := by decide +kernel
theorem dX9_step_50 : decode cX9_step 50 = .ok (.iload_n 2, 1) := by decide +kernel
theorem dX9_step_51 : decode cX9_step 51 = .ok (.if_icmp .eq 18, 3) := by decide +kernel
theorem dX9_step_54 : decode cX9_step 54 = .ok (.aload_n 0, 1) := by decide +kernel
theorem dX9_step_55 : decode cX9_step 55 = .ok (.getfield 12, 3) := by decide +kernel
theorem dX9_step_58 : decode cX9_step 58 = .ok (.iload_n 3, 1) := by decide +kernel
theorem dX9_step_59 : decode cX9_step 59 = .ok (.iload_n 2, 1) := by decide +kernel
theorem dX9_step_60 : decode cX9_step 60 = .ok (.invokevirtual 182, 3) := by decide +kernel
theorem dX9_step_63 : decode cX9_step 63 = .ok (.ifCond .ne 6, 3) := by decide +kernel
theorem dX9_step_66 : decode cX9_step 66 = .ok (.bipush (-3), 2) := by decide +kernel
theorem dX9_step_68 : decode cX9_step 68 = .ok (.ireturn, 1) := by decide +kernel
theorem dX9_step_69 : decode cX9_step 69 = .ok (.aload_n 0, 1) := by decide +kernel
theorem dX9_step_70 : decode cX9_step 70 = .ok (.getfield 37, 3) := by decide +kernel
theorem dX9_step_73 : decode cX9_step 73 = .ok (.iload_n 1, 1) := by decide +kernel
theorem dX9_step_74 : decode cX9_step 74 = .ok (.iload_n 2, 1) := by decide +kernel
theorem dX9_step_75 : decode cX9_step 75 = .ok (.invokevirtual 185, 3) := by decide +kernel
theorem dX9_step_78 : decode cX9_step 78 = .ok (.ireturn, 1) := by decide +kernel
theorem dX9_wipe_0 : decode cX9_wipe 0 = .ok (.iload_n 1, 1) := by decide +kernel
theorem dX9_wipe_1 : decode cX9_wipe 1 = .ok (.invokestatic 176, 3) := by decide +kernel
theorem dX9_wipe_4 : decode cX9_wipe 4 = .ok (.ifCond .eq 14, 3) := by decide +kernel
theorem dX9_wipe_7 : decode cX9_wipe 7 = .ok (.aload_n 0, 1) := by decide +kernel
theorem dX9_wipe_8 : decode cX9_wipe 8 = .ok (.getfield 37, 3) := by decide +kernel
theorem dX9_wipe_11 : decode cX9_wipe 11 = .ok (.iload_n 1, 1) := by decide +kernel
theorem dX9_wipe_12 : decode cX9_wipe 12 = .ok (.invokevirtual 188, 3) := by decide +kernel
theorem dX9_wipe_15 : decode cX9_wipe 15 = .ok (.goto 4, 3) := by decide +kernel
theorem dX9_wipe_18 : decode cX9_wipe 18 = .ok (.iconst (-1), 1) := by decide +kernel
theorem dX9_wipe_19 : decode cX9_wipe 19 = .ok (.ireturn, 1) := by decide +kernel
theorem dX9_closed_0 : decode cX9_closed 0 = .ok (.iload_n 1, 1) := by decide +kernel
theorem dX9_closed_1 : decode cX9_closed 1 = .ok (.invokestatic 176, 3) := by decide +kernel
theorem dX9_closed_4 : decode cX9_closed 4 = .ok (.ifCond .ne 5, 3) := by decide +kernel
theorem dX9_closed_7 : decode cX9_closed 7 = .ok (.iconst (-1), 1) := by decide +kernel
theorem dX9_closed_8 : decode cX9_closed 8 = .ok (.ireturn, 1) := by decide +kernel
theorem dX9_closed_9 : decode cX9_closed 9 = .ok (.aload_n 0, 1) := by decide +kernel
theorem dX9_closed_10 : decode cX9_closed 10 = .ok (.getfield 37, 3) := by decide +kernel
theorem dX9_closed_13 : decode cX9_closed 13 = .ok (.iload_n 1, 1) := by decide +kernel
theorem dX9_closed_14 : decode cX9_closed 14 = .ok (.invokevirtual 191, 3) := by decide +kernel
theorem dX9_closed_17 : decode cX9_closed 17 = .ok (.istore_n 2, 1) := by decide +kernel
theorem dX9_closed_18 : decode cX9_closed 18 = .ok (.aload_n 0, 1) := by decide +kernel
theorem dX9_closed_19 : decode cX9_closed 19 = .ok (.getfield 37, 3) := by decide +kernel
theorem dX9_closed_22 : decode cX9_closed 22 = .ok (.iload_n 1, 1) := by decide +kernel
theorem dX9_closed_23 : decode cX9_closed 23 = .ok (.invokevirtual 179, 3) := by decide +kernel
theorem dX9_closed_26 : decode cX9_closed 26 = .ok (.istore_n 3, 1) := by decide +kernel
theorem dX9_closed_27 : decode cX9_closed 27 = .ok (.iload_n 2, 1) := by decide +kernel
theorem dX9_closed_28 : decode cX9_closed 28 = .ok (.iload_n 3, 1) := by decide +kernel
theorem dX9_closed_29 : decode cX9_closed 29 = .ok (.if_icmp .eq 15, 3) := by decide +kernel
theorem dX9_closed_32 : decode cX9_closed 32 = .ok (.aload_n 0, 1) := by decide +kernel
theorem dX9_closed_33 : decode cX9_closed 33 = .ok (.getfield 12, 3) := by decide +kernel
theorem dX9_closed_36 : decode cX9_closed 36 = .ok (.iload_n 2, 1) := by decide +kernel
theorem dX9_closed_37 : decode cX9_closed 37 = .ok (.iload_n 3, 1) := by decide +kernel
theorem dX9_closed_38 : decode cX9_closed 38 = .ok (.invokevirtual 182, 3) := by decide +kernel
theorem dX9_closed_41 : decode cX9_closed 41 = .ok (.ifCond .eq 7, 3) := by decide +kernel
theorem dX9_closed_44 : decode cX9_closed 44 = .ok (.iconst 1, 1) := by decide +kernel
theorem dX9_closed_45 : decode cX9_closed 45 = .ok (.goto 4, 3) := by decide +kernel
theorem dX9_closed_48 : decode cX9_closed 48 = .ok (.iconst 0, 1) := by decide +kernel
theorem dX9_closed_49 : decode cX9_closed 49 = .ok (.invokestatic 124, 3) := by decide +kernel
theorem dX9_closed_52 : decode cX9_closed 52 = .ok (.ireturn, 1) := by decide +kernel
theorem dX9_shift_0 : decode cX9_shift 0 = .ok (.iload_n 1, 1) := by decide +kernel
theorem dX9_shift_1 : decode cX9_shift 1 = .ok (.invokestatic 176, 3) := by decide +kernel
theorem dX9_shift_4 : decode cX9_shift 4 = .ok (.ifCond .ne 5, 3) := by decide +kernel
theorem dX9_shift_7 : decode cX9_shift 7 = .ok (.iconst (-1), 1) := by decide +kernel
theorem dX9_shift_8 : decode cX9_shift 8 = .ok (.ireturn, 1) := by decide +kernel
theorem dX9_shift_9 : decode cX9_shift 9 = .ok (.iload_n 2, 1) := by decide +kernel
theorem dX9_shift_10 : decode cX9_shift 10 = .ok (.ifCond .lt 8, 3) := by decide +kernel
theorem dX9_shift_13 : decode cX9_shift 13 = .ok (.iload_n 2, 1) := by decide +kernel
theorem dX9_shift_14 : decode cX9_shift 14 = .ok (.iconst 5, 1) := by decide +kernel
theorem dX9_shift_15 : decode cX9_shift 15 = .ok (.if_icmp .le 6, 3) := by decide +kernel
theorem dX9_shift_18 : decode cX9_shift 18 = .ok (.bipush (-2), 2) := by decide +kernel
theorem dX9_shift_20 : decode cX9_shift 20 = .ok (.ireturn, 1) := by decide +kernel
theorem dX9_shift_21 : decode cX9_shift 21 = .ok (.aload_n 0, 1) := by decide +kernel
theorem dX9_shift_22 : decode cX9_shift 22 = .ok (.getfield 37, 3) := by decide +kernel
theorem dX9_shift_25 : decode cX9_shift 25 = .ok (.iload_n 1, 1) := by decide +kernel
theorem dX9_shift_26 : decode cX9_shift 26 = .ok (.invokevirtual 194, 3) := by decide +kernel
theorem dX9_shift_29 : decode cX9_shift 29 = .ok (.istore_n 3, 1) := by decide +kernel
theorem dX9_shift_30 : decode cX9_shift 30 = .ok (.aload_n 0, 1) := by decide +kernel
theorem dX9_shift_31 : decode cX9_shift 31 = .ok (.getfield 37, 3) := by decide +kernel
theorem dX9_shift_34 : decode cX9_shift 34 = .ok (.iload_n 1, 1) := by decide +kernel
theorem dX9_shift_35 : decode cX9_shift 35 = .ok (.iload_n 2, 1) := by decide +kernel
theorem dX9_shift_36 : decode cX9_shift 36 = .ok (.invokevirtual 197, 3) := by decide +kernel
theorem dX9_shift_39 : decode cX9_shift 39 = .ok (.iload_n 3, 1) := by decide +kernel
theorem dX9_shift_40 : decode cX9_shift 40 = .ok (.ireturn, 1) := by decide +kernel
theorem dX9_where_0 : decode cX9_where 0 = .ok (.iload_n 1, 1) := by decide +kernel
theorem dX9_where_1 : decode cX9_where 1 = .ok (.invokestatic 176, 3) := by decide +kernel
theorem dX9_where_4 : decode cX9_where 4 = .ok (.ifCond .ne 5, 3) := by decide +kernel
theorem dX9_where_7 : decode cX9_where 7 = .ok (.iconst (-1), 1) := by decide +kernel
theorem dX9_where_8 : decode cX9_where 8 = .ok (.ireturn, 1) := by decide +kernel
theorem dX9_where_9 : decode cX9_where 9 = .ok (.iload_n 2, 1) := by decide +kernel
theorem dX9_where_10 : decode cX9_where 10 = .ok (.invokestatic 200, 3) := by decide +kernel
theorem dX9_where_13 : decode cX9_where 13 = .ok (.ifCond .eq 15, 3) := by decide +kernel
theorem dX9_where_16 : decode cX9_where 16 = .ok (.aload_n 0, 1) := by decide +kernel
theorem dX9_where_17 : decode cX9_where 17 = .ok (.getfield 37, 3) := by decide +kernel
theorem dX9_where_20 : decode cX9_where 20 = .ok (.iload_n 1, 1) := by decide +kernel
theorem dX9_where_21 : decode cX9_where 21 = .ok (.iload_n 2, 1) := by decide +kernel
theorem dX9_where_22 : decode cX9_where 22 = .ok (.invokevirtual 203, 3) := by decide +kernel
theorem dX9_where_25 : decode cX9_where 25 = .ok (.goto 5, 3) := by decide +kernel
theorem dX9_where_28 : decode cX9_where 28 = .ok (.bipush (-2), 2) := by decide +kernel
theorem dX9_where_30 : decode cX9_where 30 = .ok (.ireturn, 1) := by decide +kernel
theorem dX9_watched_0 : decode cX9_watched 0 = .ok (.aload_n 0, 1) := by decide +kernel
theorem dX9_watched_1 : decode cX9_watched 1 = .ok (.getfield 12, 3) := by decide +kernel
theorem dX9_watched_4 : decode cX9_watched 4 = .ok (.iload_n 1, 1) := by decide +kernel
theorem dX9_watched_5 : decode cX9_watched 5 = .ok (.invokevirtual 100, 3) := by decide +kernel
theorem dX9_watched_8 : decode cX9_watched 8 = .ok (.ifCond .ne 5, 3) := by decide +kernel
theorem dX9_watched_11 : decode cX9_watched 11 = .ok (.iconst (-1), 1) := by decide +kernel
theorem dX9_watched_12 : decode cX9_watched 12 = .ok (.ireturn, 1) := by decide +kernel
theorem dX9_watched_13 : decode cX9_watched 13 = .ok (.iload_n 2, 1) := by decide +kernel
theorem dX9_watched_14 : decode cX9_watched 14 = .ok (.invokestatic 200, 3) := by decide +kernel
theorem dX9_watched_17 : decode cX9_watched 17 = .ok (.ifCond .ne 6, 3) := by decide +kernel
theorem dX9_watched_20 : decode cX9_watched 20 = .ok (.bipush (-2), 2) := by decide +kernel
theorem dX9_watched_22 : decode cX9_watched 22 = .ok (.ireturn, 1) := by decide +kernel
theorem dX9_watched_23 : decode cX9_watched 23 = .ok (.iconst 0, 1) := by decide +kernel
theorem dX9_watched_24 : decode cX9_watched 24 = .ok (.istore_n 3, 1) := by decide +kernel
theorem dX9_watched_25 : decode cX9_watched 25 = .ok (.iload_n 3, 1) := by decide +kernel
theorem dX9_watched_26 : decode cX9_watched 26 = .ok (.iconst 4, 1) := by decide +kernel
theorem dX9_watched_27 : decode cX9_watched 27 = .ok (.if_icmp .ge 42, 3) := by decide +kernel
theorem dX9_watched_30 : decode cX9_watched 30 = .ok (.aload_n 0, 1) := by decide +kernel
theorem dX9_watched_31 : decode cX9_watched 31 = .ok (.getfield 37, 3) := by decide +kernel
theorem dX9_watched_34 : decode cX9_watched 34 = .ok (.iload_n 3, 1) := by decide +kernel
theorem dX9_watched_35 : decode cX9_watched 35 = .ok (.iload_n 2, 1) := by decide +kernel
theorem dX9_watched_36 : decode cX9_watched 36 = .ok (.invokevirtual 203, 3) := by decide +kernel
theorem dX9_watched_39 : decode cX9_watched 39 = .ok (.istore 4, 2) := by decide +kernel
theorem dX9_watched_41 : decode cX9_watched 41 = .ok (.iload 4, 2) := by decide +kernel
theorem dX9_watched_43 : decode cX9_watched 43 = .ok (.bipush (-9), 2) := by decide +kernel
theorem dX9_watched_45 : decode cX9_watched 45 = .ok (.if_icmp .eq 18, 3) := by decide +kernel
theorem dX9_watched_48 : decode cX9_watched 48 = .ok (.aload_n 0, 1) := by decide +kernel
theorem dX9_watched_49 : decode cX9_watched 49 = .ok (.getfield 21, 3) := by decide +kernel
theorem dX9_watched_52 : decode cX9_watched 52 = .ok (.iload 4, 2) := by decide +kernel
theorem dX9_watched_54 : decode cX9_watched 54 = .ok (.iload_n 1, 1) := by decide +kernel
theorem dX9_watched_55 : decode cX9_watched 55 = .ok (.invokevirtual 120, 3) := by decide +kernel
theorem dX9_watched_58 : decode cX9_watched 58 = .ok (.ifCond .eq 5, 3) := by decide +kernel
theorem dX9_watched_61 : decode cX9_watched 61 = .ok (.iconst 1, 1) := by decide +kernel
theorem dX9_watched_62 : decode cX9_watched 62 = .ok (.ireturn, 1) := by decide +kernel
theorem dX9_watched_63 : decode cX9_watched 63 = .ok (.iinc 3 1, 3) := by decide +kernel
theorem dX9_watched_66 : decode cX9_watched 66 = .ok (.goto (-41), 3) := by decide +kernel
theorem dX9_watched_69 : decode cX9_watched 69 = .ok (.iconst 0, 1) := by decide +kernel
theorem dX9_watched_70 : decode cX9_watched 70 = .ok (.ireturn, 1) := by decide +kernel
theorem dX9_period_0 : decode cX9_period 0 = .ok (.aload_n 0, 1) := by decide +kernel
theorem dX9_period_1 : decode cX9_period 1 = .ok (.getfield 37, 3) := by decide +kernel
theorem dX9_period_4 : decode cX9_period 4 = .ok (.invokevirtual 206, 3) := by decide +kernel
theorem dX9_period_7 : decode cX9_period 7 = .ok (.ireturn, 1) := by decide +kernel
theorem dX9_gap_0 : decode cX9_gap 0 = .ok (.aload_n 0, 1) := by decide +kernel
theorem dX9_gap_1 : decode cX9_gap 1 = .ok (.getfield 30, 3) := by decide +kernel
theorem dX9_gap_4 : decode cX9_gap 4 = .ok (.iload_n 1, 1) := by decide +kernel
theorem dX9_gap_5 : decode cX9_gap 5 = .ok (.invokevirtual 144, 3) := by decide +kernel
theorem dX9_gap_8 : decode cX9_gap 8 = .ok (.ifCond .ne 5, 3) := by decide +kernel
theorem dX9_gap_11 : decode cX9_gap 11 = .ok (.iconst (-1), 1) := by decide +kernel
theorem dX9_gap_12 : decode cX9_gap 12 = .ok (.ireturn, 1) := by decide +kernel
theorem dX9_gap_13 : decode cX9_gap 13 = .ok (.aload_n 0, 1) := by decide +kernel
theorem dX9_gap_14 : decode cX9_gap 14 = .ok (.getfield 55, 3) := by decide +kernel
theorem dX9_gap_17 : decode cX9_gap 17 = .ok (.invokevirtual 209, 3) := by decide +kernel
theorem dX9_gap_20 : decode cX9_gap 20 = .ok (.aload_n 0, 1) := by decide +kernel
theorem dX9_gap_21 : decode cX9_gap 21 = .ok (.getfield 55, 3) := by decide +kernel
theorem dX9_gap_24 : decode cX9_gap 24 = .ok (.iload_n 1, 1) := by decide +kernel
theorem dX9_gap_25 : decode cX9_gap 25 = .ok (.invokevirtual 210, 3) := by decide +kernel
theorem dX9_gap_28 : decode cX9_gap 28 = .ok (.ireturn, 1) := by decide +kernel
theorem dX9_worst_0 : decode cX9_worst 0 = .ok (.aload_n 0, 1) := by decide +kernel
theorem dX9_worst_1 : decode cX9_worst 1 = .ok (.getfield 55, 3) := by decide +kernel
theorem dX9_worst_4 : decode cX9_worst 4 = .ok (.invokevirtual 209, 3) := by decide +kernel
theorem dX9_worst_7 : decode cX9_worst 7 = .ok (.aload_n 0, 1) := by decide +kernel
theorem dX9_worst_8 : decode cX9_worst 8 = .ok (.getfield 55, 3) := by decide +kernel
theorem dX9_worst_11 : decode cX9_worst 11 = .ok (.invokevirtual 213, 3) := by decide +kernel
theorem dX9_worst_14 : decode cX9_worst 14 = .ok (.ireturn, 1) := by decide +kernel
theorem dX9_arrange_0 : decode cX9_arrange 0 = .ok (.aload_n 0, 1) := by decide +kernel
theorem dX9_arrange_1 : decode cX9_arrange 1 = .ok (.getfield 55, 3) := by decide +kernel
theorem dX9_arrange_4 : decode cX9_arrange 4 = .ok (.invokevirtual 209, 3) := by decide +kernel
theorem dX9_arrange_7 : decode cX9_arrange 7 = .ok (.aload_n 0, 1) := by decide +kernel
theorem dX9_arrange_8 : decode cX9_arrange 8 = .ok (.getfield 55, 3) := by decide +kernel
theorem dX9_arrange_11 : decode cX9_arrange 11 = .ok (.invokevirtual 216, 3) := by decide +kernel
theorem dX9_arrange_14 : decode cX9_arrange 14 = .ok (.ireturn, 1) := by decide +kernel
theorem dX9_theft_0 : decode cX9_theft 0 = .ok (.aload_n 0, 1) := by decide +kernel
theorem dX9_theft_1 : decode cX9_theft 1 = .ok (.getfield 30, 3) := by decide +kernel
theorem dX9_theft_4 : decode cX9_theft 4 = .ok (.iload_n 1, 1) := by decide +kernel
theorem dX9_theft_5 : decode cX9_theft 5 = .ok (.invokevirtual 144, 3) := by decide +kernel
theorem dX9_theft_8 : decode cX9_theft 8 = .ok (.ifCond .eq 14, 3) := by decide +kernel
theorem dX9_theft_11 : decode cX9_theft 11 = .ok (.aload_n 0, 1) := by decide +kernel
theorem dX9_theft_12 : decode cX9_theft 12 = .ok (.getfield 12, 3) := by decide +kernel
theorem dX9_theft_15 : decode cX9_theft 15 = .ok (.iload_n 2, 1) := by decide +kernel
theorem dX9_theft_16 : decode cX9_theft 16 = .ok (.invokevirtual 100, 3) := by decide +kernel
theorem dX9_theft_19 : decode cX9_theft 19 = .ok (.ifCond .ne 5, 3) := by decide +kernel
theorem dX9_theft_22 : decode cX9_theft 22 = .ok (.iconst (-1), 1) := by decide +kernel
theorem dX9_theft_23 : decode cX9_theft 23 = .ok (.ireturn, 1) := by decide +kernel
theorem dX9_theft_24 : decode cX9_theft 24 = .ok (.iload_n 3, 1) := by decide +kernel
theorem dX9_theft_25 : decode cX9_theft 25 = .ok (.invokestatic 200, 3) := by decide +kernel
theorem dX9_theft_28 : decode cX9_theft 28 = .ok (.ifCond .ne 6, 3) := by decide +kernel
theorem dX9_theft_31 : decode cX9_theft 31 = .ok (.bipush (-2), 2) := by decide +kernel
theorem dX9_theft_33 : decode cX9_theft 33 = .ok (.ireturn, 1) := by decide +kernel
theorem dX9_theft_34 : decode cX9_theft 34 = .ok (.aload_n 0, 1) := by decide +kernel
theorem dX9_theft_35 : decode cX9_theft 35 = .ok (.getfield 76, 3) := by decide +kernel
theorem dX9_theft_38 : decode cX9_theft 38 = .ok (.invokevirtual 219, 3) := by decide +kernel
theorem dX9_theft_41 : decode cX9_theft 41 = .ok (.aload_n 0, 1) := by decide +kernel
theorem dX9_theft_42 : decode cX9_theft 42 = .ok (.getfield 76, 3) := by decide +kernel
theorem dX9_theft_45 : decode cX9_theft 45 = .ok (.aload_n 0, 1) := by decide +kernel
theorem dX9_theft_46 : decode cX9_theft 46 = .ok (.getfield 30, 3) := by decide +kernel
theorem dX9_theft_49 : decode cX9_theft 49 = .ok (.iload_n 1, 1) := by decide +kernel
theorem dX9_theft_50 : decode cX9_theft 50 = .ok (.invokevirtual 147, 3) := by decide +kernel
theorem dX9_theft_53 : decode cX9_theft 53 = .ok (.iload_n 2, 1) := by decide +kernel
theorem dX9_theft_54 : decode cX9_theft 54 = .ok (.iload_n 3, 1) := by decide +kernel
theorem dX9_theft_55 : decode cX9_theft 55 = .ok (.invokevirtual 220, 3) := by decide +kernel
theorem dX9_theft_58 : decode cX9_theft 58 = .ok (.ireturn, 1) := by decide +kernel
theorem dX9_theftStep_0 : decode cX9_theftStep 0 = .ok (.aload_n 0, 1) := by decide +kernel
theorem dX9_theftStep_1 : decode cX9_theftStep 1 = .ok (.getfield 30, 3) := by decide +kernel
theorem dX9_theftStep_4 : decode cX9_theftStep 4 = .ok (.iload_n 1, 1) := by decide +kernel
theorem dX9_theftStep_5 : decode cX9_theftStep 5 = .ok (.invokevirtual 144, 3) := by decide +kernel
theorem dX9_theftStep_8 : decode cX9_theftStep 8 = .ok (.ifCond .eq 14, 3) := by decide +kernel
theorem dX9_theftStep_11 : decode cX9_theftStep 11 = .ok (.aload_n 0, 1) := by decide +kernel
theorem dX9_theftStep_12 : decode cX9_theftStep 12 = .ok (.getfield 12, 3) := by decide +kernel
theorem dX9_theftStep_15 : decode cX9_theftStep 15 = .ok (.iload_n 2, 1) := by decide +kernel
theorem dX9_theftStep_16 : decode cX9_theftStep 16 = .ok (.invokevirtual 100, 3) := by decide +kernel
theorem dX9_theftStep_19 : decode cX9_theftStep 19 = .ok (.ifCond .ne 5, 3) := by decide +kernel
theorem dX9_theftStep_22 : decode cX9_theftStep 22 = .ok (.iconst (-1), 1) := by decide +kernel
theorem dX9_theftStep_23 : decode cX9_theftStep 23 = .ok (.ireturn, 1) := by decide +kernel
theorem dX9_theftStep_24 : decode cX9_theftStep 24 = .ok (.iload_n 3, 1) := by decide +kernel
theorem dX9_theftStep_25 : decode cX9_theftStep 25 = .ok (.invokestatic 200, 3) := by decide +kernel
theorem dX9_theftStep_28 : decode cX9_theftStep 28 = .ok (.ifCond .ne 6, 3) := by decide +kernel
theorem dX9_theftStep_31 : decode cX9_theftStep 31 = .ok (.bipush (-2), 2) := by decide +kernel
theorem dX9_theftStep_33 : decode cX9_theftStep 33 = .ok (.ireturn, 1) := by decide +kernel
theorem dX9_theftStep_34 : decode cX9_theftStep 34 = .ok (.aload_n 0, 1) := by decide +kernel
theorem dX9_theftStep_35 : decode cX9_theftStep 35 = .ok (.getfield 76, 3) := by decide +kernel
theorem dX9_theftStep_38 : decode cX9_theftStep 38 = .ok (.invokevirtual 219, 3) := by decide +kernel
theorem dX9_theftStep_41 : decode cX9_theftStep 41 = .ok (.aload_n 0, 1) := by decide +kernel
theorem dX9_theftStep_42 : decode cX9_theftStep 42 = .ok (.getfield 76, 3) := by decide +kernel
theorem dX9_theftStep_45 : decode cX9_theftStep 45 = .ok (.aload_n 0, 1) := by decide +kernel
theorem dX9_theftStep_46 : decode cX9_theftStep 46 = .ok (.getfield 30, 3) := by decide +kernel
theorem dX9_theftStep_49 : decode cX9_theftStep 49 = .ok (.iload_n 1, 1) := by decide +kernel
theorem dX9_theftStep_50 : decode cX9_theftStep 50 = .ok (.invokevirtual 147, 3) := by decide +kernel
theorem dX9_theftStep_53 : decode cX9_theftStep 53 = .ok (.iload_n 2, 1) := by decide +kernel
theorem dX9_theftStep_54 : decode cX9_theftStep 54 = .ok (.iload_n 3, 1) := by decide +kernel
theorem dX9_theftStep_55 : decode cX9_theftStep 55 = .ok (.iload 4, 2) := by decide +kernel
theorem dX9_theftStep_57 : decode cX9_theftStep 57 = .ok (.invokevirtual 224, 3) := by decide +kernel
theorem dX9_theftStep_60 : decode cX9_theftStep 60 = .ok (.ireturn, 1) := by decide +kernel
theorem dX9_hours_0 : decode cX9_hours 0 = .ok (.aload_n 0, 1) := by decide +kernel
theorem dX9_hours_1 : decode cX9_hours 1 = .ok (.getfield 30, 3) := by decide +kernel
theorem dX9_hours_4 : decode cX9_hours 4 = .ok (.iload_n 1, 1) := by decide +kernel
theorem dX9_hours_5 : decode cX9_hours 5 = .ok (.invokevirtual 144, 3) := by decide +kernel
theorem dX9_hours_8 : decode cX9_hours 8 = .ok (.ifCond .eq 14, 3) := by decide +kernel
theorem dX9_hours_11 : decode cX9_hours 11 = .ok (.aload_n 0, 1) := by decide +kernel
theorem dX9_hours_12 : decode cX9_hours 12 = .ok (.getfield 12, 3) := by decide +kernel
theorem dX9_hours_15 : decode cX9_hours 15 = .ok (.iload_n 2, 1) := by decide +kernel
theorem dX9_hours_16 : decode cX9_hours 16 = .ok (.invokevirtual 100, 3) := by decide +kernel
theorem dX9_hours_19 : decode cX9_hours 19 = .ok (.ifCond .ne 5, 3) := by decide +kernel
theorem dX9_hours_22 : decode cX9_hours 22 = .ok (.iconst (-1), 1) := by decide +kernel
theorem dX9_hours_23 : decode cX9_hours 23 = .ok (.ireturn, 1) := by decide +kernel
theorem dX9_hours_24 : decode cX9_hours 24 = .ok (.aload_n 0, 1) := by decide +kernel
theorem dX9_hours_25 : decode cX9_hours 25 = .ok (.getfield 76, 3) := by decide +kernel
theorem dX9_hours_28 : decode cX9_hours 28 = .ok (.invokevirtual 219, 3) := by decide +kernel
theorem dX9_hours_31 : decode cX9_hours 31 = .ok (.aload_n 0, 1) := by decide +kernel
theorem dX9_hours_32 : decode cX9_hours 32 = .ok (.getfield 76, 3) := by decide +kernel
theorem dX9_hours_35 : decode cX9_hours 35 = .ok (.aload_n 0, 1) := by decide +kernel
theorem dX9_hours_36 : decode cX9_hours 36 = .ok (.getfield 30, 3) := by decide +kernel
theorem dX9_hours_39 : decode cX9_hours 39 = .ok (.iload_n 1, 1) := by decide +kernel
theorem dX9_hours_40 : decode cX9_hours 40 = .ok (.invokevirtual 147, 3) := by decide +kernel
theorem dX9_hours_43 : decode cX9_hours 43 = .ok (.iload_n 2, 1) := by decide +kernel
theorem dX9_hours_44 : decode cX9_hours 44 = .ok (.invokevirtual 228, 3) := by decide +kernel
theorem dX9_hours_47 : decode cX9_hours 47 = .ok (.ireturn, 1) := by decide +kernel
theorem dX9_turn_0 : decode cX9_turn 0 = .ok (.iconst 0, 1) := by decide +kernel
theorem dX9_turn_1 : decode cX9_turn 1 = .ok (.istore_n 1, 1) := by decide +kernel
theorem dX9_turn_2 : decode cX9_turn 2 = .ok (.iload_n 1, 1) := by decide +kernel
theorem dX9_turn_3 : decode cX9_turn 3 = .ok (.aload_n 0, 1) := by decide +kernel
theorem dX9_turn_4 : decode cX9_turn 4 = .ok (.getfield 12, 3) := by decide +kernel
theorem dX9_turn_7 : decode cX9_turn 7 = .ok (.invokevirtual 96, 3) := by decide +kernel
theorem dX9_turn_10 : decode cX9_turn 10 = .ok (.if_icmp .ge 23, 3) := by decide +kernel
theorem dX9_turn_13 : decode cX9_turn 13 = .ok (.aload_n 0, 1) := by decide +kernel
theorem dX9_turn_14 : decode cX9_turn 14 = .ok (.getfield 80, 3) := by decide +kernel
theorem dX9_turn_17 : decode cX9_turn 17 = .ok (.iload_n 1, 1) := by decide +kernel
theorem dX9_turn_18 : decode cX9_turn 18 = .ok (.aload_n 0, 1) := by decide +kernel
theorem dX9_turn_19 : decode cX9_turn 19 = .ok (.getfield 12, 3) := by decide +kernel
theorem dX9_turn_22 : decode cX9_turn 22 = .ok (.iload_n 1, 1) := by decide +kernel
theorem dX9_turn_23 : decode cX9_turn 23 = .ok (.invokevirtual 231, 3) := by decide +kernel
theorem dX9_turn_26 : decode cX9_turn 26 = .ok (.iastore, 1) := by decide +kernel
theorem dX9_turn_27 : decode cX9_turn 27 = .ok (.iinc 1 1, 3) := by decide +kernel
theorem dX9_turn_30 : decode cX9_turn 30 = .ok (.goto (-28), 3) := by decide +kernel
theorem dX9_turn_33 : decode cX9_turn 33 = .ok (.aload_n 0, 1) := by decide +kernel
theorem dX9_turn_34 : decode cX9_turn 34 = .ok (.getfield 30, 3) := by decide +kernel
theorem dX9_turn_37 : decode cX9_turn 37 = .ok (.aload_n 0, 1) := by decide +kernel
theorem dX9_turn_38 : decode cX9_turn 38 = .ok (.getfield 80, 3) := by decide +kernel
theorem dX9_turn_41 : decode cX9_turn 41 = .ok (.invokevirtual 234, 3) := by decide +kernel
theorem dX9_turn_44 : decode cX9_turn 44 = .ok (.aload_n 0, 1) := by decide +kernel
theorem dX9_turn_45 : decode cX9_turn 45 = .ok (.getfield 30, 3) := by decide +kernel
theorem dX9_turn_48 : decode cX9_turn 48 = .ok (.invokevirtual 238, 3) := by decide +kernel
theorem dX9_turn_51 : decode cX9_turn 51 = .ok (.aload_n 0, 1) := by decide +kernel
theorem dX9_turn_52 : decode cX9_turn 52 = .ok (.getfield 37, 3) := by decide +kernel
theorem dX9_turn_55 : decode cX9_turn 55 = .ok (.aload_n 0, 1) := by decide +kernel
theorem dX9_turn_56 : decode cX9_turn 56 = .ok (.getfield 80, 3) := by decide +kernel
theorem dX9_turn_59 : decode cX9_turn 59 = .ok (.invokevirtual 241, 3) := by decide +kernel
theorem dX9_turn_62 : decode cX9_turn 62 = .ok (.aload_n 0, 1) := by decide +kernel
theorem dX9_turn_63 : decode cX9_turn 63 = .ok (.getfield 12, 3) := by decide +kernel
theorem dX9_turn_66 : decode cX9_turn 66 = .ok (.aload_n 0, 1) := by decide +kernel
theorem dX9_turn_67 : decode cX9_turn 67 = .ok (.getfield 80, 3) := by decide +kernel
theorem dX9_turn_70 : decode cX9_turn 70 = .ok (.aload_n 0, 1) := by decide +kernel
theorem dX9_turn_71 : decode cX9_turn 71 = .ok (.getfield 12, 3) := by decide +kernel
theorem dX9_turn_74 : decode cX9_turn 74 = .ok (.invokevirtual 242, 3) := by decide +kernel
theorem dX9_turn_77 : decode cX9_turn 77 = .ok (.aload_n 0, 1) := by decide +kernel
theorem dX9_turn_78 : decode cX9_turn 78 = .ok (.getfield 12, 3) := by decide +kernel
theorem dX9_turn_81 : decode cX9_turn 81 = .ok (.invokevirtual 245, 3) := by decide +kernel
theorem dX9_turn_84 : decode cX9_turn 84 = .ok (.invokevirtual 248, 3) := by decide +kernel
theorem dX9_turn_87 : decode cX9_turn 87 = .ok (.pop, 1) := by decide +kernel
theorem dX9_turn_88 : decode cX9_turn 88 = .ok (.aload_n 0, 1) := by decide +kernel
theorem dX9_turn_89 : decode cX9_turn 89 = .ok (.getfield 12, 3) := by decide +kernel
theorem dX9_turn_92 : decode cX9_turn 92 = .ok (.invokevirtual 245, 3) := by decide +kernel
theorem dX9_turn_95 : decode cX9_turn 95 = .ok (.ireturn, 1) := by decide +kernel
theorem dX9_mirror_0 : decode cX9_mirror 0 = .ok (.iconst 0, 1) := by decide +kernel
theorem dX9_mirror_1 : decode cX9_mirror 1 = .ok (.istore_n 1, 1) := by decide +kernel
theorem dX9_mirror_2 : decode cX9_mirror 2 = .ok (.iload_n 1, 1) := by decide +kernel
theorem dX9_mirror_3 : decode cX9_mirror 3 = .ok (.aload_n 0, 1) := by decide +kernel
theorem dX9_mirror_4 : decode cX9_mirror 4 = .ok (.getfield 12, 3) := by decide +kernel
theorem dX9_mirror_7 : decode cX9_mirror 7 = .ok (.invokevirtual 96, 3) := by decide +kernel
theorem dX9_mirror_10 : decode cX9_mirror 10 = .ok (.if_icmp .ge 23, 3) := by decide +kernel
theorem dX9_mirror_13 : decode cX9_mirror 13 = .ok (.aload_n 0, 1) := by decide +kernel
theorem dX9_mirror_14 : decode cX9_mirror 14 = .ok (.getfield 80, 3) := by decide +kernel
theorem dX9_mirror_17 : decode cX9_mirror 17 = .ok (.iload_n 1, 1) := by decide +kernel
theorem dX9_mirror_18 : decode cX9_mirror 18 = .ok (.aload_n 0, 1) := by decide +kernel
theorem dX9_mirror_19 : decode cX9_mirror 19 = .ok (.getfield 12, 3) := by decide +kernel
theorem dX9_mirror_22 : decode cX9_mirror 22 = .ok (.iload_n 1, 1) := by decide +kernel
theorem dX9_mirror_23 : decode cX9_mirror 23 = .ok (.invokevirtual 251, 3) := by decide +kernel
theorem dX9_mirror_26 : decode cX9_mirror 26 = .ok (.iastore, 1) := by decide +kernel
theorem dX9_mirror_27 : decode cX9_mirror 27 = .ok (.iinc 1 1, 3) := by decide +kernel
theorem dX9_mirror_30 : decode cX9_mirror 30 = .ok (.goto (-28), 3) := by decide +kernel
theorem dX9_mirror_33 : decode cX9_mirror 33 = .ok (.aload_n 0, 1) := by decide +kernel
theorem dX9_mirror_34 : decode cX9_mirror 34 = .ok (.getfield 30, 3) := by decide +kernel
theorem dX9_mirror_37 : decode cX9_mirror 37 = .ok (.aload_n 0, 1) := by decide +kernel
theorem dX9_mirror_38 : decode cX9_mirror 38 = .ok (.getfield 80, 3) := by decide +kernel
theorem dX9_mirror_41 : decode cX9_mirror 41 = .ok (.invokevirtual 234, 3) := by decide +kernel
theorem dX9_mirror_44 : decode cX9_mirror 44 = .ok (.aload_n 0, 1) := by decide +kernel
theorem dX9_mirror_45 : decode cX9_mirror 45 = .ok (.getfield 30, 3) := by decide +kernel
theorem dX9_mirror_48 : decode cX9_mirror 48 = .ok (.invokevirtual 254, 3) := by decide +kernel
theorem dX9_mirror_51 : decode cX9_mirror 51 = .ok (.aload_n 0, 1) := by decide +kernel
theorem dX9_mirror_52 : decode cX9_mirror 52 = .ok (.getfield 37, 3) := by decide +kernel
theorem dX9_mirror_55 : decode cX9_mirror 55 = .ok (.aload_n 0, 1) := by decide +kernel
theorem dX9_mirror_56 : decode cX9_mirror 56 = .ok (.getfield 80, 3) := by decide +kernel
theorem dX9_mirror_59 : decode cX9_mirror 59 = .ok (.invokevirtual 241, 3) := by decide +kernel
theorem dX9_mirror_62 : decode cX9_mirror 62 = .ok (.aload_n 0, 1) := by decide +kernel
theorem dX9_mirror_63 : decode cX9_mirror 63 = .ok (.getfield 12, 3) := by decide +kernel
theorem dX9_mirror_66 : decode cX9_mirror 66 = .ok (.aload_n 0, 1) := by decide +kernel
theorem dX9_mirror_67 : decode cX9_mirror 67 = .ok (.getfield 80, 3) := by decide +kernel
theorem dX9_mirror_70 : decode cX9_mirror 70 = .ok (.aload_n 0, 1) := by decide +kernel
theorem dX9_mirror_71 : decode cX9_mirror 71 = .ok (.getfield 12, 3) := by decide +kernel
theorem dX9_mirror_74 : decode cX9_mirror 74 = .ok (.invokevirtual 245, 3) := by decide +kernel
theorem dX9_mirror_77 : decode cX9_mirror 77 = .ok (.aload_n 0, 1) := by decide +kernel
theorem dX9_mirror_78 : decode cX9_mirror 78 = .ok (.getfield 12, 3) := by decide +kernel
theorem dX9_mirror_81 : decode cX9_mirror 81 = .ok (.invokevirtual 242, 3) := by decide +kernel
theorem dX9_mirror_84 : decode cX9_mirror 84 = .ok (.invokevirtual 248, 3) := by decide +kernel
theorem dX9_mirror_87 : decode cX9_mirror 87 = .ok (.ireturn, 1) := by decide +kernel
theorem dX9_count_0 : decode cX9_count 0 = .ok (.iload_n 1, 1) := by decide +kernel
theorem dX9_count_1 : decode cX9_count 1 = .ok (.tableswitch 78 0 4 #[35, 43, 51, 59, 67], 35) := by decide +kernel
theorem dX9_count_36 : decode cX9_count 36 = .ok (.aload_n 0, 1) := by decide +kernel
theorem dX9_count_37 : decode cX9_count 37 = .ok (.getfield 12, 3) := by decide +kernel
theorem dX9_count_40 : decode cX9_count 40 = .ok (.invokevirtual 245, 3) := by decide +kernel
theorem dX9_count_43 : decode cX9_count 43 = .ok (.ireturn, 1) := by decide +kernel
theorem dX9_count_44 : decode cX9_count 44 = .ok (.aload_n 0, 1) := by decide +kernel
theorem dX9_count_45 : decode cX9_count 45 = .ok (.getfield 12, 3) := by decide +kernel
theorem dX9_count_48 : decode cX9_count 48 = .ok (.invokevirtual 242, 3) := by decide +kernel
theorem dX9_count_51 : decode cX9_count 51 = .ok (.ireturn, 1) := by decide +kernel
theorem dX9_count_52 : decode cX9_count 52 = .ok (.aload_n 0, 1) := by decide +kernel
theorem dX9_count_53 : decode cX9_count 53 = .ok (.getfield 30, 3) := by decide +kernel
theorem dX9_count_56 : decode cX9_count 56 = .ok (.invokevirtual 257, 3) := by decide +kernel
theorem dX9_count_59 : decode cX9_count 59 = .ok (.ireturn, 1) := by decide +kernel
theorem dX9_count_60 : decode cX9_count 60 = .ok (.aload_n 0, 1) := by decide +kernel
theorem dX9_count_61 : decode cX9_count 61 = .ok (.getfield 37, 3) := by decide +kernel
theorem dX9_count_64 : decode cX9_count 64 = .ok (.invokevirtual 258, 3) := by decide +kernel
theorem dX9_count_67 : decode cX9_count 67 = .ok (.ireturn, 1) := by decide +kernel
theorem dX9_count_68 : decode cX9_count 68 = .ok (.aload_n 0, 1) := by decide +kernel
theorem dX9_count_69 : decode cX9_count 69 = .ok (.getfield 12, 3) := by decide +kernel
theorem dX9_count_72 : decode cX9_count 72 = .ok (.invokevirtual 261, 3) := by decide +kernel
theorem dX9_count_75 : decode cX9_count 75 = .ok (.invokestatic 132, 3) := by decide +kernel
theorem dX9_count_78 : decode cX9_count 78 = .ok (.ireturn, 1) := by decide +kernel
theorem dX9_count_79 : decode cX9_count 79 = .ok (.bipush (-2), 2) := by decide +kernel
theorem dX9_count_81 : decode cX9_count 81 = .ok (.ireturn, 1) := by decide +kernel
theorem dX9_isSide_0 : decode cX9_isSide 0 = .ok (.iload_n 0, 1) := by decide +kernel
theorem dX9_isSide_1 : decode cX9_isSide 1 = .ok (.iconst 2, 1) := by decide +kernel
theorem dX9_isSide_2 : decode cX9_isSide 2 = .ok (.if_icmp .lt 13, 3) := by decide +kernel
theorem dX9_isSide_5 : decode cX9_isSide 5 = .ok (.iload_n 0, 1) := by decide +kernel
theorem dX9_isSide_6 : decode cX9_isSide 6 = .ok (.bipush 8, 2) := by decide +kernel
theorem dX9_isSide_8 : decode cX9_isSide 8 = .ok (.if_icmp .gt 7, 3) := by decide +kernel
theorem dX9_isSide_11 : decode cX9_isSide 11 = .ok (.iconst 1, 1) := by decide +kernel
theorem dX9_isSide_12 : decode cX9_isSide 12 = .ok (.goto 4, 3) := by decide +kernel
theorem dX9_isSide_15 : decode cX9_isSide 15 = .ok (.iconst 0, 1) := by decide +kernel
theorem dX9_isSide_16 : decode cX9_isSide 16 = .ok (.ireturn, 1) := by decide +kernel
theorem dX9_isWatcher_0 : decode cX9_isWatcher 0 = .ok (.iload_n 0, 1) := by decide +kernel
theorem dX9_isWatcher_1 : decode cX9_isWatcher 1 = .ok (.ifCond .lt 12, 3) := by decide +kernel
theorem dX9_isWatcher_4 : decode cX9_isWatcher 4 = .ok (.iload_n 0, 1) := by decide +kernel
theorem dX9_isWatcher_5 : decode cX9_isWatcher 5 = .ok (.iconst 4, 1) := by decide +kernel
theorem dX9_isWatcher_6 : decode cX9_isWatcher 6 = .ok (.if_icmp .ge 7, 3) := by decide +kernel
theorem dX9_isWatcher_9 : decode cX9_isWatcher 9 = .ok (.iconst 1, 1) := by decide +kernel
theorem dX9_isWatcher_10 : decode cX9_isWatcher 10 = .ok (.goto 4, 3) := by decide +kernel
theorem dX9_isWatcher_13 : decode cX9_isWatcher 13 = .ok (.iconst 0, 1) := by decide +kernel
theorem dX9_isWatcher_14 : decode cX9_isWatcher 14 = .ok (.ireturn, 1) := by decide +kernel
theorem dX9_isTime_0 : decode cX9_isTime 0 = .ok (.iload_n 0, 1) := by decide +kernel
theorem dX9_isTime_1 : decode cX9_isTime 1 = .ok (.ifCond .lt 14, 3) := by decide +kernel
theorem dX9_isTime_4 : decode cX9_isTime 4 = .ok (.iload_n 0, 1) := by decide +kernel
theorem dX9_isTime_5 : decode cX9_isTime 5 = .ok (.sipush 9999, 3) := by decide +kernel
theorem dX9_isTime_8 : decode cX9_isTime 8 = .ok (.if_icmp .gt 7, 3) := by decide +kernel
theorem dX9_isTime_11 : decode cX9_isTime 11 = .ok (.iconst 1, 1) := by decide +kernel
theorem dX9_isTime_12 : decode cX9_isTime 12 = .ok (.goto 4, 3) := by decide +kernel
theorem dX9_isTime_15 : decode cX9_isTime 15 = .ok (.iconst 0, 1) := by decide +kernel
theorem dX9_isTime_16 : decode cX9_isTime 16 = .ok (.ireturn, 1) := by decide +kernel
theorem dX9_yesOrNo_0 : decode cX9_yesOrNo 0 = .ok (.iload_n 0, 1) := by decide +kernel
theorem dX9_yesOrNo_1 : decode cX9_yesOrNo 1 = .ok (.ifCond .eq 7, 3) := by decide +kernel
theorem dX9_yesOrNo_4 : decode cX9_yesOrNo 4 = .ok (.iconst 1, 1) := by decide +kernel
theorem dX9_yesOrNo_5 : decode cX9_yesOrNo 5 = .ok (.goto 4, 3) := by decide +kernel
theorem dX9_yesOrNo_8 : decode cX9_yesOrNo 8 = .ok (.iconst 0, 1) := by decide +kernel
theorem dX9_yesOrNo_9 : decode cX9_yesOrNo 9 = .ok (.ireturn, 1) := by decide +kernel
theorem dX9_holds_0 : decode cX9_holds 0 = .ok (.lload_n 0, 1) := by decide +kernel
theorem dX9_holds_1 : decode cX9_holds 1 = .ok (.iload_n 2, 1) := by decide +kernel
theorem dX9_holds_2 : decode cX9_holds 2 = .ok (.lushr, 1) := by decide +kernel
theorem dX9_holds_3 : decode cX9_holds 3 = .ok (.lconst 1, 1) := by decide +kernel
theorem dX9_holds_4 : decode cX9_holds 4 = .ok (.land, 1) := by decide +kernel
theorem dX9_holds_5 : decode cX9_holds 5 = .ok (.lconst 0, 1) := by decide +kernel
theorem dX9_holds_6 : decode cX9_holds 6 = .ok (.lcmp, 1) := by decide +kernel
theorem dX9_holds_7 : decode cX9_holds 7 = .ok (.ifCond .eq 7, 3) := by decide +kernel
theorem dX9_holds_10 : decode cX9_holds 10 = .ok (.iconst 1, 1) := by decide +kernel
theorem dX9_holds_11 : decode cX9_holds 11 = .ok (.goto 4, 3) := by decide +kernel
theorem dX9_holds_14 : decode cX9_holds 14 = .ok (.iconst 0, 1) := by decide +kernel
theorem dX9_holds_15 : decode cX9_holds 15 = .ok (.ireturn, 1) := by decide +kernel
theorem dX10_init_0 : decode cX10_init 0 = .ok (.aload_n 0, 1) := by decide +kernel
theorem dX10_init_1 : decode cX10_init 1 = .ok (.invokespecial 1, 3) := by decide +kernel
theorem dX10_init_4 : decode cX10_init 4 = .ok (.aload_n 0, 1) := by decide +kernel
theorem dX10_init_5 : decode cX10_init 5 = .ok (.bipush 64, 2) := by decide +kernel
theorem dX10_init_7 : decode cX10_init 7 = .ok (.newarray .int, 2) := by decide +kernel
theorem dX10_init_9 : decode cX10_init 9 = .ok (.putfield 7, 3) := by decide +kernel
theorem dX10_init_12 : decode cX10_init 12 = .ok (.aload_n 0, 1) := by decide +kernel
theorem dX10_init_13 : decode cX10_init 13 = .ok (.iconst 2, 1) := by decide +kernel
theorem dX10_init_14 : decode cX10_init 14 = .ok (.putfield 13, 3) := by decide +kernel
theorem dX10_init_17 : decode cX10_init 17 = .ok (.aload_n 0, 1) := by decide +kernel
theorem dX10_init_18 : decode cX10_init 18 = .ok (.bipush 8, 2) := by decide +kernel
theorem dX10_init_20 : decode cX10_init 20 = .ok (.putfield 17, 3) := by decide +kernel
theorem dX10_init_23 : decode cX10_init 23 = .ok (.aload_n 0, 1) := by decide +kernel
theorem dX10_init_24 : decode cX10_init 24 = .ok (.ldc 20, 2) := by decide +kernel
theorem dX10_init_26 : decode cX10_init 26 = .ok (.newarray .int, 2) := by decide +kernel
theorem dX10_init_28 : decode cX10_init 28 = .ok (.putfield 21, 3) := by decide +kernel
theorem dX10_init_31 : decode cX10_init 31 = .ok (.aload_n 0, 1) := by decide +kernel
theorem dX10_init_32 : decode cX10_init 32 = .ok (.bipush 64, 2) := by decide +kernel
theorem dX10_init_34 : decode cX10_init 34 = .ok (.newarray .int, 2) := by decide +kernel
theorem dX10_init_36 : decode cX10_init 36 = .ok (.putfield 24, 3) := by decide +kernel
theorem dX10_init_39 : decode cX10_init 39 = .ok (.aload_n 0, 1) := by decide +kernel
theorem dX10_init_40 : decode cX10_init 40 = .ok (.bipush 8, 2) := by decide +kernel
theorem dX10_init_42 : decode cX10_init 42 = .ok (.newarray .int, 2) := by decide +kernel
theorem dX10_init_44 : decode cX10_init 44 = .ok (.putfield 27, 3) := by decide +kernel
theorem dX10_init_47 : decode cX10_init 47 = .ok (.aload_n 0, 1) := by decide +kernel
theorem dX10_init_48 : decode cX10_init 48 = .ok (.bipush 8, 2) := by decide +kernel
theorem dX10_init_50 : decode cX10_init 50 = .ok (.newarray .int, 2) := by decide +kernel
theorem dX10_init_52 : decode cX10_init 52 = .ok (.putfield 30, 3) := by decide +kernel
theorem dX10_init_55 : decode cX10_init 55 = .ok (.aload_n 0, 1) := by decide +kernel
theorem dX10_init_56 : decode cX10_init 56 = .ok (.bipush 64, 2) := by decide +kernel
theorem dX10_init_58 : decode cX10_init 58 = .ok (.newarray .int, 2) := by decide +kernel
theorem dX10_init_60 : decode cX10_init 60 = .ok (.putfield 33, 3) := by decide +kernel
theorem dX10_init_63 : decode cX10_init 63 = .ok (.aload_n 0, 1) := by decide +kernel
theorem dX10_init_64 : decode cX10_init 64 = .ok (.sipush 16640, 3) := by decide +kernel
theorem dX10_init_67 : decode cX10_init 67 = .ok (.newarray .int, 2) := by decide +kernel
theorem dX10_init_69 : decode cX10_init 69 = .ok (.putfield 36, 3) := by decide +kernel
theorem dX10_init_72 : decode cX10_init 72 = .ok (.aload_n 0, 1) := by decide +kernel
theorem dX10_init_73 : decode cX10_init 73 = .ok (.bipush 8, 2) := by decide +kernel
theorem dX10_init_75 : decode cX10_init 75 = .ok (.newarray .int, 2) := by decide +kernel
theorem dX10_init_77 : decode cX10_init 77 = .ok (.putfield 39, 3) := by decide +kernel
theorem dX10_init_80 : decode cX10_init 80 = .ok (.aload_n 0, 1) := by decide +kernel
theorem dX10_init_81 : decode cX10_init 81 = .ok (.sipush 16384, 3) := by decide +kernel
theorem dX10_init_84 : decode cX10_init 84 = .ok (.newarray .int, 2) := by decide +kernel
theorem dX10_init_86 : decode cX10_init 86 = .ok (.putfield 42, 3) := by decide +kernel
theorem dX10_init_89 : decode cX10_init 89 = .ok (.aload_n 0, 1) := by decide +kernel
theorem dX10_init_90 : decode cX10_init 90 = .ok (.iconst 4, 1) := by decide +kernel
theorem dX10_init_91 : decode cX10_init 91 = .ok (.newarray .int, 2) := by decide +kernel
theorem dX10_init_93 : decode cX10_init 93 = .ok (.putfield 45, 3) := by decide +kernel
theorem dX10_init_96 : decode cX10_init 96 = .ok (.aload_n 0, 1) := by decide +kernel
theorem dX10_init_97 : decode cX10_init 97 = .ok (.bipush 24, 2) := by decide +kernel
theorem dX10_init_99 : decode cX10_init 99 = .ok (.newarray .int, 2) := by decide +kernel
theorem dX10_init_101 : decode cX10_init 101 = .ok (.putfield 48, 3) := by decide +kernel
theorem dX10_init_104 : decode cX10_init 104 = .ok (.aload_n 0, 1) := by decide +kernel
theorem dX10_init_105 : decode cX10_init 105 = .ok (.iconst 4, 1) := by decide +kernel
theorem dX10_init_106 : decode cX10_init 106 = .ok (.newarray .int, 2) := by decide +kernel
theorem dX10_init_108 : decode cX10_init 108 = .ok (.putfield 51, 3) := by decide +kernel
theorem dX10_init_111 : decode cX10_init 111 = .ok (.aload_n 0, 1) := by decide +kernel
theorem dX10_init_112 : decode cX10_init 112 = .ok (.sipush 8192, 3) := by decide +kernel
theorem dX10_init_115 : decode cX10_init 115 = .ok (.newarray .int, 2) := by decide +kernel
theorem dX10_init_117 : decode cX10_init 117 = .ok (.putfield 54, 3) := by decide +kernel
theorem dX10_init_120 : decode cX10_init 120 = .ok (.aload_n 0, 1) := by decide +kernel
theorem dX10_init_121 : decode cX10_init 121 = .ok (.sipush 4096, 3) := by decide +kernel
theorem dX10_init_124 : decode cX10_init 124 = .ok (.newarray .boolean, 2) := by decide +kernel
theorem dX10_init_126 : decode cX10_init 126 = .ok (.putfield 57, 3) := by decide +kernel
theorem dX10_init_129 : decode cX10_init 129 = .ok (.aload_n 0, 1) := by decide +kernel
theorem dX10_init_130 : decode cX10_init 130 = .ok (.bipush 64, 2) := by decide +kernel
theorem dX10_init_132 : decode cX10_init 132 = .ok (.newarray .int, 2) := by decide +kernel
theorem dX10_init_134 : decode cX10_init 134 = .ok (.putfield 61, 3) := by decide +kernel
theorem dX10_init_137 : decode cX10_init 137 = .ok (.aload_n 0, 1) := by decide +kernel
theorem dX10_init_138 : decode cX10_init 138 = .ok (.iconst 5, 1) := by decide +kernel
theorem dX10_init_139 : decode cX10_init 139 = .ok (.iconst 5, 1) := by decide +kernel
theorem dX10_init_140 : decode cX10_init 140 = .ok (.invokevirtual 64, 3) := by decide +kernel
theorem dX10_init_143 : decode cX10_init 143 = .ok (.return_, 1) := by decide +kernel
theorem dX10_in_0 : decode cX10_in 0 = .ok (.lload_n 0, 1) := by decide +kernel
theorem dX10_in_1 : decode cX10_in 1 = .ok (.lload_n 2, 1) := by decide +kernel
theorem dX10_in_2 : decode cX10_in 2 = .ok (.lcmp, 1) := by decide +kernel
theorem dX10_in_3 : decode cX10_in 3 = .ok (.ifCond .lt 14, 3) := by decide +kernel
theorem dX10_in_6 : decode cX10_in 6 = .ok (.lload_n 0, 1) := by decide +kernel
theorem dX10_in_7 : decode cX10_in 7 = .ok (.lload 4, 2) := by decide +kernel
theorem dX10_in_9 : decode cX10_in 9 = .ok (.lcmp, 1) := by decide +kernel
theorem dX10_in_10 : decode cX10_in 10 = .ok (.ifCond .gt 7, 3) := by decide +kernel
theorem dX10_in_13 : decode cX10_in 13 = .ok (.iconst 1, 1) := by decide +kernel
theorem dX10_in_14 : decode cX10_in 14 = .ok (.goto 4, 3) := by decide +kernel
theorem dX10_in_17 : decode cX10_in 17 = .ok (.iconst 0, 1) := by decide +kernel
theorem dX10_in_18 : decode cX10_in 18 = .ok (.ireturn, 1) := by decide +kernel
theorem dX10_layHall_0 : decode cX10_layHall 0 = .ok (.aload_n 0, 1) := by decide +kernel
theorem dX10_layHall_1 : decode cX10_layHall 1 = .ok (.iload_n 1, 1) := by decide +kernel
theorem dX10_layHall_2 : decode cX10_layHall 2 = .ok (.putfield 68, 3) := by decide +kernel
theorem dX10_layHall_5 : decode cX10_layHall 5 = .ok (.aload_n 0, 1) := by decide +kernel
theorem dX10_layHall_6 : decode cX10_layHall 6 = .ok (.iload_n 2, 1) := by decide +kernel
theorem dX10_layHall_7 : decode cX10_layHall 7 = .ok (.putfield 71, 3) := by decide +kernel
theorem dX10_layHall_10 : decode cX10_layHall 10 = .ok (.iconst 0, 1) := by decide +kernel
theorem dX10_layHall_11 : decode cX10_layHall 11 = .ok (.istore_n 3, 1) := by decide +kernel
theorem dX10_layHall_12 : decode cX10_layHall 12 = .ok (.iload_n 3, 1) := by decide +kernel
theorem dX10_layHall_13 : decode cX10_layHall 13 = .ok (.bipush 64, 2) := by decide +kernel
theorem dX10_layHall_15 : decode cX10_layHall 15 = .ok (.if_icmp .ge 16, 3) := by decide +kernel
theorem dX10_layHall_18 : decode cX10_layHall 18 = .ok (.aload_n 0, 1) := by decide +kernel
theorem dX10_layHall_19 : decode cX10_layHall 19 = .ok (.getfield 7, 3) := by decide +kernel
theorem dX10_layHall_22 : decode cX10_layHall 22 = .ok (.iload_n 3, 1) := by decide +kernel
theorem dX10_layHall_23 : decode cX10_layHall 23 = .ok (.iconst 0, 1) := by decide +kernel
theorem dX10_layHall_24 : decode cX10_layHall 24 = .ok (.iastore, 1) := by decide +kernel
theorem dX10_layHall_25 : decode cX10_layHall 25 = .ok (.iinc 3 1, 3) := by decide +kernel
theorem dX10_layHall_28 : decode cX10_layHall 28 = .ok (.goto (-16), 3) := by decide +kernel
theorem dX10_layHall_31 : decode cX10_layHall 31 = .ok (.aload_n 0, 1) := by decide +kernel
theorem dX10_layHall_32 : decode cX10_layHall 32 = .ok (.iconst 0, 1) := by decide +kernel
theorem dX10_layHall_33 : decode cX10_layHall 33 = .ok (.putfield 74, 3) := by decide +kernel
theorem dX10_layHall_36 : decode cX10_layHall 36 = .ok (.iconst 0, 1) := by decide +kernel
theorem dX10_layHall_37 : decode cX10_layHall 37 = .ok (.istore_n 3, 1) := by decide +kernel
theorem dX10_layHall_38 : decode cX10_layHall 38 = .ok (.iload_n 3, 1) := by decide +kernel
theorem dX10_layHall_39 : decode cX10_layHall 39 = .ok (.iconst 4, 1) := by decide +kernel
theorem dX10_layHall_40 : decode cX10_layHall 40 = .ok (.if_icmp .ge 23, 3) := by decide +kernel
theorem dX10_layHall_43 : decode cX10_layHall 43 = .ok (.aload_n 0, 1) := by decide +kernel
theorem dX10_layHall_44 : decode cX10_layHall 44 = .ok (.getfield 45, 3) := by decide +kernel
theorem dX10_layHall_47 : decode cX10_layHall 47 = .ok (.iload_n 3, 1) := by decide +kernel
theorem dX10_layHall_48 : decode cX10_layHall 48 = .ok (.iconst 0, 1) := by decide +kernel
theorem dX10_layHall_49 : decode cX10_layHall 49 = .ok (.iastore, 1) := by decide +kernel
theorem dX10_layHall_50 : decode cX10_layHall 50 = .ok (.aload_n 0, 1) := by decide +kernel
theorem dX10_layHall_51 : decode cX10_layHall 51 = .ok (.getfield 51, 3) := by decide +kernel
theorem dX10_layHall_54 : decode cX10_layHall 54 = .ok (.iload_n 3, 1) := by decide +kernel
theorem dX10_layHall_55 : decode cX10_layHall 55 = .ok (.iconst 0, 1) := by decide +kernel
theorem dX10_layHall_56 : decode cX10_layHall 56 = .ok (.iastore, 1) := by decide +kernel
theorem dX10_layHall_57 : decode cX10_layHall 57 = .ok (.iinc 3 1, 3) := by decide +kernel
theorem dX10_layHall_60 : decode cX10_layHall 60 = .ok (.goto (-22), 3) := by decide +kernel
theorem dX10_layHall_63 : decode cX10_layHall 63 = .ok (.return_, 1) := by decide +kernel
theorem dX10_isCell_0 : decode cX10_isCell 0 = .ok (.iload_n 1, 1) := by decide +kernel
theorem dX10_isCell_1 : decode cX10_isCell 1 = .ok (.i2l, 1) := by decide +kernel
theorem dX10_isCell_2 : decode cX10_isCell 2 = .ok (.lconst 0, 1) := by decide +kernel
theorem dX10_isCell_3 : decode cX10_isCell 3 = .ok (.aload_n 0, 1) := by decide +kernel
theorem dX10_isCell_4 : decode cX10_isCell 4 = .ok (.getfield 68, 3) := by decide +kernel
theorem dX10_isCell_7 : decode cX10_isCell 7 = .ok (.aload_n 0, 1) := by decide +kernel
theorem dX10_isCell_8 : decode cX10_isCell 8 = .ok (.getfield 71, 3) := by decide +kernel
theorem dX10_isCell_11 : decode cX10_isCell 11 = .ok (.imul, 1) := by decide +kernel
theorem dX10_isCell_12 : decode cX10_isCell 12 = .ok (.iconst 1, 1) := by decide +kernel
theorem dX10_isCell_13 : decode cX10_isCell 13 = .ok (.isub, 1) := by decide +kernel
theorem dX10_isCell_14 : decode cX10_isCell 14 = .ok (.i2l, 1) := by decide +kernel
theorem dX10_isCell_15 : decode cX10_isCell 15 = .ok (.invokestatic 77, 3) := by decide +kernel
theorem dX10_isCell_18 : decode cX10_isCell 18 = .ok (.ireturn, 1) := by decide +kernel
theorem dX10_stands_0 : decode cX10_stands 0 = .ok (.aload_n 0, 1) := by decide +kernel
theorem dX10_stands_1 : decode cX10_stands 1 = .ok (.getfield 7, 3) := by decide +kernel
theorem dX10_stands_4 : decode cX10_stands 4 = .ok (.iload_n 1, 1) := by decide +kernel
theorem dX10_stands_5 : decode cX10_stands 5 = .ok (.iaload, 1) := by decide +kernel
theorem dX10_stands_6 : decode cX10_stands 6 = .ok (.ifCond .eq 13, 3) := by decide +kernel
theorem dX10_stands_9 : decode cX10_stands 9 = .ok (.aload_n 0, 1) := by decide +kernel
theorem dX10_stands_10 : decode cX10_stands 10 = .ok (.getfield 7, 3) := by decide +kernel
theorem dX10_stands_13 : decode cX10_stands 13 = .ok (.iload_n 1, 1) := by decide +kernel
theorem dX10_stands_14 : decode cX10_stands 14 = .ok (.iaload, 1) := by decide +kernel
theorem dX10_stands_15 : decode cX10_stands 15 = .ok (.iconst 3, 1) := by decide +kernel
theorem dX10_stands_16 : decode cX10_stands 16 = .ok (.if_icmp .ne 7, 3) := by decide +kernel
theorem dX10_stands_19 : decode cX10_stands 19 = .ok (.iconst 1, 1) := by decide +kernel
theorem dX10_stands_20 : decode cX10_stands 20 = .ok (.goto 4, 3) := by decide +kernel
theorem dX10_stands_23 : decode cX10_stands 23 = .ok (.iconst 0, 1) := by decide +kernel
theorem dX10_stands_24 : decode cX10_stands 24 = .ok (.ireturn, 1) := by decide +kernel
theorem dX10_isClear_0 : decode cX10_isClear 0 = .ok (.aload_n 0, 1) := by decide +kernel
theorem dX10_isClear_1 : decode cX10_isClear 1 = .ok (.getfield 7, 3) := by decide +kernel
theorem dX10_isClear_4 : decode cX10_isClear 4 = .ok (.iload_n 2, 1) := by decide +kernel
theorem dX10_isClear_5 : decode cX10_isClear 5 = .ok (.aload_n 0, 1) := by decide +kernel
theorem dX10_isClear_6 : decode cX10_isClear 6 = .ok (.getfield 68, 3) := by decide +kernel
theorem dX10_isClear_9 : decode cX10_isClear 9 = .ok (.imul, 1) := by decide +kernel
theorem dX10_isClear_10 : decode cX10_isClear 10 = .ok (.iload_n 1, 1) := by decide +kernel
theorem dX10_isClear_11 : decode cX10_isClear 11 = .ok (.iadd, 1) := by decide +kernel
theorem dX10_isClear_12 : decode cX10_isClear 12 = .ok (.iaload, 1) := by decide +kernel
theorem dX10_isClear_13 : decode cX10_isClear 13 = .ok (.istore_n 3, 1) := by decide +kernel
theorem dX10_isClear_14 : decode cX10_isClear 14 = .ok (.iload_n 3, 1) := by decide +kernel
theorem dX10_isClear_15 : decode cX10_isClear 15 = .ok (.ifCond .eq 8, 3) := by decide +kernel
theorem dX10_isClear_18 : decode cX10_isClear 18 = .ok (.iload_n 3, 1) := by decide +kernel
theorem dX10_isClear_19 : decode cX10_isClear 19 = .ok (.iconst 2, 1) := by decide +kernel
theorem dX10_isClear_20 : decode cX10_isClear 20 = .ok (.if_icmp .ne 7, 3) := by decide +kernel
theorem dX10_isClear_23 : decode cX10_isClear 23 = .ok (.iconst 1, 1) := by decide +kernel
theorem dX10_isClear_24 : decode cX10_isClear 24 = .ok (.goto 4, 3) := by decide +kernel
theorem dX10_isClear_27 : decode cX10_isClear 27 = .ok (.iconst 0, 1) := by decide +kernel
theorem dX10_isClear_28 : decode cX10_isClear 28 = .ok (.ireturn, 1) := by decide +kernel
theorem dX10_hall_0 : decode cX10_hall 0 = .ok (.iload_n 1, 1) := by decide +kernel
theorem dX10_hall_1 : decode cX10_hall 1 = .ok (.i2l, 1) := by decide +kernel
theorem dX10_hall_2 : decode cX10_hall 2 = .ok (.ldc2_w 81, 3) := by decide +kernel
theorem dX10_hall_5 : decode cX10_hall 5 = .ok (.ldc2_w 83, 3) := by decide +kernel
theorem dX10_hall_8 : decode cX10_hall 8 = .ok (.invokestatic 77, 3) := by decide +kernel
theorem dX10_hall_11 : decode cX10_hall 11 = .ok (.ifCond .eq 17, 3) := by decide +kernel
theorem dX10_hall_14 : decode cX10_hall 14 = .ok (.iload_n 2, 1) := by decide +kernel
theorem dX10_hall_15 : decode cX10_hall 15 = .ok (.i2l, 1) := by decide +kernel
theorem dX10_hall_16 : decode cX10_hall 16 = .ok (.ldc2_w 81, 3) := by decide +kernel
theorem dX10_hall_19 : decode cX10_hall 19 = .ok (.ldc2_w 83, 3) := by decide +kernel
theorem dX10_hall_22 : decode cX10_hall 22 = .ok (.invokestatic 77, 3) := by decide +kernel
theorem dX10_hall_25 : decode cX10_hall 25 = .ok (.ifCond .ne 6, 3) := by decide +kernel
theorem dX10_hall_28 : decode cX10_hall 28 = .ok (.bipush (-2), 2) := by decide +kernel
theorem dX10_hall_30 : decode cX10_hall 30 = .ok (.ireturn, 1) := by decide +kernel
theorem dX10_hall_31 : decode cX10_hall 31 = .ok (.aload_n 0, 1) := by decide +kernel
theorem dX10_hall_32 : decode cX10_hall 32 = .ok (.iload_n 1, 1) := by decide +kernel
theorem dX10_hall_33 : decode cX10_hall 33 = .ok (.iload_n 2, 1) := by decide +kernel
theorem dX10_hall_34 : decode cX10_hall 34 = .ok (.invokevirtual 64, 3) := by decide +kernel
theorem dX10_hall_37 : decode cX10_hall 37 = .ok (.iload_n 1, 1) := by decide +kernel
theorem dX10_hall_38 : decode cX10_hall 38 = .ok (.iload_n 2, 1) := by decide +kernel
theorem dX10_hall_39 : decode cX10_hall 39 = .ok (.imul, 1) := by decide +kernel
theorem dX10_hall_40 : decode cX10_hall 40 = .ok (.ireturn, 1) := by decide +kernel
theorem dX10_cell_0 : decode cX10_cell 0 = .ok (.aload_n 0, 1) := by decide +kernel
theorem dX10_cell_1 : decode cX10_cell 1 = .ok (.iload_n 1, 1) := by decide +kernel
theorem dX10_cell_2 : decode cX10_cell 2 = .ok (.invokevirtual 85, 3) := by decide +kernel
theorem dX10_cell_5 : decode cX10_cell 5 = .ok (.ifCond .ne 5, 3) := by decide +kernel
theorem dX10_cell_8 : decode cX10_cell 8 = .ok (.iconst (-1), 1) := by decide +kernel
theorem dX10_cell_9 : decode cX10_cell 9 = .ok (.ireturn, 1) := by decide +kernel
theorem dX10_cell_10 : decode cX10_cell 10 = .ok (.iload_n 2, 1) := by decide +kernel
theorem dX10_cell_11 : decode cX10_cell 11 = .ok (.i2l, 1) := by decide +kernel
theorem dX10_cell_12 : decode cX10_cell 12 = .ok (.lconst 0, 1) := by decide +kernel
theorem dX10_cell_13 : decode cX10_cell 13 = .ok (.ldc2_w 89, 3) := by decide +kernel
theorem dX10_cell_16 : decode cX10_cell 16 = .ok (.invokestatic 77, 3) := by decide +kernel
theorem dX10_cell_19 : decode cX10_cell 19 = .ok (.ifCond .ne 6, 3) := by decide +kernel
theorem dX10_cell_22 : decode cX10_cell 22 = .ok (.bipush (-2), 2) := by decide +kernel
theorem dX10_cell_24 : decode cX10_cell 24 = .ok (.ireturn, 1) := by decide +kernel
theorem dX10_cell_25 : decode cX10_cell 25 = .ok (.aload_n 0, 1) := by decide +kernel
theorem dX10_cell_26 : decode cX10_cell 26 = .ok (.getfield 7, 3) := by decide +kernel
theorem dX10_cell_29 : decode cX10_cell 29 = .ok (.iload_n 1, 1) := by decide +kernel
theorem dX10_cell_30 : decode cX10_cell 30 = .ok (.iaload, 1) := by decide +kernel
theorem dX10_cell_31 : decode cX10_cell 31 = .ok (.istore_n 3, 1) := by decide +kernel
theorem dX10_cell_32 : decode cX10_cell 32 = .ok (.aload_n 0, 1) := by decide +kernel
theorem dX10_cell_33 : decode cX10_cell 33 = .ok (.getfield 7, 3) := by decide +kernel
theorem dX10_cell_36 : decode cX10_cell 36 = .ok (.iload_n 1, 1) := by decide +kernel
theorem dX10_cell_37 : decode cX10_cell 37 = .ok (.iload_n 2, 1) := by decide +kernel
theorem dX10_cell_38 : decode cX10_cell 38 = .ok (.iastore, 1) := by decide +kernel
theorem dX10_cell_39 : decode cX10_cell 39 = .ok (.iload_n 3, 1) := by decide +kernel
theorem dX10_cell_40 : decode cX10_cell 40 = .ok (.ireturn, 1) := by decide +kernel
theorem dX10_kind_0 : decode cX10_kind 0 = .ok (.aload_n 0, 1) := by decide +kernel
theorem dX10_kind_1 : decode cX10_kind 1 = .ok (.iload_n 1, 1) := by decide +kernel
theorem dX10_kind_2 : decode cX10_kind 2 = .ok (.invokevirtual 85, 3) := by decide +kernel
theorem dX10_kind_5 : decode cX10_kind 5 = .ok (.ifCond .eq 12, 3) := by decide +kernel
theorem dX10_kind_8 : decode cX10_kind 8 = .ok (.aload_n 0, 1) := by decide +kernel
theorem dX10_kind_9 : decode cX10_kind 9 = .ok (.getfield 7, 3) := by decide +kernel
theorem dX10_kind_12 : decode cX10_kind 12 = .ok (.iload_n 1, 1) := by decide +kernel
theorem dX10_kind_13 : decode cX10_kind 13 = .ok (.iaload, 1) := by decide +kernel
theorem dX10_kind_14 : decode cX10_kind 14 = .ok (.goto 4, 3) := by decide +kernel
theorem dX10_kind_17 : decode cX10_kind 17 = .ok (.iconst (-1), 1) := by decide +kernel
theorem dX10_kind_18 : decode cX10_kind 18 = .ok (.ireturn, 1) := by decide +kernel
theorem dX10_law_0 : decode cX10_law 0 = .ok (.iload_n 1, 1) := by decide +kernel
theorem dX10_law_1 : decode cX10_law 1 = .ok (.i2l, 1) := by decide +kernel
theorem dX10_law_2 : decode cX10_law 2 = .ok (.lconst 0, 1) := by decide +kernel
theorem dX10_law_3 : decode cX10_law 3 = .ok (.ldc2_w 81, 3) := by decide +kernel
theorem dX10_law_6 : decode cX10_law 6 = .ok (.invokestatic 77, 3) := by decide +kernel
theorem dX10_law_9 : decode cX10_law 9 = .ok (.ifCond .ne 6, 3) := by decide +kernel
theorem dX10_law_12 : decode cX10_law 12 = .ok (.bipush (-2), 2) := by decide +kernel
theorem dX10_law_14 : decode cX10_law 14 = .ok (.ireturn, 1) := by decide +kernel
theorem dX10_law_15 : decode cX10_law 15 = .ok (.aload_n 0, 1) := by decide +kernel
theorem dX10_law_16 : decode cX10_law 16 = .ok (.getfield 13, 3) := by decide +kernel
theorem dX10_law_19 : decode cX10_law 19 = .ok (.istore_n 2, 1) := by decide +kernel
theorem dX10_law_20 : decode cX10_law 20 = .ok (.aload_n 0, 1) := by decide +kernel
theorem dX10_law_21 : decode cX10_law 21 = .ok (.iload_n 1, 1) := by decide +kernel
theorem dX10_law_22 : decode cX10_law 22 = .ok (.putfield 13, 3) := by decide +kernel
theorem dX10_law_25 : decode cX10_law 25 = .ok (.iload_n 2, 1) := by decide +kernel
theorem dX10_law_26 : decode cX10_law 26 = .ok (.ireturn, 1) := by decide +kernel
theorem dX10_range_0 : decode cX10_range 0 = .ok (.iload_n 1, 1) := by decide +kernel
theorem dX10_range_1 : decode cX10_range 1 = .ok (.i2l, 1) := by decide +kernel
theorem dX10_range_2 : decode cX10_range 2 = .ok (.lconst 1, 1) := by decide +kernel
theorem dX10_range_3 : decode cX10_range 3 = .ok (.ldc2_w 83, 3) := by decide +kernel
theorem dX10_range_6 : decode cX10_range 6 = .ok (.invokestatic 77, 3) := by decide +kernel
theorem dX10_range_9 : decode cX10_range 9 = .ok (.ifCond .ne 6, 3) := by decide +kernel
theorem dX10_range_12 : decode cX10_range 12 = .ok (.bipush (-2), 2) := by decide +kernel
theorem dX10_range_14 : decode cX10_range 14 = .ok (.ireturn, 1) := by decide +kernel
theorem dX10_range_15 : decode cX10_range 15 = .ok (.aload_n 0, 1) := by decide +kernel
theorem dX10_range_16 : decode cX10_range 16 = .ok (.getfield 17, 3) := by decide +kernel
theorem dX10_range_19 : decode cX10_range 19 = .ok (.istore_n 2, 1) := by decide +kernel
theorem dX10_range_20 : decode cX10_range 20 = .ok (.aload_n 0, 1) := by decide +kernel
theorem dX10_range_21 : decode cX10_range 21 = .ok (.iload_n 1, 1) := by decide +kernel
theorem dX10_range_22 : decode cX10_range 22 = .ok (.putfield 17, 3) := by decide +kernel
theorem dX10_range_25 : decode cX10_range 25 = .ok (.iload_n 2, 1) := by decide +kernel
theorem dX10_range_26 : decode cX10_range 26 = .ok (.ireturn, 1) := by decide +kernel
theorem dX10_beside_0 : decode cX10_beside 0 = .ok (.iload_n 1, 1) := by decide +kernel
theorem dX10_beside_1 : decode cX10_beside 1 = .ok (.aload_n 0, 1) := by decide +kernel
theorem dX10_beside_2 : decode cX10_beside 2 = .ok (.getfield 68, 3) := by decide +kernel
theorem dX10_beside_5 : decode cX10_beside 5 = .ok (.irem, 1) := by decide +kernel
theorem dX10_beside_6 : decode cX10_beside 6 = .ok (.iload_n 2, 1) := by decide +kernel
theorem dX10_beside_7 : decode cX10_beside 7 = .ok (.ifCond .ne 7, 3) := by decide +kernel
