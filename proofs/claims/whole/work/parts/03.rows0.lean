theorem dX0_init_0 : decode cX0_init 0 = .ok (.aload_n 0, 1) := by decide +kernel
theorem dX0_init_1 : decode cX0_init 1 = .ok (.invokespecial 3, 3) := by decide +kernel
theorem dX0_init_4 : decode cX0_init 4 = .ok (.aload_n 0, 1) := by decide +kernel
theorem dX0_init_5 : decode cX0_init 5 = .ok (.bipush 32, 2) := by decide +kernel
theorem dX0_init_7 : decode cX0_init 7 = .ok (.newarray .long, 2) := by decide +kernel
theorem dX0_init_9 : decode cX0_init 9 = .ok (.putfield 9, 3) := by decide +kernel
theorem dX0_init_12 : decode cX0_init 12 = .ok (.aload_n 0, 1) := by decide +kernel
theorem dX0_init_13 : decode cX0_init 13 = .ok (.iconst 4, 1) := by decide +kernel
theorem dX0_init_14 : decode cX0_init 14 = .ok (.newarray .int, 2) := by decide +kernel
theorem dX0_init_16 : decode cX0_init 16 = .ok (.putfield 15, 3) := by decide +kernel
theorem dX0_init_19 : decode cX0_init 19 = .ok (.aload_n 0, 1) := by decide +kernel
theorem dX0_init_20 : decode cX0_init 20 = .ok (.aload_n 1, 1) := by decide +kernel
theorem dX0_init_21 : decode cX0_init 21 = .ok (.putfield 19, 3) := by decide +kernel
theorem dX0_init_24 : decode cX0_init 24 = .ok (.aload_n 0, 1) := by decide +kernel
theorem dX0_init_25 : decode cX0_init 25 = .ok (.aload_n 2, 1) := by decide +kernel
theorem dX0_init_26 : decode cX0_init 26 = .ok (.putfield 23, 3) := by decide +kernel
theorem dX0_init_29 : decode cX0_init 29 = .ok (.return_, 1) := by decide +kernel
theorem dX0_survey_0 : decode cX0_survey 0 = .ok (.aload_n 0, 1) := by decide +kernel
theorem dX0_survey_1 : decode cX0_survey 1 = .ok (.aload_n 0, 1) := by decide +kernel
theorem dX0_survey_2 : decode cX0_survey 2 = .ok (.getfield 23, 3) := by decide +kernel
theorem dX0_survey_5 : decode cX0_survey 5 = .ok (.invokevirtual 27, 3) := by decide +kernel
theorem dX0_survey_8 : decode cX0_survey 8 = .ok (.putfield 33, 3) := by decide +kernel
theorem dX0_survey_11 : decode cX0_survey 11 = .ok (.aload_n 0, 1) := by decide +kernel
theorem dX0_survey_12 : decode cX0_survey 12 = .ok (.lconst 1, 1) := by decide +kernel
theorem dX0_survey_13 : decode cX0_survey 13 = .ok (.aload_n 0, 1) := by decide +kernel
theorem dX0_survey_14 : decode cX0_survey 14 = .ok (.getfield 33, 3) := by decide +kernel
theorem dX0_survey_17 : decode cX0_survey 17 = .ok (.lshl, 1) := by decide +kernel
theorem dX0_survey_18 : decode cX0_survey 18 = .ok (.lconst 1, 1) := by decide +kernel
theorem dX0_survey_19 : decode cX0_survey 19 = .ok (.lsub, 1) := by decide +kernel
theorem dX0_survey_20 : decode cX0_survey 20 = .ok (.putfield 36, 3) := by decide +kernel
theorem dX0_survey_23 : decode cX0_survey 23 = .ok (.iconst 0, 1) := by decide +kernel
theorem dX0_survey_24 : decode cX0_survey 24 = .ok (.istore_n 1, 1) := by decide +kernel
theorem dX0_survey_25 : decode cX0_survey 25 = .ok (.iload_n 1, 1) := by decide +kernel
theorem dX0_survey_26 : decode cX0_survey 26 = .ok (.aload_n 0, 1) := by decide +kernel
theorem dX0_survey_27 : decode cX0_survey 27 = .ok (.getfield 19, 3) := by decide +kernel
theorem dX0_survey_30 : decode cX0_survey 30 = .ok (.invokevirtual 40, 3) := by decide +kernel
theorem dX0_survey_33 : decode cX0_survey 33 = .ok (.if_icmp .ge 38, 3) := by decide +kernel
theorem dX0_survey_36 : decode cX0_survey 36 = .ok (.iconst 0, 1) := by decide +kernel
theorem dX0_survey_37 : decode cX0_survey 37 = .ok (.istore_n 2, 1) := by decide +kernel
theorem dX0_survey_38 : decode cX0_survey 38 = .ok (.iload_n 2, 1) := by decide +kernel
theorem dX0_survey_39 : decode cX0_survey 39 = .ok (.iconst 4, 1) := by decide +kernel
theorem dX0_survey_40 : decode cX0_survey 40 = .ok (.if_icmp .ge 25, 3) := by decide +kernel
theorem dX0_survey_43 : decode cX0_survey 43 = .ok (.aload_n 0, 1) := by decide +kernel
theorem dX0_survey_44 : decode cX0_survey 44 = .ok (.getfield 9, 3) := by decide +kernel
theorem dX0_survey_47 : decode cX0_survey 47 = .ok (.iload_n 1, 1) := by decide +kernel
theorem dX0_survey_48 : decode cX0_survey 48 = .ok (.iconst 4, 1) := by decide +kernel
theorem dX0_survey_49 : decode cX0_survey 49 = .ok (.imul, 1) := by decide +kernel
theorem dX0_survey_50 : decode cX0_survey 50 = .ok (.iload_n 2, 1) := by decide +kernel
theorem dX0_survey_51 : decode cX0_survey 51 = .ok (.iadd, 1) := by decide +kernel
theorem dX0_survey_52 : decode cX0_survey 52 = .ok (.aload_n 0, 1) := by decide +kernel
theorem dX0_survey_53 : decode cX0_survey 53 = .ok (.iload_n 1, 1) := by decide +kernel
theorem dX0_survey_54 : decode cX0_survey 54 = .ok (.iload_n 2, 1) := by decide +kernel
theorem dX0_survey_55 : decode cX0_survey 55 = .ok (.invokevirtual 45, 3) := by decide +kernel
theorem dX0_survey_58 : decode cX0_survey 58 = .ok (.lastore, 1) := by decide +kernel
theorem dX0_survey_59 : decode cX0_survey 59 = .ok (.iinc 2 1, 3) := by decide +kernel
theorem dX0_survey_62 : decode cX0_survey 62 = .ok (.goto (-24), 3) := by decide +kernel
theorem dX0_survey_65 : decode cX0_survey 65 = .ok (.iinc 1 1, 3) := by decide +kernel
theorem dX0_survey_68 : decode cX0_survey 68 = .ok (.goto (-43), 3) := by decide +kernel
theorem dX0_survey_71 : decode cX0_survey 71 = .ok (.return_, 1) := by decide +kernel
theorem dX0_sightingsOf_0 : decode cX0_sightingsOf 0 = .ok (.lconst 0, 1) := by decide +kernel
theorem dX0_sightingsOf_1 : decode cX0_sightingsOf 1 = .ok (.lstore_n 3, 1) := by decide +kernel
theorem dX0_sightingsOf_2 : decode cX0_sightingsOf 2 = .ok (.aload_n 0, 1) := by decide +kernel
theorem dX0_sightingsOf_3 : decode cX0_sightingsOf 3 = .ok (.getfield 23, 3) := by decide +kernel
theorem dX0_sightingsOf_6 : decode cX0_sightingsOf 6 = .ok (.iload_n 2, 1) := by decide +kernel
theorem dX0_sightingsOf_7 : decode cX0_sightingsOf 7 = .ok (.invokevirtual 49, 3) := by decide +kernel
theorem dX0_sightingsOf_10 : decode cX0_sightingsOf 10 = .ok (.istore 5, 2) := by decide +kernel
theorem dX0_sightingsOf_12 : decode cX0_sightingsOf 12 = .ok (.iconst 0, 1) := by decide +kernel
theorem dX0_sightingsOf_13 : decode cX0_sightingsOf 13 = .ok (.istore 6, 2) := by decide +kernel
theorem dX0_sightingsOf_15 : decode cX0_sightingsOf 15 = .ok (.iload 6, 2) := by decide +kernel
theorem dX0_sightingsOf_17 : decode cX0_sightingsOf 17 = .ok (.iload 5, 2) := by decide +kernel
theorem dX0_sightingsOf_19 : decode cX0_sightingsOf 19 = .ok (.if_icmp .ge 60, 3) := by decide +kernel
theorem dX0_sightingsOf_22 : decode cX0_sightingsOf 22 = .ok (.aload_n 0, 1) := by decide +kernel
theorem dX0_sightingsOf_23 : decode cX0_sightingsOf 23 = .ok (.getfield 19, 3) := by decide +kernel
theorem dX0_sightingsOf_26 : decode cX0_sightingsOf 26 = .ok (.iload_n 1, 1) := by decide +kernel
theorem dX0_sightingsOf_27 : decode cX0_sightingsOf 27 = .ok (.aload_n 0, 1) := by decide +kernel
theorem dX0_sightingsOf_28 : decode cX0_sightingsOf 28 = .ok (.getfield 23, 3) := by decide +kernel
theorem dX0_sightingsOf_31 : decode cX0_sightingsOf 31 = .ok (.iload_n 2, 1) := by decide +kernel
theorem dX0_sightingsOf_32 : decode cX0_sightingsOf 32 = .ok (.iload 6, 2) := by decide +kernel
theorem dX0_sightingsOf_34 : decode cX0_sightingsOf 34 = .ok (.invokevirtual 53, 3) := by decide +kernel
theorem dX0_sightingsOf_37 : decode cX0_sightingsOf 37 = .ok (.invokevirtual 57, 3) := by decide +kernel
theorem dX0_sightingsOf_40 : decode cX0_sightingsOf 40 = .ok (.ifCond .eq 33, 3) := by decide +kernel
theorem dX0_sightingsOf_43 : decode cX0_sightingsOf 43 = .ok (.iload 6, 2) := by decide +kernel
theorem dX0_sightingsOf_45 : decode cX0_sightingsOf 45 = .ok (.istore 7, 2) := by decide +kernel
theorem dX0_sightingsOf_47 : decode cX0_sightingsOf 47 = .ok (.iload 7, 2) := by decide +kernel
theorem dX0_sightingsOf_49 : decode cX0_sightingsOf 49 = .ok (.aload_n 0, 1) := by decide +kernel
theorem dX0_sightingsOf_50 : decode cX0_sightingsOf 50 = .ok (.getfield 33, 3) := by decide +kernel
theorem dX0_sightingsOf_53 : decode cX0_sightingsOf 53 = .ok (.if_icmp .ge 20, 3) := by decide +kernel
theorem dX0_sightingsOf_56 : decode cX0_sightingsOf 56 = .ok (.lload_n 3, 1) := by decide +kernel
theorem dX0_sightingsOf_57 : decode cX0_sightingsOf 57 = .ok (.lconst 1, 1) := by decide +kernel
theorem dX0_sightingsOf_58 : decode cX0_sightingsOf 58 = .ok (.iload 7, 2) := by decide +kernel
theorem dX0_sightingsOf_60 : decode cX0_sightingsOf 60 = .ok (.lshl, 1) := by decide +kernel
theorem dX0_sightingsOf_61 : decode cX0_sightingsOf 61 = .ok (.lor, 1) := by decide +kernel
theorem dX0_sightingsOf_62 : decode cX0_sightingsOf 62 = .ok (.lstore_n 3, 1) := by decide +kernel
theorem dX0_sightingsOf_63 : decode cX0_sightingsOf 63 = .ok (.iload 7, 2) := by decide +kernel
theorem dX0_sightingsOf_65 : decode cX0_sightingsOf 65 = .ok (.iload 5, 2) := by decide +kernel
theorem dX0_sightingsOf_67 : decode cX0_sightingsOf 67 = .ok (.iadd, 1) := by decide +kernel
theorem dX0_sightingsOf_68 : decode cX0_sightingsOf 68 = .ok (.istore 7, 2) := by decide +kernel
theorem dX0_sightingsOf_70 : decode cX0_sightingsOf 70 = .ok (.goto (-23), 3) := by decide +kernel
theorem dX0_sightingsOf_73 : decode cX0_sightingsOf 73 = .ok (.iinc 6 1, 3) := by decide +kernel
theorem dX0_sightingsOf_76 : decode cX0_sightingsOf 76 = .ok (.goto (-61), 3) := by decide +kernel
theorem dX0_sightingsOf_79 : decode cX0_sightingsOf 79 = .ok (.lload_n 3, 1) := by decide +kernel
theorem dX0_sightingsOf_80 : decode cX0_sightingsOf 80 = .ok (.lreturn, 1) := by decide +kernel
theorem dX0_sooner_0 : decode cX0_sooner 0 = .ok (.lload_n 1, 1) := by decide +kernel
theorem dX0_sooner_1 : decode cX0_sooner 1 = .ok (.iload_n 3, 1) := by decide +kernel
theorem dX0_sooner_2 : decode cX0_sooner 2 = .ok (.lushr, 1) := by decide +kernel
theorem dX0_sooner_3 : decode cX0_sooner 3 = .ok (.lload_n 1, 1) := by decide +kernel
theorem dX0_sooner_4 : decode cX0_sooner 4 = .ok (.aload_n 0, 1) := by decide +kernel
theorem dX0_sooner_5 : decode cX0_sooner 5 = .ok (.getfield 33, 3) := by decide +kernel
theorem dX0_sooner_8 : decode cX0_sooner 8 = .ok (.iload_n 3, 1) := by decide +kernel
theorem dX0_sooner_9 : decode cX0_sooner 9 = .ok (.isub, 1) := by decide +kernel
theorem dX0_sooner_10 : decode cX0_sooner 10 = .ok (.lshl, 1) := by decide +kernel
theorem dX0_sooner_11 : decode cX0_sooner 11 = .ok (.lor, 1) := by decide +kernel
theorem dX0_sooner_12 : decode cX0_sooner 12 = .ok (.aload_n 0, 1) := by decide +kernel
theorem dX0_sooner_13 : decode cX0_sooner 13 = .ok (.getfield 36, 3) := by decide +kernel
theorem dX0_sooner_16 : decode cX0_sooner 16 = .ok (.land, 1) := by decide +kernel
theorem dX0_sooner_17 : decode cX0_sooner 17 = .ok (.lreturn, 1) := by decide +kernel
theorem dX0_gapOf_0 : decode cX0_gapOf 0 = .ok (.aload_n 0, 1) := by decide +kernel
theorem dX0_gapOf_1 : decode cX0_gapOf 1 = .ok (.getfield 36, 3) := by decide +kernel
theorem dX0_gapOf_4 : decode cX0_gapOf 4 = .ok (.lstore_n 2, 1) := by decide +kernel
theorem dX0_gapOf_5 : decode cX0_gapOf 5 = .ok (.iconst 0, 1) := by decide +kernel
theorem dX0_gapOf_6 : decode cX0_gapOf 6 = .ok (.istore 4, 2) := by decide +kernel
theorem dX0_gapOf_8 : decode cX0_gapOf 8 = .ok (.iload 4, 2) := by decide +kernel
theorem dX0_gapOf_10 : decode cX0_gapOf 10 = .ok (.iconst 4, 1) := by decide +kernel
theorem dX0_gapOf_11 : decode cX0_gapOf 11 = .ok (.if_icmp .ge 63, 3) := by decide +kernel
theorem dX0_gapOf_14 : decode cX0_gapOf 14 = .ok (.aload_n 0, 1) := by decide +kernel
theorem dX0_gapOf_15 : decode cX0_gapOf 15 = .ok (.getfield 23, 3) := by decide +kernel
theorem dX0_gapOf_18 : decode cX0_gapOf 18 = .ok (.iload 4, 2) := by decide +kernel
theorem dX0_gapOf_20 : decode cX0_gapOf 20 = .ok (.invokevirtual 49, 3) := by decide +kernel
theorem dX0_gapOf_23 : decode cX0_gapOf 23 = .ok (.istore 5, 2) := by decide +kernel
theorem dX0_gapOf_25 : decode cX0_gapOf 25 = .ok (.iload 5, 2) := by decide +kernel
theorem dX0_gapOf_27 : decode cX0_gapOf 27 = .ok (.ifCond .le 41, 3) := by decide +kernel
theorem dX0_gapOf_30 : decode cX0_gapOf 30 = .ok (.aload_n 0, 1) := by decide +kernel
theorem dX0_gapOf_31 : decode cX0_gapOf 31 = .ok (.getfield 23, 3) := by decide +kernel
theorem dX0_gapOf_34 : decode cX0_gapOf 34 = .ok (.iload 4, 2) := by decide +kernel
theorem dX0_gapOf_36 : decode cX0_gapOf 36 = .ok (.invokevirtual 61, 3) := by decide +kernel
theorem dX0_gapOf_39 : decode cX0_gapOf 39 = .ok (.iload 5, 2) := by decide +kernel
theorem dX0_gapOf_41 : decode cX0_gapOf 41 = .ok (.irem, 1) := by decide +kernel
theorem dX0_gapOf_42 : decode cX0_gapOf 42 = .ok (.istore 6, 2) := by decide +kernel
theorem dX0_gapOf_44 : decode cX0_gapOf 44 = .ok (.lload_n 2, 1) := by decide +kernel
theorem dX0_gapOf_45 : decode cX0_gapOf 45 = .ok (.aload_n 0, 1) := by decide +kernel
theorem dX0_gapOf_46 : decode cX0_gapOf 46 = .ok (.aload_n 0, 1) := by decide +kernel
theorem dX0_gapOf_47 : decode cX0_gapOf 47 = .ok (.getfield 9, 3) := by decide +kernel
theorem dX0_gapOf_50 : decode cX0_gapOf 50 = .ok (.iload_n 1, 1) := by decide +kernel
theorem dX0_gapOf_51 : decode cX0_gapOf 51 = .ok (.iconst 4, 1) := by decide +kernel
theorem dX0_gapOf_52 : decode cX0_gapOf 52 = .ok (.imul, 1) := by decide +kernel
theorem dX0_gapOf_53 : decode cX0_gapOf 53 = .ok (.iload 4, 2) := by decide +kernel
theorem dX0_gapOf_55 : decode cX0_gapOf 55 = .ok (.iadd, 1) := by decide +kernel
theorem dX0_gapOf_56 : decode cX0_gapOf 56 = .ok (.laload, 1) := by decide +kernel
theorem dX0_gapOf_57 : decode cX0_gapOf 57 = .ok (.iload 6, 2) := by decide +kernel
theorem dX0_gapOf_59 : decode cX0_gapOf 59 = .ok (.invokevirtual 64, 3) := by decide +kernel
theorem dX0_gapOf_62 : decode cX0_gapOf 62 = .ok (.ldc2_w 68, 3) := by decide +kernel
theorem dX0_gapOf_65 : decode cX0_gapOf 65 = .ok (.lxor, 1) := by decide +kernel
theorem dX0_gapOf_66 : decode cX0_gapOf 66 = .ok (.land, 1) := by decide +kernel
theorem dX0_gapOf_67 : decode cX0_gapOf 67 = .ok (.lstore_n 2, 1) := by decide +kernel
theorem dX0_gapOf_68 : decode cX0_gapOf 68 = .ok (.iinc 4 1, 3) := by decide +kernel
theorem dX0_gapOf_71 : decode cX0_gapOf 71 = .ok (.goto (-63), 3) := by decide +kernel
theorem dX0_gapOf_74 : decode cX0_gapOf 74 = .ok (.lload_n 2, 1) := by decide +kernel
theorem dX0_gapOf_75 : decode cX0_gapOf 75 = .ok (.aload_n 0, 1) := by decide +kernel
theorem dX0_gapOf_76 : decode cX0_gapOf 76 = .ok (.getfield 36, 3) := by decide +kernel
theorem dX0_gapOf_79 : decode cX0_gapOf 79 = .ok (.lcmp, 1) := by decide +kernel
theorem dX0_gapOf_80 : decode cX0_gapOf 80 = .ok (.ifCond .ne 8, 3) := by decide +kernel
theorem dX0_gapOf_83 : decode cX0_gapOf 83 = .ok (.bipush (-9), 2) := by decide +kernel
theorem dX0_gapOf_85 : decode cX0_gapOf 85 = .ok (.goto 8, 3) := by decide +kernel
theorem dX0_gapOf_88 : decode cX0_gapOf 88 = .ok (.aload_n 0, 1) := by decide +kernel
theorem dX0_gapOf_89 : decode cX0_gapOf 89 = .ok (.lload_n 2, 1) := by decide +kernel
theorem dX0_gapOf_90 : decode cX0_gapOf 90 = .ok (.invokevirtual 70, 3) := by decide +kernel
theorem dX0_gapOf_93 : decode cX0_gapOf 93 = .ok (.ireturn, 1) := by decide +kernel
theorem dX0_longestRun_0 : decode cX0_longestRun 0 = .ok (.lload_n 1, 1) := by decide +kernel
theorem dX0_longestRun_1 : decode cX0_longestRun 1 = .ok (.lstore_n 3, 1) := by decide +kernel
theorem dX0_longestRun_2 : decode cX0_longestRun 2 = .ok (.iconst 0, 1) := by decide +kernel
theorem dX0_longestRun_3 : decode cX0_longestRun 3 = .ok (.istore 5, 2) := by decide +kernel
theorem dX0_longestRun_5 : decode cX0_longestRun 5 = .ok (.lload_n 3, 1) := by decide +kernel
theorem dX0_longestRun_6 : decode cX0_longestRun 6 = .ok (.lconst 0, 1) := by decide +kernel
theorem dX0_longestRun_7 : decode cX0_longestRun 7 = .ok (.lcmp, 1) := by decide +kernel
theorem dX0_longestRun_8 : decode cX0_longestRun 8 = .ok (.ifCond .eq 27, 3) := by decide +kernel
theorem dX0_longestRun_11 : decode cX0_longestRun 11 = .ok (.iload 5, 2) := by decide +kernel
theorem dX0_longestRun_13 : decode cX0_longestRun 13 = .ok (.aload_n 0, 1) := by decide +kernel
theorem dX0_longestRun_14 : decode cX0_longestRun 14 = .ok (.getfield 33, 3) := by decide +kernel
theorem dX0_longestRun_17 : decode cX0_longestRun 17 = .ok (.if_icmp .ge 18, 3) := by decide +kernel
theorem dX0_longestRun_20 : decode cX0_longestRun 20 = .ok (.lload_n 3, 1) := by decide +kernel
theorem dX0_longestRun_21 : decode cX0_longestRun 21 = .ok (.aload_n 0, 1) := by decide +kernel
theorem dX0_longestRun_22 : decode cX0_longestRun 22 = .ok (.lload_n 3, 1) := by decide +kernel
theorem dX0_longestRun_23 : decode cX0_longestRun 23 = .ok (.iconst 1, 1) := by decide +kernel
theorem dX0_longestRun_24 : decode cX0_longestRun 24 = .ok (.invokevirtual 64, 3) := by decide +kernel
theorem dX0_longestRun_27 : decode cX0_longestRun 27 = .ok (.land, 1) := by decide +kernel
theorem dX0_longestRun_28 : decode cX0_longestRun 28 = .ok (.lstore_n 3, 1) := by decide +kernel
theorem dX0_longestRun_29 : decode cX0_longestRun 29 = .ok (.iinc 5 1, 3) := by decide +kernel
theorem dX0_longestRun_32 : decode cX0_longestRun 32 = .ok (.goto (-27), 3) := by decide +kernel
theorem dX0_longestRun_35 : decode cX0_longestRun 35 = .ok (.iload 5, 2) := by decide +kernel
theorem dX0_longestRun_37 : decode cX0_longestRun 37 = .ok (.ireturn, 1) := by decide +kernel
theorem dX0_worstOfAll_0 : decode cX0_worstOfAll 0 = .ok (.iconst 0, 1) := by decide +kernel
theorem dX0_worstOfAll_1 : decode cX0_worstOfAll 1 = .ok (.istore_n 1, 1) := by decide +kernel
theorem dX0_worstOfAll_2 : decode cX0_worstOfAll 2 = .ok (.iconst 0, 1) := by decide +kernel
theorem dX0_worstOfAll_3 : decode cX0_worstOfAll 3 = .ok (.istore_n 2, 1) := by decide +kernel
theorem dX0_worstOfAll_4 : decode cX0_worstOfAll 4 = .ok (.iload_n 2, 1) := by decide +kernel
theorem dX0_worstOfAll_5 : decode cX0_worstOfAll 5 = .ok (.aload_n 0, 1) := by decide +kernel
theorem dX0_worstOfAll_6 : decode cX0_worstOfAll 6 = .ok (.getfield 19, 3) := by decide +kernel
theorem dX0_worstOfAll_9 : decode cX0_worstOfAll 9 = .ok (.invokevirtual 40, 3) := by decide +kernel
theorem dX0_worstOfAll_12 : decode cX0_worstOfAll 12 = .ok (.if_icmp .ge 30, 3) := by decide +kernel
theorem dX0_worstOfAll_15 : decode cX0_worstOfAll 15 = .ok (.aload_n 0, 1) := by decide +kernel
theorem dX0_worstOfAll_16 : decode cX0_worstOfAll 16 = .ok (.iload_n 2, 1) := by decide +kernel
theorem dX0_worstOfAll_17 : decode cX0_worstOfAll 17 = .ok (.invokevirtual 74, 3) := by decide +kernel
theorem dX0_worstOfAll_20 : decode cX0_worstOfAll 20 = .ok (.istore_n 3, 1) := by decide +kernel
theorem dX0_worstOfAll_21 : decode cX0_worstOfAll 21 = .ok (.iload_n 3, 1) := by decide +kernel
theorem dX0_worstOfAll_22 : decode cX0_worstOfAll 22 = .ok (.bipush (-9), 2) := by decide +kernel
theorem dX0_worstOfAll_24 : decode cX0_worstOfAll 24 = .ok (.if_icmp .ne 6, 3) := by decide +kernel
theorem dX0_worstOfAll_27 : decode cX0_worstOfAll 27 = .ok (.bipush (-9), 2) := by decide +kernel
theorem dX0_worstOfAll_29 : decode cX0_worstOfAll 29 = .ok (.ireturn, 1) := by decide +kernel
theorem dX0_worstOfAll_30 : decode cX0_worstOfAll 30 = .ok (.iload_n 1, 1) := by decide +kernel
theorem dX0_worstOfAll_31 : decode cX0_worstOfAll 31 = .ok (.iload_n 3, 1) := by decide +kernel
theorem dX0_worstOfAll_32 : decode cX0_worstOfAll 32 = .ok (.invokestatic 77, 3) := by decide +kernel
theorem dX0_worstOfAll_35 : decode cX0_worstOfAll 35 = .ok (.istore_n 1, 1) := by decide +kernel
theorem dX0_worstOfAll_36 : decode cX0_worstOfAll 36 = .ok (.iinc 2 1, 3) := by decide +kernel
theorem dX0_worstOfAll_39 : decode cX0_worstOfAll 39 = .ok (.goto (-35), 3) := by decide +kernel
theorem dX0_worstOfAll_42 : decode cX0_worstOfAll 42 = .ok (.iload_n 1, 1) := by decide +kernel
theorem dX0_worstOfAll_43 : decode cX0_worstOfAll 43 = .ok (.ireturn, 1) := by decide +kernel
theorem dX0_setBestShifts_0 : decode cX0_setBestShifts 0 = .ok (.iconst 0, 1) := by decide +kernel
theorem dX0_setBestShifts_1 : decode cX0_setBestShifts 1 = .ok (.istore_n 1, 1) := by decide +kernel
theorem dX0_setBestShifts_2 : decode cX0_setBestShifts 2 = .ok (.iload_n 1, 1) := by decide +kernel
theorem dX0_setBestShifts_3 : decode cX0_setBestShifts 3 = .ok (.iconst 4, 1) := by decide +kernel
theorem dX0_setBestShifts_4 : decode cX0_setBestShifts 4 = .ok (.if_icmp .ge 25, 3) := by decide +kernel
theorem dX0_setBestShifts_7 : decode cX0_setBestShifts 7 = .ok (.aload_n 0, 1) := by decide +kernel
theorem dX0_setBestShifts_8 : decode cX0_setBestShifts 8 = .ok (.getfield 23, 3) := by decide +kernel
theorem dX0_setBestShifts_11 : decode cX0_setBestShifts 11 = .ok (.iload_n 1, 1) := by decide +kernel
theorem dX0_setBestShifts_12 : decode cX0_setBestShifts 12 = .ok (.iconst 0, 1) := by decide +kernel
theorem dX0_setBestShifts_13 : decode cX0_setBestShifts 13 = .ok (.invokevirtual 82, 3) := by decide +kernel
theorem dX0_setBestShifts_16 : decode cX0_setBestShifts 16 = .ok (.aload_n 0, 1) := by decide +kernel
theorem dX0_setBestShifts_17 : decode cX0_setBestShifts 17 = .ok (.getfield 15, 3) := by decide +kernel
theorem dX0_setBestShifts_20 : decode cX0_setBestShifts 20 = .ok (.iload_n 1, 1) := by decide +kernel
theorem dX0_setBestShifts_21 : decode cX0_setBestShifts 21 = .ok (.iconst 0, 1) := by decide +kernel
theorem dX0_setBestShifts_22 : decode cX0_setBestShifts 22 = .ok (.iastore, 1) := by decide +kernel
theorem dX0_setBestShifts_23 : decode cX0_setBestShifts 23 = .ok (.iinc 1 1, 3) := by decide +kernel
theorem dX0_setBestShifts_26 : decode cX0_setBestShifts 26 = .ok (.goto (-24), 3) := by decide +kernel
theorem dX0_setBestShifts_29 : decode cX0_setBestShifts 29 = .ok (.aload_n 0, 1) := by decide +kernel
theorem dX0_setBestShifts_30 : decode cX0_setBestShifts 30 = .ok (.invokevirtual 86, 3) := by decide +kernel
theorem dX0_setBestShifts_33 : decode cX0_setBestShifts 33 = .ok (.istore_n 1, 1) := by decide +kernel
theorem dX0_setBestShifts_34 : decode cX0_setBestShifts 34 = .ok (.iload_n 1, 1) := by decide +kernel
theorem dX0_setBestShifts_35 : decode cX0_setBestShifts 35 = .ok (.bipush (-9), 2) := by decide +kernel
theorem dX0_setBestShifts_37 : decode cX0_setBestShifts 37 = .ok (.if_icmp .ne 6, 3) := by decide +kernel
theorem dX0_setBestShifts_40 : decode cX0_setBestShifts 40 = .ok (.bipush (-9), 2) := by decide +kernel
theorem dX0_setBestShifts_42 : decode cX0_setBestShifts 42 = .ok (.ireturn, 1) := by decide +kernel
theorem dX0_setBestShifts_43 : decode cX0_setBestShifts 43 = .ok (.aload_n 0, 1) := by decide +kernel
theorem dX0_setBestShifts_44 : decode cX0_setBestShifts 44 = .ok (.invokevirtual 89, 3) := by decide +kernel
theorem dX0_setBestShifts_47 : decode cX0_setBestShifts 47 = .ok (.istore_n 2, 1) := by decide +kernel
theorem dX0_setBestShifts_48 : decode cX0_setBestShifts 48 = .ok (.iconst 1, 1) := by decide +kernel
theorem dX0_setBestShifts_49 : decode cX0_setBestShifts 49 = .ok (.istore_n 3, 1) := by decide +kernel
theorem dX0_setBestShifts_50 : decode cX0_setBestShifts 50 = .ok (.iload_n 2, 1) := by decide +kernel
theorem dX0_setBestShifts_51 : decode cX0_setBestShifts 51 = .ok (.iconst 1, 1) := by decide +kernel
theorem dX0_setBestShifts_52 : decode cX0_setBestShifts 52 = .ok (.iadd, 1) := by decide +kernel
theorem dX0_setBestShifts_53 : decode cX0_setBestShifts 53 = .ok (.istore 4, 2) := by decide +kernel
theorem dX0_setBestShifts_55 : decode cX0_setBestShifts 55 = .ok (.iload 4, 2) := by decide +kernel
theorem dX0_setBestShifts_57 : decode cX0_setBestShifts 57 = .ok (.iconst 4, 1) := by decide +kernel
theorem dX0_setBestShifts_58 : decode cX0_setBestShifts 58 = .ok (.if_icmp .ge 25, 3) := by decide +kernel
theorem dX0_setBestShifts_61 : decode cX0_setBestShifts 61 = .ok (.iload_n 3, 1) := by decide +kernel
theorem dX0_setBestShifts_62 : decode cX0_setBestShifts 62 = .ok (.iconst 1, 1) := by decide +kernel
theorem dX0_setBestShifts_63 : decode cX0_setBestShifts 63 = .ok (.aload_n 0, 1) := by decide +kernel
theorem dX0_setBestShifts_64 : decode cX0_setBestShifts 64 = .ok (.getfield 23, 3) := by decide +kernel
theorem dX0_setBestShifts_67 : decode cX0_setBestShifts 67 = .ok (.iload 4, 2) := by decide +kernel
theorem dX0_setBestShifts_69 : decode cX0_setBestShifts 69 = .ok (.invokevirtual 49, 3) := by decide +kernel
theorem dX0_setBestShifts_72 : decode cX0_setBestShifts 72 = .ok (.invokestatic 77, 3) := by decide +kernel
theorem dX0_setBestShifts_75 : decode cX0_setBestShifts 75 = .ok (.imul, 1) := by decide +kernel
theorem dX0_setBestShifts_76 : decode cX0_setBestShifts 76 = .ok (.istore_n 3, 1) := by decide +kernel
theorem dX0_setBestShifts_77 : decode cX0_setBestShifts 77 = .ok (.iinc 4 1, 3) := by decide +kernel
theorem dX0_setBestShifts_80 : decode cX0_setBestShifts 80 = .ok (.goto (-25), 3) := by decide +kernel
theorem dX0_setBestShifts_83 : decode cX0_setBestShifts 83 = .ok (.iconst 1, 1) := by decide +kernel
theorem dX0_setBestShifts_84 : decode cX0_setBestShifts 84 = .ok (.istore 4, 2) := by decide +kernel
theorem dX0_setBestShifts_86 : decode cX0_setBestShifts 86 = .ok (.iload 4, 2) := by decide +kernel
theorem dX0_setBestShifts_88 : decode cX0_setBestShifts 88 = .ok (.iload_n 3, 1) := by decide +kernel
theorem dX0_setBestShifts_89 : decode cX0_setBestShifts 89 = .ok (.if_icmp .ge 37, 3) := by decide +kernel
theorem dX0_setBestShifts_92 : decode cX0_setBestShifts 92 = .ok (.iload_n 1, 1) := by decide +kernel
theorem dX0_setBestShifts_93 : decode cX0_setBestShifts 93 = .ok (.ifCond .le 33, 3) := by decide +kernel
theorem dX0_setBestShifts_96 : decode cX0_setBestShifts 96 = .ok (.aload_n 0, 1) := by decide +kernel
theorem dX0_setBestShifts_97 : decode cX0_setBestShifts 97 = .ok (.iload_n 2, 1) := by decide +kernel
theorem dX0_setBestShifts_98 : decode cX0_setBestShifts 98 = .ok (.invokevirtual 92, 3) := by decide +kernel
theorem dX0_setBestShifts_101 : decode cX0_setBestShifts 101 = .ok (.aload_n 0, 1) := by decide +kernel
theorem dX0_setBestShifts_102 : decode cX0_setBestShifts 102 = .ok (.invokevirtual 86, 3) := by decide +kernel
theorem dX0_setBestShifts_105 : decode cX0_setBestShifts 105 = .ok (.istore 5, 2) := by decide +kernel
theorem dX0_setBestShifts_107 : decode cX0_setBestShifts 107 = .ok (.iload 5, 2) := by decide +kernel
theorem dX0_setBestShifts_109 : decode cX0_setBestShifts 109 = .ok (.iload_n 1, 1) := by decide +kernel
theorem dX0_setBestShifts_110 : decode cX0_setBestShifts 110 = .ok (.if_icmp .ge 10, 3) := by decide +kernel
theorem dX0_setBestShifts_113 : decode cX0_setBestShifts 113 = .ok (.iload 5, 2) := by decide +kernel
theorem dX0_setBestShifts_115 : decode cX0_setBestShifts 115 = .ok (.istore_n 1, 1) := by decide +kernel
theorem dX0_setBestShifts_116 : decode cX0_setBestShifts 116 = .ok (.aload_n 0, 1) := by decide +kernel
theorem dX0_setBestShifts_117 : decode cX0_setBestShifts 117 = .ok (.invokevirtual 96, 3) := by decide +kernel
theorem dX0_setBestShifts_120 : decode cX0_setBestShifts 120 = .ok (.iinc 4 1, 3) := by decide +kernel
theorem dX0_setBestShifts_123 : decode cX0_setBestShifts 123 = .ok (.goto (-37), 3) := by decide +kernel
theorem dX0_setBestShifts_126 : decode cX0_setBestShifts 126 = .ok (.iconst 0, 1) := by decide +kernel
theorem dX0_setBestShifts_127 : decode cX0_setBestShifts 127 = .ok (.istore 4, 2) := by decide +kernel
theorem dX0_setBestShifts_129 : decode cX0_setBestShifts 129 = .ok (.iload 4, 2) := by decide +kernel
theorem dX0_setBestShifts_131 : decode cX0_setBestShifts 131 = .ok (.iconst 4, 1) := by decide +kernel
theorem dX0_setBestShifts_132 : decode cX0_setBestShifts 132 = .ok (.if_icmp .ge 25, 3) := by decide +kernel
theorem dX0_setBestShifts_135 : decode cX0_setBestShifts 135 = .ok (.aload_n 0, 1) := by decide +kernel
theorem dX0_setBestShifts_136 : decode cX0_setBestShifts 136 = .ok (.getfield 23, 3) := by decide +kernel
theorem dX0_setBestShifts_139 : decode cX0_setBestShifts 139 = .ok (.iload 4, 2) := by decide +kernel
theorem dX0_setBestShifts_141 : decode cX0_setBestShifts 141 = .ok (.aload_n 0, 1) := by decide +kernel
theorem dX0_setBestShifts_142 : decode cX0_setBestShifts 142 = .ok (.getfield 15, 3) := by decide +kernel
theorem dX0_setBestShifts_145 : decode cX0_setBestShifts 145 = .ok (.iload 4, 2) := by decide +kernel
theorem dX0_setBestShifts_147 : decode cX0_setBestShifts 147 = .ok (.iaload, 1) := by decide +kernel
theorem dX0_setBestShifts_148 : decode cX0_setBestShifts 148 = .ok (.invokevirtual 82, 3) := by decide +kernel
theorem dX0_setBestShifts_151 : decode cX0_setBestShifts 151 = .ok (.iinc 4 1, 3) := by decide +kernel
theorem dX0_setBestShifts_154 : decode cX0_setBestShifts 154 = .ok (.goto (-25), 3) := by decide +kernel
theorem dX0_setBestShifts_157 : decode cX0_setBestShifts 157 = .ok (.iload_n 1, 1) := by decide +kernel
theorem dX0_setBestShifts_158 : decode cX0_setBestShifts 158 = .ok (.ireturn, 1) := by decide +kernel
theorem dX0_firstWithRound_0 : decode cX0_firstWithRound 0 = .ok (.iconst 0, 1) := by decide +kernel
theorem dX0_firstWithRound_1 : decode cX0_firstWithRound 1 = .ok (.istore_n 1, 1) := by decide +kernel
theorem dX0_firstWithRound_2 : decode cX0_firstWithRound 2 = .ok (.iload_n 1, 1) := by decide +kernel
theorem dX0_firstWithRound_3 : decode cX0_firstWithRound 3 = .ok (.iconst 4, 1) := by decide +kernel
theorem dX0_firstWithRound_4 : decode cX0_firstWithRound 4 = .ok (.if_icmp .ge 22, 3) := by decide +kernel
theorem dX0_firstWithRound_7 : decode cX0_firstWithRound 7 = .ok (.aload_n 0, 1) := by decide +kernel
theorem dX0_firstWithRound_8 : decode cX0_firstWithRound 8 = .ok (.getfield 23, 3) := by decide +kernel
theorem dX0_firstWithRound_11 : decode cX0_firstWithRound 11 = .ok (.iload_n 1, 1) := by decide +kernel
theorem dX0_firstWithRound_12 : decode cX0_firstWithRound 12 = .ok (.invokevirtual 49, 3) := by decide +kernel
theorem dX0_firstWithRound_15 : decode cX0_firstWithRound 15 = .ok (.ifCond .le 5, 3) := by decide +kernel
theorem dX0_firstWithRound_18 : decode cX0_firstWithRound 18 = .ok (.iload_n 1, 1) := by decide +kernel
theorem dX0_firstWithRound_19 : decode cX0_firstWithRound 19 = .ok (.ireturn, 1) := by decide +kernel
theorem dX0_firstWithRound_20 : decode cX0_firstWithRound 20 = .ok (.iinc 1 1, 3) := by decide +kernel
theorem dX0_firstWithRound_23 : decode cX0_firstWithRound 23 = .ok (.goto (-21), 3) := by decide +kernel
theorem dX0_firstWithRound_26 : decode cX0_firstWithRound 26 = .ok (.iconst 4, 1) := by decide +kernel
theorem dX0_firstWithRound_27 : decode cX0_firstWithRound 27 = .ok (.ireturn, 1) := by decide +kernel
theorem dX0_shiftOn_0 : decode cX0_shiftOn 0 = .ok (.iconst 3, 1) := by decide +kernel
theorem dX0_shiftOn_1 : decode cX0_shiftOn 1 = .ok (.istore_n 2, 1) := by decide +kernel
theorem dX0_shiftOn_2 : decode cX0_shiftOn 2 = .ok (.iload_n 2, 1) := by decide +kernel
theorem dX0_shiftOn_3 : decode cX0_shiftOn 3 = .ok (.iload_n 1, 1) := by decide +kernel
theorem dX0_shiftOn_4 : decode cX0_shiftOn 4 = .ok (.if_icmp .le 58, 3) := by decide +kernel
theorem dX0_shiftOn_7 : decode cX0_shiftOn 7 = .ok (.aload_n 0, 1) := by decide +kernel
theorem dX0_shiftOn_8 : decode cX0_shiftOn 8 = .ok (.getfield 23, 3) := by decide +kernel
theorem dX0_shiftOn_11 : decode cX0_shiftOn 11 = .ok (.iload_n 2, 1) := by decide +kernel
theorem dX0_shiftOn_12 : decode cX0_shiftOn 12 = .ok (.invokevirtual 61, 3) := by decide +kernel
theorem dX0_shiftOn_15 : decode cX0_shiftOn 15 = .ok (.iconst 1, 1) := by decide +kernel
theorem dX0_shiftOn_16 : decode cX0_shiftOn 16 = .ok (.iadd, 1) := by decide +kernel
theorem dX0_shiftOn_17 : decode cX0_shiftOn 17 = .ok (.aload_n 0, 1) := by decide +kernel
theorem dX0_shiftOn_18 : decode cX0_shiftOn 18 = .ok (.getfield 23, 3) := by decide +kernel
theorem dX0_shiftOn_21 : decode cX0_shiftOn 21 = .ok (.iload_n 2, 1) := by decide +kernel
theorem dX0_shiftOn_22 : decode cX0_shiftOn 22 = .ok (.invokevirtual 49, 3) := by decide +kernel
theorem dX0_shiftOn_25 : decode cX0_shiftOn 25 = .ok (.if_icmp .ge 22, 3) := by decide +kernel
theorem dX0_shiftOn_28 : decode cX0_shiftOn 28 = .ok (.aload_n 0, 1) := by decide +kernel
theorem dX0_shiftOn_29 : decode cX0_shiftOn 29 = .ok (.getfield 23, 3) := by decide +kernel
theorem dX0_shiftOn_32 : decode cX0_shiftOn 32 = .ok (.iload_n 2, 1) := by decide +kernel
theorem dX0_shiftOn_33 : decode cX0_shiftOn 33 = .ok (.aload_n 0, 1) := by decide +kernel
theorem dX0_shiftOn_34 : decode cX0_shiftOn 34 = .ok (.getfield 23, 3) := by decide +kernel
theorem dX0_shiftOn_37 : decode cX0_shiftOn 37 = .ok (.iload_n 2, 1) := by decide +kernel
theorem dX0_shiftOn_38 : decode cX0_shiftOn 38 = .ok (.invokevirtual 61, 3) := by decide +kernel
theorem dX0_shiftOn_41 : decode cX0_shiftOn 41 = .ok (.iconst 1, 1) := by decide +kernel
theorem dX0_shiftOn_42 : decode cX0_shiftOn 42 = .ok (.iadd, 1) := by decide +kernel
theorem dX0_shiftOn_43 : decode cX0_shiftOn 43 = .ok (.invokevirtual 82, 3) := by decide +kernel
theorem dX0_shiftOn_46 : decode cX0_shiftOn 46 = .ok (.return_, 1) := by decide +kernel
theorem dX0_shiftOn_47 : decode cX0_shiftOn 47 = .ok (.aload_n 0, 1) := by decide +kernel
theorem dX0_shiftOn_48 : decode cX0_shiftOn 48 = .ok (.getfield 23, 3) := by decide +kernel
theorem dX0_shiftOn_51 : decode cX0_shiftOn 51 = .ok (.iload_n 2, 1) := by decide +kernel
theorem dX0_shiftOn_52 : decode cX0_shiftOn 52 = .ok (.iconst 0, 1) := by decide +kernel
theorem dX0_shiftOn_53 : decode cX0_shiftOn 53 = .ok (.invokevirtual 82, 3) := by decide +kernel
theorem dX0_shiftOn_56 : decode cX0_shiftOn 56 = .ok (.iinc 2 (-1), 3) := by decide +kernel
theorem dX0_shiftOn_59 : decode cX0_shiftOn 59 = .ok (.goto (-57), 3) := by decide +kernel
theorem dX0_shiftOn_62 : decode cX0_shiftOn 62 = .ok (.return_, 1) := by decide +kernel
theorem dX0_keepShifts_0 : decode cX0_keepShifts 0 = .ok (.iconst 0, 1) := by decide +kernel
theorem dX0_keepShifts_1 : decode cX0_keepShifts 1 = .ok (.istore_n 1, 1) := by decide +kernel
theorem dX0_keepShifts_2 : decode cX0_keepShifts 2 = .ok (.iload_n 1, 1) := by decide +kernel
theorem dX0_keepShifts_3 : decode cX0_keepShifts 3 = .ok (.iconst 4, 1) := by decide +kernel
theorem dX0_keepShifts_4 : decode cX0_keepShifts 4 = .ok (.if_icmp .ge 23, 3) := by decide +kernel
theorem dX0_keepShifts_7 : decode cX0_keepShifts 7 = .ok (.aload_n 0, 1) := by decide +kernel
theorem dX0_keepShifts_8 : decode cX0_keepShifts 8 = .ok (.getfield 15, 3) := by decide +kernel
theorem dX0_keepShifts_11 : decode cX0_keepShifts 11 = .ok (.iload_n 1, 1) := by decide +kernel
theorem dX0_keepShifts_12 : decode cX0_keepShifts 12 = .ok (.aload_n 0, 1) := by decide +kernel
theorem dX0_keepShifts_13 : decode cX0_keepShifts 13 = .ok (.getfield 23, 3) := by decide +kernel
theorem dX0_keepShifts_16 : decode cX0_keepShifts 16 = .ok (.iload_n 1, 1) := by decide +kernel
theorem dX0_keepShifts_17 : decode cX0_keepShifts 17 = .ok (.invokevirtual 61, 3) := by decide +kernel
theorem dX0_keepShifts_20 : decode cX0_keepShifts 20 = .ok (.iastore, 1) := by decide +kernel
theorem dX0_keepShifts_21 : decode cX0_keepShifts 21 = .ok (.iinc 1 1, 3) := by decide +kernel
theorem dX0_keepShifts_24 : decode cX0_keepShifts 24 = .ok (.goto (-22), 3) := by decide +kernel
theorem dX0_keepShifts_27 : decode cX0_keepShifts 27 = .ok (.return_, 1) := by decide +kernel
theorem dX1_init_0 : decode cX1_init 0 = .ok (.aload_n 0, 1) := by decide +kernel
theorem dX1_init_1 : decode cX1_init 1 = .ok (.invokespecial 3, 3) := by decide +kernel
theorem dX1_init_4 : decode cX1_init 4 = .ok (.aload_n 0, 1) := by decide +kernel
theorem dX1_init_5 : decode cX1_init 5 = .ok (.bipush 64, 2) := by decide +kernel
theorem dX1_init_7 : decode cX1_init 7 = .ok (.newarray .int, 2) := by decide +kernel
theorem dX1_init_9 : decode cX1_init 9 = .ok (.putfield 9, 3) := by decide +kernel
theorem dX1_init_12 : decode cX1_init 12 = .ok (.aload_n 0, 1) := by decide +kernel
theorem dX1_init_13 : decode cX1_init 13 = .ok (.bipush 64, 2) := by decide +kernel
theorem dX1_init_15 : decode cX1_init 15 = .ok (.newarray .int, 2) := by decide +kernel
theorem dX1_init_17 : decode cX1_init 17 = .ok (.putfield 15, 3) := by decide +kernel
theorem dX1_init_20 : decode cX1_init 20 = .ok (.aload_n 0, 1) := by decide +kernel
theorem dX1_init_21 : decode cX1_init 21 = .ok (.bipush 64, 2) := by decide +kernel
theorem dX1_init_23 : decode cX1_init 23 = .ok (.newarray .int, 2) := by decide +kernel
theorem dX1_init_25 : decode cX1_init 25 = .ok (.putfield 18, 3) := by decide +kernel
theorem dX1_init_28 : decode cX1_init 28 = .ok (.aload_n 0, 1) := by decide +kernel
theorem dX1_init_29 : decode cX1_init 29 = .ok (.bipush 64, 2) := by decide +kernel
theorem dX1_init_31 : decode cX1_init 31 = .ok (.newarray .int, 2) := by decide +kernel
theorem dX1_init_33 : decode cX1_init 33 = .ok (.putfield 21, 3) := by decide +kernel
theorem dX1_init_36 : decode cX1_init 36 = .ok (.aload_n 0, 1) := by decide +kernel
theorem dX1_init_37 : decode cX1_init 37 = .ok (.iconst 5, 1) := by decide +kernel
theorem dX1_init_38 : decode cX1_init 38 = .ok (.iconst 5, 1) := by decide +kernel
theorem dX1_init_39 : decode cX1_init 39 = .ok (.invokevirtual 24, 3) := by decide +kernel
theorem dX1_init_42 : decode cX1_init 42 = .ok (.return_, 1) := by decide +kernel
theorem dX1_layOut_0 : decode cX1_layOut 0 = .ok (.aload_n 0, 1) := by decide +kernel
theorem dX1_layOut_1 : decode cX1_layOut 1 = .ok (.getfield 9, 3) := by decide +kernel
theorem dX1_layOut_4 : decode cX1_layOut 4 = .ok (.iconst 0, 1) := by decide +kernel
theorem dX1_layOut_5 : decode cX1_layOut 5 = .ok (.invokestatic 28, 3) := by decide +kernel
theorem dX1_layOut_8 : decode cX1_layOut 8 = .ok (.aload_n 0, 1) := by decide +kernel
theorem dX1_layOut_9 : decode cX1_layOut 9 = .ok (.iload_n 1, 1) := by decide +kernel
theorem dX1_layOut_10 : decode cX1_layOut 10 = .ok (.iload_n 2, 1) := by decide +kernel
theorem dX1_layOut_11 : decode cX1_layOut 11 = .ok (.invokevirtual 34, 3) := by decide +kernel
theorem dX1_layOut_14 : decode cX1_layOut 14 = .ok (.aload_n 0, 1) := by decide +kernel
theorem dX1_layOut_15 : decode cX1_layOut 15 = .ok (.invokevirtual 37, 3) := by decide +kernel
theorem dX1_layOut_18 : decode cX1_layOut 18 = .ok (.return_, 1) := by decide +kernel
theorem dX1_changeSides_0 : decode cX1_changeSides 0 = .ok (.aload_n 0, 1) := by decide +kernel
theorem dX1_changeSides_1 : decode cX1_changeSides 1 = .ok (.iload_n 1, 1) := by decide +kernel
theorem dX1_changeSides_2 : decode cX1_changeSides 2 = .ok (.putfield 40, 3) := by decide +kernel
theorem dX1_changeSides_5 : decode cX1_changeSides 5 = .ok (.aload_n 0, 1) := by decide +kernel
theorem dX1_changeSides_6 : decode cX1_changeSides 6 = .ok (.iload_n 2, 1) := by decide +kernel
theorem dX1_changeSides_7 : decode cX1_changeSides 7 = .ok (.putfield 44, 3) := by decide +kernel
theorem dX1_changeSides_10 : decode cX1_changeSides 10 = .ok (.aload_n 0, 1) := by decide +kernel
theorem dX1_changeSides_11 : decode cX1_changeSides 11 = .ok (.iload_n 1, 1) := by decide +kernel
theorem dX1_changeSides_12 : decode cX1_changeSides 12 = .ok (.iload_n 2, 1) := by decide +kernel
theorem dX1_changeSides_13 : decode cX1_changeSides 13 = .ok (.imul, 1) := by decide +kernel
theorem dX1_changeSides_14 : decode cX1_changeSides 14 = .ok (.putfield 47, 3) := by decide +kernel
theorem dX1_changeSides_17 : decode cX1_changeSides 17 = .ok (.aload_n 0, 1) := by decide +kernel
theorem dX1_changeSides_18 : decode cX1_changeSides 18 = .ok (.lconst 0, 1) := by decide +kernel
theorem dX1_changeSides_19 : decode cX1_changeSides 19 = .ok (.putfield 50, 3) := by decide +kernel
theorem dX1_changeSides_22 : decode cX1_changeSides 22 = .ok (.aload_n 0, 1) := by decide +kernel
theorem dX1_changeSides_23 : decode cX1_changeSides 23 = .ok (.lconst 0, 1) := by decide +kernel
theorem dX1_changeSides_24 : decode cX1_changeSides 24 = .ok (.putfield 54, 3) := by decide +kernel
theorem dX1_changeSides_27 : decode cX1_changeSides 27 = .ok (.iconst 0, 1) := by decide +kernel
theorem dX1_changeSides_28 : decode cX1_changeSides 28 = .ok (.istore_n 3, 1) := by decide +kernel
theorem dX1_changeSides_29 : decode cX1_changeSides 29 = .ok (.iload_n 3, 1) := by decide +kernel
theorem dX1_changeSides_30 : decode cX1_changeSides 30 = .ok (.iload_n 2, 1) := by decide +kernel
theorem dX1_changeSides_31 : decode cX1_changeSides 31 = .ok (.if_icmp .ge 81, 3) := by decide +kernel
theorem dX1_changeSides_34 : decode cX1_changeSides 34 = .ok (.iconst 0, 1) := by decide +kernel
theorem dX1_changeSides_35 : decode cX1_changeSides 35 = .ok (.istore 4, 2) := by decide +kernel
theorem dX1_changeSides_37 : decode cX1_changeSides 37 = .ok (.iload 4, 2) := by decide +kernel
theorem dX1_changeSides_39 : decode cX1_changeSides 39 = .ok (.iload_n 1, 1) := by decide +kernel
theorem dX1_changeSides_40 : decode cX1_changeSides 40 = .ok (.if_icmp .ge 34, 3) := by decide +kernel
theorem dX1_changeSides_43 : decode cX1_changeSides 43 = .ok (.aload_n 0, 1) := by decide +kernel
theorem dX1_changeSides_44 : decode cX1_changeSides 44 = .ok (.getfield 18, 3) := by decide +kernel
theorem dX1_changeSides_47 : decode cX1_changeSides 47 = .ok (.iload_n 3, 1) := by decide +kernel
theorem dX1_changeSides_48 : decode cX1_changeSides 48 = .ok (.iload_n 1, 1) := by decide +kernel
theorem dX1_changeSides_49 : decode cX1_changeSides 49 = .ok (.imul, 1) := by decide +kernel
theorem dX1_changeSides_50 : decode cX1_changeSides 50 = .ok (.iload 4, 2) := by decide +kernel
theorem dX1_changeSides_52 : decode cX1_changeSides 52 = .ok (.iadd, 1) := by decide +kernel
theorem dX1_changeSides_53 : decode cX1_changeSides 53 = .ok (.iload 4, 2) := by decide +kernel
theorem dX1_changeSides_55 : decode cX1_changeSides 55 = .ok (.iastore, 1) := by decide +kernel
theorem dX1_changeSides_56 : decode cX1_changeSides 56 = .ok (.aload_n 0, 1) := by decide +kernel
theorem dX1_changeSides_57 : decode cX1_changeSides 57 = .ok (.getfield 21, 3) := by decide +kernel
theorem dX1_changeSides_60 : decode cX1_changeSides 60 = .ok (.iload_n 3, 1) := by decide +kernel
theorem dX1_changeSides_61 : decode cX1_changeSides 61 = .ok (.iload_n 1, 1) := by decide +kernel
theorem dX1_changeSides_62 : decode cX1_changeSides 62 = .ok (.imul, 1) := by decide +kernel
theorem dX1_changeSides_63 : decode cX1_changeSides 63 = .ok (.iload 4, 2) := by decide +kernel
theorem dX1_changeSides_65 : decode cX1_changeSides 65 = .ok (.iadd, 1) := by decide +kernel
theorem dX1_changeSides_66 : decode cX1_changeSides 66 = .ok (.iload_n 3, 1) := by decide +kernel
theorem dX1_changeSides_67 : decode cX1_changeSides 67 = .ok (.iastore, 1) := by decide +kernel
theorem dX1_changeSides_68 : decode cX1_changeSides 68 = .ok (.iinc 4 1, 3) := by decide +kernel
theorem dX1_changeSides_71 : decode cX1_changeSides 71 = .ok (.goto (-34), 3) := by decide +kernel
theorem dX1_changeSides_74 : decode cX1_changeSides 74 = .ok (.aload_n 0, 1) := by decide +kernel
theorem dX1_changeSides_75 : decode cX1_changeSides 75 = .ok (.dup, 1) := by decide +kernel
theorem dX1_changeSides_76 : decode cX1_changeSides 76 = .ok (.getfield 50, 3) := by decide +kernel
theorem dX1_changeSides_79 : decode cX1_changeSides 79 = .ok (.lconst 1, 1) := by decide +kernel
theorem dX1_changeSides_80 : decode cX1_changeSides 80 = .ok (.iload_n 3, 1) := by decide +kernel
theorem dX1_changeSides_81 : decode cX1_changeSides 81 = .ok (.iload_n 1, 1) := by decide +kernel
theorem dX1_changeSides_82 : decode cX1_changeSides 82 = .ok (.imul, 1) := by decide +kernel
theorem dX1_changeSides_83 : decode cX1_changeSides 83 = .ok (.lshl, 1) := by decide +kernel
theorem dX1_changeSides_84 : decode cX1_changeSides 84 = .ok (.lor, 1) := by decide +kernel
theorem dX1_changeSides_85 : decode cX1_changeSides 85 = .ok (.putfield 50, 3) := by decide +kernel
theorem dX1_changeSides_88 : decode cX1_changeSides 88 = .ok (.aload_n 0, 1) := by decide +kernel
theorem dX1_changeSides_89 : decode cX1_changeSides 89 = .ok (.dup, 1) := by decide +kernel
theorem dX1_changeSides_90 : decode cX1_changeSides 90 = .ok (.getfield 54, 3) := by decide +kernel
theorem dX1_changeSides_93 : decode cX1_changeSides 93 = .ok (.lconst 1, 1) := by decide +kernel
theorem dX1_changeSides_94 : decode cX1_changeSides 94 = .ok (.iload_n 3, 1) := by decide +kernel
theorem dX1_changeSides_95 : decode cX1_changeSides 95 = .ok (.iload_n 1, 1) := by decide +kernel
theorem dX1_changeSides_96 : decode cX1_changeSides 96 = .ok (.imul, 1) := by decide +kernel
theorem dX1_changeSides_97 : decode cX1_changeSides 97 = .ok (.iload_n 1, 1) := by decide +kernel
theorem dX1_changeSides_98 : decode cX1_changeSides 98 = .ok (.iadd, 1) := by decide +kernel
theorem dX1_changeSides_99 : decode cX1_changeSides 99 = .ok (.iconst 1, 1) := by decide +kernel
theorem dX1_changeSides_100 : decode cX1_changeSides 100 = .ok (.isub, 1) := by decide +kernel
theorem dX1_changeSides_101 : decode cX1_changeSides 101 = .ok (.lshl, 1) := by decide +kernel
theorem dX1_changeSides_102 : decode cX1_changeSides 102 = .ok (.lor, 1) := by decide +kernel
theorem dX1_changeSides_103 : decode cX1_changeSides 103 = .ok (.putfield 54, 3) := by decide +kernel
theorem dX1_changeSides_106 : decode cX1_changeSides 106 = .ok (.iinc 3 1, 3) := by decide +kernel
theorem dX1_changeSides_109 : decode cX1_changeSides 109 = .ok (.goto (-80), 3) := by decide +kernel
theorem dX1_changeSides_112 : decode cX1_changeSides 112 = .ok (.return_, 1) := by decide +kernel
theorem dX1_sortKinds_0 : decode cX1_sortKinds 0 = .ok (.aload_n 0, 1) := by decide +kernel
theorem dX1_sortKinds_1 : decode cX1_sortKinds 1 = .ok (.lconst 0, 1) := by decide +kernel
theorem dX1_sortKinds_2 : decode cX1_sortKinds 2 = .ok (.putfield 57, 3) := by decide +kernel
theorem dX1_sortKinds_5 : decode cX1_sortKinds 5 = .ok (.aload_n 0, 1) := by decide +kernel
theorem dX1_sortKinds_6 : decode cX1_sortKinds 6 = .ok (.lconst 0, 1) := by decide +kernel
theorem dX1_sortKinds_7 : decode cX1_sortKinds 7 = .ok (.putfield 60, 3) := by decide +kernel
theorem dX1_sortKinds_10 : decode cX1_sortKinds 10 = .ok (.aload_n 0, 1) := by decide +kernel
theorem dX1_sortKinds_11 : decode cX1_sortKinds 11 = .ok (.lconst 0, 1) := by decide +kernel
theorem dX1_sortKinds_12 : decode cX1_sortKinds 12 = .ok (.putfield 63, 3) := by decide +kernel
theorem dX1_sortKinds_15 : decode cX1_sortKinds 15 = .ok (.iconst 0, 1) := by decide +kernel
theorem dX1_sortKinds_16 : decode cX1_sortKinds 16 = .ok (.istore_n 1, 1) := by decide +kernel
theorem dX1_sortKinds_17 : decode cX1_sortKinds 17 = .ok (.iload_n 1, 1) := by decide +kernel
theorem dX1_sortKinds_18 : decode cX1_sortKinds 18 = .ok (.aload_n 0, 1) := by decide +kernel
theorem dX1_sortKinds_19 : decode cX1_sortKinds 19 = .ok (.getfield 47, 3) := by decide +kernel
theorem dX1_sortKinds_22 : decode cX1_sortKinds 22 = .ok (.if_icmp .ge 90, 3) := by decide +kernel
theorem dX1_sortKinds_25 : decode cX1_sortKinds 25 = .ok (.lconst 1, 1) := by decide +kernel
theorem dX1_sortKinds_26 : decode cX1_sortKinds 26 = .ok (.iload_n 1, 1) := by decide +kernel
theorem dX1_sortKinds_27 : decode cX1_sortKinds 27 = .ok (.lshl, 1) := by decide +kernel
theorem dX1_sortKinds_28 : decode cX1_sortKinds 28 = .ok (.lstore_n 2, 1) := by decide +kernel
theorem dX1_sortKinds_29 : decode cX1_sortKinds 29 = .ok (.aload_n 0, 1) := by decide +kernel
theorem dX1_sortKinds_30 : decode cX1_sortKinds 30 = .ok (.getfield 9, 3) := by decide +kernel
theorem dX1_sortKinds_33 : decode cX1_sortKinds 33 = .ok (.iload_n 1, 1) := by decide +kernel
theorem dX1_sortKinds_34 : decode cX1_sortKinds 34 = .ok (.iaload, 1) := by decide +kernel
theorem dX1_sortKinds_35 : decode cX1_sortKinds 35 = .ok (.istore 4, 2) := by decide +kernel
theorem dX1_sortKinds_37 : decode cX1_sortKinds 37 = .ok (.aload_n 0, 1) := by decide +kernel
theorem dX1_sortKinds_38 : decode cX1_sortKinds 38 = .ok (.dup, 1) := by decide +kernel
theorem dX1_sortKinds_39 : decode cX1_sortKinds 39 = .ok (.getfield 57, 3) := by decide +kernel
theorem dX1_sortKinds_42 : decode cX1_sortKinds 42 = .ok (.iload 4, 2) := by decide +kernel
theorem dX1_sortKinds_44 : decode cX1_sortKinds 44 = .ok (.ifCond .ne 7, 3) := by decide +kernel
theorem dX1_sortKinds_47 : decode cX1_sortKinds 47 = .ok (.lload_n 2, 1) := by decide +kernel
theorem dX1_sortKinds_48 : decode cX1_sortKinds 48 = .ok (.goto 4, 3) := by decide +kernel
theorem dX1_sortKinds_51 : decode cX1_sortKinds 51 = .ok (.lconst 0, 1) := by decide +kernel
theorem dX1_sortKinds_52 : decode cX1_sortKinds 52 = .ok (.lor, 1) := by decide +kernel
theorem dX1_sortKinds_53 : decode cX1_sortKinds 53 = .ok (.putfield 57, 3) := by decide +kernel
theorem dX1_sortKinds_56 : decode cX1_sortKinds 56 = .ok (.aload_n 0, 1) := by decide +kernel
theorem dX1_sortKinds_57 : decode cX1_sortKinds 57 = .ok (.dup, 1) := by decide +kernel
theorem dX1_sortKinds_58 : decode cX1_sortKinds 58 = .ok (.getfield 60, 3) := by decide +kernel
theorem dX1_sortKinds_61 : decode cX1_sortKinds 61 = .ok (.iload 4, 2) := by decide +kernel
theorem dX1_sortKinds_63 : decode cX1_sortKinds 63 = .ok (.ifCond .eq 9, 3) := by decide +kernel
theorem dX1_sortKinds_66 : decode cX1_sortKinds 66 = .ok (.iload 4, 2) := by decide +kernel
theorem dX1_sortKinds_68 : decode cX1_sortKinds 68 = .ok (.iconst 2, 1) := by decide +kernel
theorem dX1_sortKinds_69 : decode cX1_sortKinds 69 = .ok (.if_icmp .ne 7, 3) := by decide +kernel
theorem dX1_sortKinds_72 : decode cX1_sortKinds 72 = .ok (.lload_n 2, 1) := by decide +kernel
theorem dX1_sortKinds_73 : decode cX1_sortKinds 73 = .ok (.goto 4, 3) := by decide +kernel
theorem dX1_sortKinds_76 : decode cX1_sortKinds 76 = .ok (.lconst 0, 1) := by decide +kernel
theorem dX1_sortKinds_77 : decode cX1_sortKinds 77 = .ok (.lor, 1) := by decide +kernel
theorem dX1_sortKinds_78 : decode cX1_sortKinds 78 = .ok (.putfield 60, 3) := by decide +kernel
theorem dX1_sortKinds_81 : decode cX1_sortKinds 81 = .ok (.aload_n 0, 1) := by decide +kernel
theorem dX1_sortKinds_82 : decode cX1_sortKinds 82 = .ok (.dup, 1) := by decide +kernel
theorem dX1_sortKinds_83 : decode cX1_sortKinds 83 = .ok (.getfield 63, 3) := by decide +kernel
theorem dX1_sortKinds_86 : decode cX1_sortKinds 86 = .ok (.iload 4, 2) := by decide +kernel
theorem dX1_sortKinds_88 : decode cX1_sortKinds 88 = .ok (.ifCond .eq 9, 3) := by decide +kernel
theorem dX1_sortKinds_91 : decode cX1_sortKinds 91 = .ok (.iload 4, 2) := by decide +kernel
theorem dX1_sortKinds_93 : decode cX1_sortKinds 93 = .ok (.iconst 3, 1) := by decide +kernel
theorem dX1_sortKinds_94 : decode cX1_sortKinds 94 = .ok (.if_icmp .ne 7, 3) := by decide +kernel
theorem dX1_sortKinds_97 : decode cX1_sortKinds 97 = .ok (.lload_n 2, 1) := by decide +kernel
theorem dX1_sortKinds_98 : decode cX1_sortKinds 98 = .ok (.goto 4, 3) := by decide +kernel
theorem dX1_sortKinds_101 : decode cX1_sortKinds 101 = .ok (.lconst 0, 1) := by decide +kernel
theorem dX1_sortKinds_102 : decode cX1_sortKinds 102 = .ok (.lor, 1) := by decide +kernel
theorem dX1_sortKinds_103 : decode cX1_sortKinds 103 = .ok (.putfield 63, 3) := by decide +kernel
theorem dX1_sortKinds_106 : decode cX1_sortKinds 106 = .ok (.iinc 1 1, 3) := by decide +kernel
theorem dX1_sortKinds_109 : decode cX1_sortKinds 109 = .ok (.goto (-92), 3) := by decide +kernel
theorem dX1_sortKinds_112 : decode cX1_sortKinds 112 = .ok (.return_, 1) := by decide +kernel
theorem dX1_width_0 : decode cX1_width 0 = .ok (.aload_n 0, 1) := by decide +kernel
theorem dX1_width_1 : decode cX1_width 1 = .ok (.getfield 40, 3) := by decide +kernel
theorem dX1_width_4 : decode cX1_width 4 = .ok (.ireturn, 1) := by decide +kernel
theorem dX1_height_0 : decode cX1_height 0 = .ok (.aload_n 0, 1) := by decide +kernel
theorem dX1_height_1 : decode cX1_height 1 = .ok (.getfield 44, 3) := by decide +kernel
theorem dX1_height_4 : decode cX1_height 4 = .ok (.ireturn, 1) := by decide +kernel
theorem dX1_size_0 : decode cX1_size 0 = .ok (.aload_n 0, 1) := by decide +kernel
theorem dX1_size_1 : decode cX1_size 1 = .ok (.getfield 47, 3) := by decide +kernel
theorem dX1_size_4 : decode cX1_size 4 = .ok (.ireturn, 1) := by decide +kernel
theorem dX1_isCell_0 : decode cX1_isCell 0 = .ok (.iload_n 1, 1) := by decide +kernel
theorem dX1_isCell_1 : decode cX1_isCell 1 = .ok (.ifCond .lt 15, 3) := by decide +kernel
theorem dX1_isCell_4 : decode cX1_isCell 4 = .ok (.iload_n 1, 1) := by decide +kernel
theorem dX1_isCell_5 : decode cX1_isCell 5 = .ok (.aload_n 0, 1) := by decide +kernel
theorem dX1_isCell_6 : decode cX1_isCell 6 = .ok (.getfield 47, 3) := by decide +kernel
theorem dX1_isCell_9 : decode cX1_isCell 9 = .ok (.if_icmp .ge 7, 3) := by decide +kernel
theorem dX1_isCell_12 : decode cX1_isCell 12 = .ok (.iconst 1, 1) := by decide +kernel
theorem dX1_isCell_13 : decode cX1_isCell 13 = .ok (.goto 4, 3) := by decide +kernel
theorem dX1_isCell_16 : decode cX1_isCell 16 = .ok (.iconst 0, 1) := by decide +kernel
theorem dX1_isCell_17 : decode cX1_isCell 17 = .ok (.ireturn, 1) := by decide +kernel
theorem dX1_columnOf_0 : decode cX1_columnOf 0 = .ok (.aload_n 0, 1) := by decide +kernel
theorem dX1_columnOf_1 : decode cX1_columnOf 1 = .ok (.getfield 18, 3) := by decide +kernel
theorem dX1_columnOf_4 : decode cX1_columnOf 4 = .ok (.iload_n 1, 1) := by decide +kernel
theorem dX1_columnOf_5 : decode cX1_columnOf 5 = .ok (.iaload, 1) := by decide +kernel
theorem dX1_columnOf_6 : decode cX1_columnOf 6 = .ok (.ireturn, 1) := by decide +kernel
theorem dX1_rowOf_0 : decode cX1_rowOf 0 = .ok (.aload_n 0, 1) := by decide +kernel
theorem dX1_rowOf_1 : decode cX1_rowOf 1 = .ok (.getfield 21, 3) := by decide +kernel
theorem dX1_rowOf_4 : decode cX1_rowOf 4 = .ok (.iload_n 1, 1) := by decide +kernel
theorem dX1_rowOf_5 : decode cX1_rowOf 5 = .ok (.iaload, 1) := by decide +kernel
theorem dX1_rowOf_6 : decode cX1_rowOf 6 = .ok (.ireturn, 1) := by decide +kernel
theorem dX1_kindOf_0 : decode cX1_kindOf 0 = .ok (.aload_n 0, 1) := by decide +kernel
theorem dX1_kindOf_1 : decode cX1_kindOf 1 = .ok (.getfield 9, 3) := by decide +kernel
theorem dX1_kindOf_4 : decode cX1_kindOf 4 = .ok (.iload_n 1, 1) := by decide +kernel
theorem dX1_kindOf_5 : decode cX1_kindOf 5 = .ok (.iaload, 1) := by decide +kernel
theorem dX1_kindOf_6 : decode cX1_kindOf 6 = .ok (.ireturn, 1) := by decide +kernel
theorem dX1_change_0 : decode cX1_change 0 = .ok (.aload_n 0, 1) := by decide +kernel
theorem dX1_change_1 : decode cX1_change 1 = .ok (.getfield 9, 3) := by decide +kernel
theorem dX1_change_4 : decode cX1_change 4 = .ok (.iload_n 1, 1) := by decide +kernel
theorem dX1_change_5 : decode cX1_change 5 = .ok (.iload_n 2, 1) := by decide +kernel
theorem dX1_change_6 : decode cX1_change 6 = .ok (.iastore, 1) := by decide +kernel
theorem dX1_change_7 : decode cX1_change 7 = .ok (.aload_n 0, 1) := by decide +kernel
theorem dX1_change_8 : decode cX1_change 8 = .ok (.invokevirtual 37, 3) := by decide +kernel
theorem dX1_change_11 : decode cX1_change 11 = .ok (.return_, 1) := by decide +kernel
theorem dX1_isFloor_0 : decode cX1_isFloor 0 = .ok (.aload_n 0, 1) := by decide +kernel
theorem dX1_isFloor_1 : decode cX1_isFloor 1 = .ok (.getfield 57, 3) := by decide +kernel
theorem dX1_isFloor_4 : decode cX1_isFloor 4 = .ok (.iload_n 1, 1) := by decide +kernel
theorem dX1_isFloor_5 : decode cX1_isFloor 5 = .ok (.invokestatic 66, 3) := by decide +kernel
theorem dX1_isFloor_8 : decode cX1_isFloor 8 = .ok (.ireturn, 1) := by decide +kernel
theorem dX1_mayStand_0 : decode cX1_mayStand 0 = .ok (.aload_n 0, 1) := by decide +kernel
theorem dX1_mayStand_1 : decode cX1_mayStand 1 = .ok (.getfield 63, 3) := by decide +kernel
theorem dX1_mayStand_4 : decode cX1_mayStand 4 = .ok (.iload_n 1, 1) := by decide +kernel
theorem dX1_mayStand_5 : decode cX1_mayStand 5 = .ok (.invokestatic 66, 3) := by decide +kernel
theorem dX1_mayStand_8 : decode cX1_mayStand 8 = .ok (.ireturn, 1) := by decide +kernel
theorem dX1_standing_0 : decode cX1_standing 0 = .ok (.aload_n 0, 1) := by decide +kernel
theorem dX1_standing_1 : decode cX1_standing 1 = .ok (.getfield 63, 3) := by decide +kernel
theorem dX1_standing_4 : decode cX1_standing 4 = .ok (.lreturn, 1) := by decide +kernel
theorem dX1_isClear_0 : decode cX1_isClear 0 = .ok (.aload_n 0, 1) := by decide +kernel
theorem dX1_isClear_1 : decode cX1_isClear 1 = .ok (.getfield 60, 3) := by decide +kernel
theorem dX1_isClear_4 : decode cX1_isClear 4 = .ok (.iload_n 2, 1) := by decide +kernel
theorem dX1_isClear_5 : decode cX1_isClear 5 = .ok (.aload_n 0, 1) := by decide +kernel
theorem dX1_isClear_6 : decode cX1_isClear 6 = .ok (.getfield 40, 3) := by decide +kernel
theorem dX1_isClear_9 : decode cX1_isClear 9 = .ok (.imul, 1) := by decide +kernel
theorem dX1_isClear_10 : decode cX1_isClear 10 = .ok (.iload_n 1, 1) := by decide +kernel
theorem dX1_isClear_11 : decode cX1_isClear 11 = .ok (.iadd, 1) := by decide +kernel
theorem dX1_isClear_12 : decode cX1_isClear 12 = .ok (.lushr, 1) := by decide +kernel
theorem dX1_isClear_13 : decode cX1_isClear 13 = .ok (.lconst 1, 1) := by decide +kernel
theorem dX1_isClear_14 : decode cX1_isClear 14 = .ok (.land, 1) := by decide +kernel
theorem dX1_isClear_15 : decode cX1_isClear 15 = .ok (.lconst 0, 1) := by decide +kernel
theorem dX1_isClear_16 : decode cX1_isClear 16 = .ok (.lcmp, 1) := by decide +kernel
theorem dX1_isClear_17 : decode cX1_isClear 17 = .ok (.ifCond .eq 7, 3) := by decide +kernel
theorem dX1_isClear_20 : decode cX1_isClear 20 = .ok (.iconst 1, 1) := by decide +kernel
theorem dX1_isClear_21 : decode cX1_isClear 21 = .ok (.goto 4, 3) := by decide +kernel
theorem dX1_isClear_24 : decode cX1_isClear 24 = .ok (.iconst 0, 1) := by decide +kernel
theorem dX1_isClear_25 : decode cX1_isClear 25 = .ok (.ireturn, 1) := by decide +kernel
theorem dX1_placeAfter_0 : decode cX1_placeAfter 0 = .ok (.aload_n 0, 1) := by decide +kernel
theorem dX1_placeAfter_1 : decode cX1_placeAfter 1 = .ok (.getfield 18, 3) := by decide +kernel
theorem dX1_placeAfter_4 : decode cX1_placeAfter 4 = .ok (.iload_n 1, 1) := by decide +kernel
theorem dX1_placeAfter_5 : decode cX1_placeAfter 5 = .ok (.iaload, 1) := by decide +kernel
theorem dX1_placeAfter_6 : decode cX1_placeAfter 6 = .ok (.getstatic 70, 3) := by decide +kernel
theorem dX1_placeAfter_9 : decode cX1_placeAfter 9 = .ok (.iload_n 2, 1) := by decide +kernel
theorem dX1_placeAfter_10 : decode cX1_placeAfter 10 = .ok (.iaload, 1) := by decide +kernel
theorem dX1_placeAfter_11 : decode cX1_placeAfter 11 = .ok (.iadd, 1) := by decide +kernel
theorem dX1_placeAfter_12 : decode cX1_placeAfter 12 = .ok (.istore_n 3, 1) := by decide +kernel
theorem dX1_placeAfter_13 : decode cX1_placeAfter 13 = .ok (.aload_n 0, 1) := by decide +kernel
theorem dX1_placeAfter_14 : decode cX1_placeAfter 14 = .ok (.getfield 21, 3) := by decide +kernel
theorem dX1_placeAfter_17 : decode cX1_placeAfter 17 = .ok (.iload_n 1, 1) := by decide +kernel
theorem dX1_placeAfter_18 : decode cX1_placeAfter 18 = .ok (.iaload, 1) := by decide +kernel
theorem dX1_placeAfter_19 : decode cX1_placeAfter 19 = .ok (.getstatic 73, 3) := by decide +kernel
theorem dX1_placeAfter_22 : decode cX1_placeAfter 22 = .ok (.iload_n 2, 1) := by decide +kernel
theorem dX1_placeAfter_23 : decode cX1_placeAfter 23 = .ok (.iaload, 1) := by decide +kernel
theorem dX1_placeAfter_24 : decode cX1_placeAfter 24 = .ok (.iadd, 1) := by decide +kernel
theorem dX1_placeAfter_25 : decode cX1_placeAfter 25 = .ok (.istore 4, 2) := by decide +kernel
theorem dX1_placeAfter_27 : decode cX1_placeAfter 27 = .ok (.iload_n 3, 1) := by decide +kernel
theorem dX1_placeAfter_28 : decode cX1_placeAfter 28 = .ok (.ifCond .lt 25, 3) := by decide +kernel
theorem dX1_placeAfter_31 : decode cX1_placeAfter 31 = .ok (.iload_n 3, 1) := by decide +kernel
theorem dX1_placeAfter_32 : decode cX1_placeAfter 32 = .ok (.aload_n 0, 1) := by decide +kernel
theorem dX1_placeAfter_33 : decode cX1_placeAfter 33 = .ok (.getfield 40, 3) := by decide +kernel
theorem dX1_placeAfter_36 : decode cX1_placeAfter 36 = .ok (.if_icmp .ge 17, 3) := by decide +kernel
theorem dX1_placeAfter_39 : decode cX1_placeAfter 39 = .ok (.iload 4, 2) := by decide +kernel
theorem dX1_placeAfter_41 : decode cX1_placeAfter 41 = .ok (.ifCond .lt 12, 3) := by decide +kernel
theorem dX1_placeAfter_44 : decode cX1_placeAfter 44 = .ok (.iload 4, 2) := by decide +kernel
theorem dX1_placeAfter_46 : decode cX1_placeAfter 46 = .ok (.aload_n 0, 1) := by decide +kernel
theorem dX1_placeAfter_47 : decode cX1_placeAfter 47 = .ok (.getfield 44, 3) := by decide +kernel
theorem dX1_placeAfter_50 : decode cX1_placeAfter 50 = .ok (.if_icmp .lt 5, 3) := by decide +kernel
theorem dX1_placeAfter_53 : decode cX1_placeAfter 53 = .ok (.iconst (-1), 1) := by decide +kernel
theorem dX1_placeAfter_54 : decode cX1_placeAfter 54 = .ok (.ireturn, 1) := by decide +kernel
theorem dX1_placeAfter_55 : decode cX1_placeAfter 55 = .ok (.iload 4, 2) := by decide +kernel
theorem dX1_placeAfter_57 : decode cX1_placeAfter 57 = .ok (.aload_n 0, 1) := by decide +kernel
theorem dX1_placeAfter_58 : decode cX1_placeAfter 58 = .ok (.getfield 40, 3) := by decide +kernel
theorem dX1_placeAfter_61 : decode cX1_placeAfter 61 = .ok (.imul, 1) := by decide +kernel
theorem dX1_placeAfter_62 : decode cX1_placeAfter 62 = .ok (.iload_n 3, 1) := by decide +kernel
theorem dX1_placeAfter_63 : decode cX1_placeAfter 63 = .ok (.iadd, 1) := by decide +kernel
theorem dX1_placeAfter_64 : decode cX1_placeAfter 64 = .ok (.istore 5, 2) := by decide +kernel
theorem dX1_placeAfter_66 : decode cX1_placeAfter 66 = .ok (.aload_n 0, 1) := by decide +kernel
theorem dX1_placeAfter_67 : decode cX1_placeAfter 67 = .ok (.iload 5, 2) := by decide +kernel
theorem dX1_placeAfter_69 : decode cX1_placeAfter 69 = .ok (.invokevirtual 76, 3) := by decide +kernel
theorem dX1_placeAfter_72 : decode cX1_placeAfter 72 = .ok (.ifCond .eq 8, 3) := by decide +kernel
theorem dX1_placeAfter_75 : decode cX1_placeAfter 75 = .ok (.iload 5, 2) := by decide +kernel
theorem dX1_placeAfter_77 : decode cX1_placeAfter 77 = .ok (.goto 4, 3) := by decide +kernel
theorem dX1_placeAfter_80 : decode cX1_placeAfter 80 = .ok (.iconst (-1), 1) := by decide +kernel
theorem dX1_placeAfter_81 : decode cX1_placeAfter 81 = .ok (.ireturn, 1) := by decide +kernel
theorem dX1_areNeighbours_0 : decode cX1_areNeighbours 0 = .ok (.aload_n 0, 1) := by decide +kernel
theorem dX1_areNeighbours_1 : decode cX1_areNeighbours 1 = .ok (.getfield 18, 3) := by decide +kernel
theorem dX1_areNeighbours_4 : decode cX1_areNeighbours 4 = .ok (.iload_n 1, 1) := by decide +kernel
theorem dX1_areNeighbours_5 : decode cX1_areNeighbours 5 = .ok (.iaload, 1) := by decide +kernel
theorem dX1_areNeighbours_6 : decode cX1_areNeighbours 6 = .ok (.aload_n 0, 1) := by decide +kernel
theorem dX1_areNeighbours_7 : decode cX1_areNeighbours 7 = .ok (.getfield 18, 3) := by decide +kernel
theorem dX1_areNeighbours_10 : decode cX1_areNeighbours 10 = .ok (.iload_n 2, 1) := by decide +kernel
theorem dX1_areNeighbours_11 : decode cX1_areNeighbours 11 = .ok (.iaload, 1) := by decide +kernel
theorem dX1_areNeighbours_12 : decode cX1_areNeighbours 12 = .ok (.isub, 1) := by decide +kernel
theorem dX1_areNeighbours_13 : decode cX1_areNeighbours 13 = .ok (.invokestatic 80, 3) := by decide +kernel
theorem dX1_areNeighbours_16 : decode cX1_areNeighbours 16 = .ok (.aload_n 0, 1) := by decide +kernel
theorem dX1_areNeighbours_17 : decode cX1_areNeighbours 17 = .ok (.getfield 21, 3) := by decide +kernel
theorem dX1_areNeighbours_20 : decode cX1_areNeighbours 20 = .ok (.iload_n 1, 1) := by decide +kernel
theorem dX1_areNeighbours_21 : decode cX1_areNeighbours 21 = .ok (.iaload, 1) := by decide +kernel
theorem dX1_areNeighbours_22 : decode cX1_areNeighbours 22 = .ok (.aload_n 0, 1) := by decide +kernel
theorem dX1_areNeighbours_23 : decode cX1_areNeighbours 23 = .ok (.getfield 21, 3) := by decide +kernel
theorem dX1_areNeighbours_26 : decode cX1_areNeighbours 26 = .ok (.iload_n 2, 1) := by decide +kernel
theorem dX1_areNeighbours_27 : decode cX1_areNeighbours 27 = .ok (.iaload, 1) := by decide +kernel
theorem dX1_areNeighbours_28 : decode cX1_areNeighbours 28 = .ok (.isub, 1) := by decide +kernel
theorem dX1_areNeighbours_29 : decode cX1_areNeighbours 29 = .ok (.invokestatic 80, 3) := by decide +kernel
theorem dX1_areNeighbours_32 : decode cX1_areNeighbours 32 = .ok (.iadd, 1) := by decide +kernel
theorem dX1_areNeighbours_33 : decode cX1_areNeighbours 33 = .ok (.istore_n 3, 1) := by decide +kernel
theorem dX1_areNeighbours_34 : decode cX1_areNeighbours 34 = .ok (.iload_n 3, 1) := by decide +kernel
theorem dX1_areNeighbours_35 : decode cX1_areNeighbours 35 = .ok (.iconst 1, 1) := by decide +kernel
theorem dX1_areNeighbours_36 : decode cX1_areNeighbours 36 = .ok (.if_icmp .ne 23, 3) := by decide +kernel
theorem dX1_areNeighbours_39 : decode cX1_areNeighbours 39 = .ok (.aload_n 0, 1) := by decide +kernel
theorem dX1_areNeighbours_40 : decode cX1_areNeighbours 40 = .ok (.iload_n 1, 1) := by decide +kernel
theorem dX1_areNeighbours_41 : decode cX1_areNeighbours 41 = .ok (.invokevirtual 76, 3) := by decide +kernel
theorem dX1_areNeighbours_44 : decode cX1_areNeighbours 44 = .ok (.ifCond .eq 15, 3) := by decide +kernel
theorem dX1_areNeighbours_47 : decode cX1_areNeighbours 47 = .ok (.aload_n 0, 1) := by decide +kernel
theorem dX1_areNeighbours_48 : decode cX1_areNeighbours 48 = .ok (.iload_n 2, 1) := by decide +kernel
theorem dX1_areNeighbours_49 : decode cX1_areNeighbours 49 = .ok (.invokevirtual 76, 3) := by decide +kernel
theorem dX1_areNeighbours_52 : decode cX1_areNeighbours 52 = .ok (.ifCond .eq 7, 3) := by decide +kernel
theorem dX1_areNeighbours_55 : decode cX1_areNeighbours 55 = .ok (.iconst 1, 1) := by decide +kernel
theorem dX1_areNeighbours_56 : decode cX1_areNeighbours 56 = .ok (.goto 4, 3) := by decide +kernel
theorem dX1_areNeighbours_59 : decode cX1_areNeighbours 59 = .ok (.iconst 0, 1) := by decide +kernel
theorem dX1_areNeighbours_60 : decode cX1_areNeighbours 60 = .ok (.ireturn, 1) := by decide +kernel
theorem dX1_spread_0 : decode cX1_spread 0 = .ok (.lload_n 1, 1) := by decide +kernel
theorem dX1_spread_1 : decode cX1_spread 1 = .ok (.aload_n 0, 1) := by decide +kernel
theorem dX1_spread_2 : decode cX1_spread 2 = .ok (.getfield 54, 3) := by decide +kernel
theorem dX1_spread_5 : decode cX1_spread 5 = .ok (.ldc2_w 86, 3) := by decide +kernel
theorem dX1_spread_8 : decode cX1_spread 8 = .ok (.lxor, 1) := by decide +kernel
theorem dX1_spread_9 : decode cX1_spread 9 = .ok (.land, 1) := by decide +kernel
theorem dX1_spread_10 : decode cX1_spread 10 = .ok (.iconst 1, 1) := by decide +kernel
theorem dX1_spread_11 : decode cX1_spread 11 = .ok (.lshl, 1) := by decide +kernel
theorem dX1_spread_12 : decode cX1_spread 12 = .ok (.lload_n 1, 1) := by decide +kernel
theorem dX1_spread_13 : decode cX1_spread 13 = .ok (.aload_n 0, 1) := by decide +kernel
theorem dX1_spread_14 : decode cX1_spread 14 = .ok (.getfield 50, 3) := by decide +kernel
theorem dX1_spread_17 : decode cX1_spread 17 = .ok (.ldc2_w 86, 3) := by decide +kernel
theorem dX1_spread_20 : decode cX1_spread 20 = .ok (.lxor, 1) := by decide +kernel
theorem dX1_spread_21 : decode cX1_spread 21 = .ok (.land, 1) := by decide +kernel
theorem dX1_spread_22 : decode cX1_spread 22 = .ok (.iconst 1, 1) := by decide +kernel
theorem dX1_spread_23 : decode cX1_spread 23 = .ok (.lushr, 1) := by decide +kernel
theorem dX1_spread_24 : decode cX1_spread 24 = .ok (.lor, 1) := by decide +kernel
theorem dX1_spread_25 : decode cX1_spread 25 = .ok (.lstore_n 3, 1) := by decide +kernel
theorem dX1_spread_26 : decode cX1_spread 26 = .ok (.lload_n 1, 1) := by decide +kernel
theorem dX1_spread_27 : decode cX1_spread 27 = .ok (.lload_n 3, 1) := by decide +kernel
theorem dX1_spread_28 : decode cX1_spread 28 = .ok (.lor, 1) := by decide +kernel
theorem dX1_spread_29 : decode cX1_spread 29 = .ok (.lload_n 1, 1) := by decide +kernel
theorem dX1_spread_30 : decode cX1_spread 30 = .ok (.aload_n 0, 1) := by decide +kernel
theorem dX1_spread_31 : decode cX1_spread 31 = .ok (.getfield 40, 3) := by decide +kernel
theorem dX1_spread_34 : decode cX1_spread 34 = .ok (.lshl, 1) := by decide +kernel
theorem dX1_spread_35 : decode cX1_spread 35 = .ok (.lor, 1) := by decide +kernel
theorem dX1_spread_36 : decode cX1_spread 36 = .ok (.lload_n 1, 1) := by decide +kernel
theorem dX1_spread_37 : decode cX1_spread 37 = .ok (.aload_n 0, 1) := by decide +kernel
theorem dX1_spread_38 : decode cX1_spread 38 = .ok (.getfield 40, 3) := by decide +kernel
theorem dX1_spread_41 : decode cX1_spread 41 = .ok (.lushr, 1) := by decide +kernel
theorem dX1_spread_42 : decode cX1_spread 42 = .ok (.lor, 1) := by decide +kernel
theorem dX1_spread_43 : decode cX1_spread 43 = .ok (.aload_n 0, 1) := by decide +kernel
theorem dX1_spread_44 : decode cX1_spread 44 = .ok (.getfield 63, 3) := by decide +kernel
theorem dX1_spread_47 : decode cX1_spread 47 = .ok (.land, 1) := by decide +kernel
theorem dX1_spread_48 : decode cX1_spread 48 = .ok (.lreturn, 1) := by decide +kernel
theorem dX1_stepsBetween_0 : decode cX1_stepsBetween 0 = .ok (.lconst 1, 1) := by decide +kernel
theorem dX1_stepsBetween_1 : decode cX1_stepsBetween 1 = .ok (.iload_n 1, 1) := by decide +kernel
theorem dX1_stepsBetween_2 : decode cX1_stepsBetween 2 = .ok (.lshl, 1) := by decide +kernel
theorem dX1_stepsBetween_3 : decode cX1_stepsBetween 3 = .ok (.aload_n 0, 1) := by decide +kernel
theorem dX1_stepsBetween_4 : decode cX1_stepsBetween 4 = .ok (.getfield 63, 3) := by decide +kernel
theorem dX1_stepsBetween_7 : decode cX1_stepsBetween 7 = .ok (.land, 1) := by decide +kernel
theorem dX1_stepsBetween_8 : decode cX1_stepsBetween 8 = .ok (.lstore_n 3, 1) := by decide +kernel
theorem dX1_stepsBetween_9 : decode cX1_stepsBetween 9 = .ok (.iconst 0, 1) := by decide +kernel
theorem dX1_stepsBetween_10 : decode cX1_stepsBetween 10 = .ok (.istore 5, 2) := by decide +kernel
theorem dX1_stepsBetween_12 : decode cX1_stepsBetween 12 = .ok (.iload 5, 2) := by decide +kernel
theorem dX1_stepsBetween_14 : decode cX1_stepsBetween 14 = .ok (.aload_n 0, 1) := by decide +kernel
theorem dX1_stepsBetween_15 : decode cX1_stepsBetween 15 = .ok (.getfield 47, 3) := by decide +kernel
theorem dX1_stepsBetween_18 : decode cX1_stepsBetween 18 = .ok (.if_icmp .ge 26, 3) := by decide +kernel
theorem dX1_stepsBetween_21 : decode cX1_stepsBetween 21 = .ok (.lload_n 3, 1) := by decide +kernel
theorem dX1_stepsBetween_22 : decode cX1_stepsBetween 22 = .ok (.iload_n 2, 1) := by decide +kernel
theorem dX1_stepsBetween_23 : decode cX1_stepsBetween 23 = .ok (.invokestatic 66, 3) := by decide +kernel
theorem dX1_stepsBetween_26 : decode cX1_stepsBetween 26 = .ok (.ifCond .eq 6, 3) := by decide +kernel
theorem dX1_stepsBetween_29 : decode cX1_stepsBetween 29 = .ok (.iload 5, 2) := by decide +kernel
theorem dX1_stepsBetween_31 : decode cX1_stepsBetween 31 = .ok (.ireturn, 1) := by decide +kernel
theorem dX1_stepsBetween_32 : decode cX1_stepsBetween 32 = .ok (.aload_n 0, 1) := by decide +kernel
theorem dX1_stepsBetween_33 : decode cX1_stepsBetween 33 = .ok (.lload_n 3, 1) := by decide +kernel
theorem dX1_stepsBetween_34 : decode cX1_stepsBetween 34 = .ok (.invokevirtual 88, 3) := by decide +kernel
theorem dX1_stepsBetween_37 : decode cX1_stepsBetween 37 = .ok (.lstore_n 3, 1) := by decide +kernel
theorem dX1_stepsBetween_38 : decode cX1_stepsBetween 38 = .ok (.iinc 5 1, 3) := by decide +kernel
theorem dX1_stepsBetween_41 : decode cX1_stepsBetween 41 = .ok (.goto (-29), 3) := by decide +kernel
theorem dX1_stepsBetween_44 : decode cX1_stepsBetween 44 = .ok (.bipush (-9), 2) := by decide +kernel
theorem dX1_stepsBetween_46 : decode cX1_stepsBetween 46 = .ok (.ireturn, 1) := by decide +kernel
theorem dX1_turnedPlace_0 : decode cX1_turnedPlace 0 = .ok (.aload_n 0, 1) := by decide +kernel
theorem dX1_turnedPlace_1 : decode cX1_turnedPlace 1 = .ok (.getfield 18, 3) := by decide +kernel
theorem dX1_turnedPlace_4 : decode cX1_turnedPlace 4 = .ok (.iload_n 1, 1) := by decide +kernel
theorem dX1_turnedPlace_5 : decode cX1_turnedPlace 5 = .ok (.iaload, 1) := by decide +kernel
theorem dX1_turnedPlace_6 : decode cX1_turnedPlace 6 = .ok (.aload_n 0, 1) := by decide +kernel
theorem dX1_turnedPlace_7 : decode cX1_turnedPlace 7 = .ok (.getfield 44, 3) := by decide +kernel
theorem dX1_turnedPlace_10 : decode cX1_turnedPlace 10 = .ok (.imul, 1) := by decide +kernel
theorem dX1_turnedPlace_11 : decode cX1_turnedPlace 11 = .ok (.aload_n 0, 1) := by decide +kernel
theorem dX1_turnedPlace_12 : decode cX1_turnedPlace 12 = .ok (.getfield 44, 3) := by decide +kernel
theorem dX1_turnedPlace_15 : decode cX1_turnedPlace 15 = .ok (.iadd, 1) := by decide +kernel
theorem dX1_turnedPlace_16 : decode cX1_turnedPlace 16 = .ok (.iconst 1, 1) := by decide +kernel
theorem dX1_turnedPlace_17 : decode cX1_turnedPlace 17 = .ok (.isub, 1) := by decide +kernel
theorem dX1_turnedPlace_18 : decode cX1_turnedPlace 18 = .ok (.aload_n 0, 1) := by decide +kernel
theorem dX1_turnedPlace_19 : decode cX1_turnedPlace 19 = .ok (.getfield 21, 3) := by decide +kernel
theorem dX1_turnedPlace_22 : decode cX1_turnedPlace 22 = .ok (.iload_n 1, 1) := by decide +kernel
theorem dX1_turnedPlace_23 : decode cX1_turnedPlace 23 = .ok (.iaload, 1) := by decide +kernel
theorem dX1_turnedPlace_24 : decode cX1_turnedPlace 24 = .ok (.isub, 1) := by decide +kernel
theorem dX1_turnedPlace_25 : decode cX1_turnedPlace 25 = .ok (.ireturn, 1) := by decide +kernel
theorem dX1_mirroredPlace_0 : decode cX1_mirroredPlace 0 = .ok (.aload_n 0, 1) := by decide +kernel
theorem dX1_mirroredPlace_1 : decode cX1_mirroredPlace 1 = .ok (.getfield 21, 3) := by decide +kernel
theorem dX1_mirroredPlace_4 : decode cX1_mirroredPlace 4 = .ok (.iload_n 1, 1) := by decide +kernel
theorem dX1_mirroredPlace_5 : decode cX1_mirroredPlace 5 = .ok (.iaload, 1) := by decide +kernel
theorem dX1_mirroredPlace_6 : decode cX1_mirroredPlace 6 = .ok (.aload_n 0, 1) := by decide +kernel
theorem dX1_mirroredPlace_7 : decode cX1_mirroredPlace 7 = .ok (.getfield 40, 3) := by decide +kernel
theorem dX1_mirroredPlace_10 : decode cX1_mirroredPlace 10 = .ok (.imul, 1) := by decide +kernel
theorem dX1_mirroredPlace_11 : decode cX1_mirroredPlace 11 = .ok (.aload_n 0, 1) := by decide +kernel
theorem dX1_mirroredPlace_12 : decode cX1_mirroredPlace 12 = .ok (.getfield 40, 3) := by decide +kernel
theorem dX1_mirroredPlace_15 : decode cX1_mirroredPlace 15 = .ok (.iadd, 1) := by decide +kernel
theorem dX1_mirroredPlace_16 : decode cX1_mirroredPlace 16 = .ok (.iconst 1, 1) := by decide +kernel
theorem dX1_mirroredPlace_17 : decode cX1_mirroredPlace 17 = .ok (.isub, 1) := by decide +kernel
theorem dX1_mirroredPlace_18 : decode cX1_mirroredPlace 18 = .ok (.aload_n 0, 1) := by decide +kernel
theorem dX1_mirroredPlace_19 : decode cX1_mirroredPlace 19 = .ok (.getfield 18, 3) := by decide +kernel
theorem dX1_mirroredPlace_22 : decode cX1_mirroredPlace 22 = .ok (.iload_n 1, 1) := by decide +kernel
theorem dX1_mirroredPlace_23 : decode cX1_mirroredPlace 23 = .ok (.iaload, 1) := by decide +kernel
theorem dX1_mirroredPlace_24 : decode cX1_mirroredPlace 24 = .ok (.isub, 1) := by decide +kernel
theorem dX1_mirroredPlace_25 : decode cX1_mirroredPlace 25 = .ok (.ireturn, 1) := by decide +kernel
theorem dX1_relocate_0 : decode cX1_relocate 0 = .ok (.aload_n 0, 1) := by decide +kernel
theorem dX1_relocate_1 : decode cX1_relocate 1 = .ok (.getfield 9, 3) := by decide +kernel
theorem dX1_relocate_4 : decode cX1_relocate 4 = .ok (.iconst 0, 1) := by decide +kernel
theorem dX1_relocate_5 : decode cX1_relocate 5 = .ok (.aload_n 0, 1) := by decide +kernel
theorem dX1_relocate_6 : decode cX1_relocate 6 = .ok (.getfield 15, 3) := by decide +kernel
theorem dX1_relocate_9 : decode cX1_relocate 9 = .ok (.iconst 0, 1) := by decide +kernel
theorem dX1_relocate_10 : decode cX1_relocate 10 = .ok (.aload_n 0, 1) := by decide +kernel
theorem dX1_relocate_11 : decode cX1_relocate 11 = .ok (.getfield 47, 3) := by decide +kernel
theorem dX1_relocate_14 : decode cX1_relocate 14 = .ok (.invokestatic 92, 3) := by decide +kernel
theorem dX1_relocate_17 : decode cX1_relocate 17 = .ok (.iconst 0, 1) := by decide +kernel
theorem dX1_relocate_18 : decode cX1_relocate 18 = .ok (.istore 4, 2) := by decide +kernel
theorem dX1_relocate_20 : decode cX1_relocate 20 = .ok (.iload 4, 2) := by decide +kernel
theorem dX1_relocate_22 : decode cX1_relocate 22 = .ok (.aload_n 0, 1) := by decide +kernel
theorem dX1_relocate_23 : decode cX1_relocate 23 = .ok (.getfield 47, 3) := by decide +kernel
theorem dX1_relocate_26 : decode cX1_relocate 26 = .ok (.if_icmp .ge 25, 3) := by decide +kernel
theorem dX1_relocate_29 : decode cX1_relocate 29 = .ok (.aload_n 0, 1) := by decide +kernel
theorem dX1_relocate_30 : decode cX1_relocate 30 = .ok (.getfield 9, 3) := by decide +kernel
theorem dX1_relocate_33 : decode cX1_relocate 33 = .ok (.aload_n 1, 1) := by decide +kernel
theorem dX1_relocate_34 : decode cX1_relocate 34 = .ok (.iload 4, 2) := by decide +kernel
theorem dX1_relocate_36 : decode cX1_relocate 36 = .ok (.iaload, 1) := by decide +kernel
theorem dX1_relocate_37 : decode cX1_relocate 37 = .ok (.aload_n 0, 1) := by decide +kernel
theorem dX1_relocate_38 : decode cX1_relocate 38 = .ok (.getfield 15, 3) := by decide +kernel
theorem dX1_relocate_41 : decode cX1_relocate 41 = .ok (.iload 4, 2) := by decide +kernel
theorem dX1_relocate_43 : decode cX1_relocate 43 = .ok (.iaload, 1) := by decide +kernel
theorem dX1_relocate_44 : decode cX1_relocate 44 = .ok (.iastore, 1) := by decide +kernel
theorem dX1_relocate_45 : decode cX1_relocate 45 = .ok (.iinc 4 1, 3) := by decide +kernel
theorem dX1_relocate_48 : decode cX1_relocate 48 = .ok (.goto (-28), 3) := by decide +kernel
theorem dX1_relocate_51 : decode cX1_relocate 51 = .ok (.aload_n 0, 1) := by decide +kernel
theorem dX1_relocate_52 : decode cX1_relocate 52 = .ok (.iload_n 2, 1) := by decide +kernel
theorem dX1_relocate_53 : decode cX1_relocate 53 = .ok (.iload_n 3, 1) := by decide +kernel
theorem dX1_relocate_54 : decode cX1_relocate 54 = .ok (.invokevirtual 34, 3) := by decide +kernel
theorem dX1_relocate_57 : decode cX1_relocate 57 = .ok (.aload_n 0, 1) := by decide +kernel
theorem dX1_relocate_58 : decode cX1_relocate 58 = .ok (.invokevirtual 37, 3) := by decide +kernel
theorem dX1_relocate_61 : decode cX1_relocate 61 = .ok (.iconst 0, 1) := by decide +kernel
theorem dX1_relocate_62 : decode cX1_relocate 62 = .ok (.istore 4, 2) := by decide +kernel
theorem dX1_relocate_64 : decode cX1_relocate 64 = .ok (.iconst 0, 1) := by decide +kernel
theorem dX1_relocate_65 : decode cX1_relocate 65 = .ok (.istore 5, 2) := by decide +kernel
theorem dX1_relocate_67 : decode cX1_relocate 67 = .ok (.iload 5, 2) := by decide +kernel
theorem dX1_relocate_69 : decode cX1_relocate 69 = .ok (.aload_n 0, 1) := by decide +kernel
theorem dX1_relocate_70 : decode cX1_relocate 70 = .ok (.getfield 47, 3) := by decide +kernel
theorem dX1_relocate_73 : decode cX1_relocate 73 = .ok (.if_icmp .ge 36, 3) := by decide +kernel
theorem dX1_relocate_76 : decode cX1_relocate 76 = .ok (.iload 4, 2) := by decide +kernel
theorem dX1_relocate_78 : decode cX1_relocate 78 = .ok (.aload_n 0, 1) := by decide +kernel
theorem dX1_relocate_79 : decode cX1_relocate 79 = .ok (.getfield 9, 3) := by decide +kernel
theorem dX1_relocate_82 : decode cX1_relocate 82 = .ok (.iload 5, 2) := by decide +kernel
theorem dX1_relocate_84 : decode cX1_relocate 84 = .ok (.iaload, 1) := by decide +kernel
theorem dX1_relocate_85 : decode cX1_relocate 85 = .ok (.aload_n 0, 1) := by decide +kernel
theorem dX1_relocate_86 : decode cX1_relocate 86 = .ok (.getfield 15, 3) := by decide +kernel
theorem dX1_relocate_89 : decode cX1_relocate 89 = .ok (.iload 5, 2) := by decide +kernel
theorem dX1_relocate_91 : decode cX1_relocate 91 = .ok (.iaload, 1) := by decide +kernel
theorem dX1_relocate_92 : decode cX1_relocate 92 = .ok (.if_icmp .eq 7, 3) := by decide +kernel
theorem dX1_relocate_95 : decode cX1_relocate 95 = .ok (.iconst 1, 1) := by decide +kernel
theorem dX1_relocate_96 : decode cX1_relocate 96 = .ok (.goto 4, 3) := by decide +kernel
theorem dX1_relocate_99 : decode cX1_relocate 99 = .ok (.iconst 0, 1) := by decide +kernel
theorem dX1_relocate_100 : decode cX1_relocate 100 = .ok (.iadd, 1) := by decide +kernel
theorem dX1_relocate_101 : decode cX1_relocate 101 = .ok (.istore 4, 2) := by decide +kernel
theorem dX1_relocate_103 : decode cX1_relocate 103 = .ok (.iinc 5 1, 3) := by decide +kernel
theorem dX1_relocate_106 : decode cX1_relocate 106 = .ok (.goto (-39), 3) := by decide +kernel
theorem dX1_relocate_109 : decode cX1_relocate 109 = .ok (.iload 4, 2) := by decide +kernel
theorem dX1_relocate_111 : decode cX1_relocate 111 = .ok (.ireturn, 1) := by decide +kernel
theorem dX2_init_0 : decode cX2_init 0 = .ok (.aload_n 0, 1) := by decide +kernel
theorem dX2_init_1 : decode cX2_init 1 = .ok (.invokespecial 3, 3) := by decide +kernel
theorem dX2_init_4 : decode cX2_init 4 = .ok (.aload_n 0, 1) := by decide +kernel
theorem dX2_init_5 : decode cX2_init 5 = .ok (.bipush 8, 2) := by decide +kernel
theorem dX2_init_7 : decode cX2_init 7 = .ok (.newarray .int, 2) := by decide +kernel
theorem dX2_init_9 : decode cX2_init 9 = .ok (.putfield 9, 3) := by decide +kernel
theorem dX2_init_12 : decode cX2_init 12 = .ok (.aload_n 0, 1) := by decide +kernel
theorem dX2_init_13 : decode cX2_init 13 = .ok (.bipush 8, 2) := by decide +kernel
theorem dX2_init_15 : decode cX2_init 15 = .ok (.newarray .int, 2) := by decide +kernel
theorem dX2_init_17 : decode cX2_init 17 = .ok (.putfield 15, 3) := by decide +kernel
theorem dX2_init_20 : decode cX2_init 20 = .ok (.aload_n 0, 1) := by decide +kernel
theorem dX2_init_21 : decode cX2_init 21 = .ok (.bipush 64, 2) := by decide +kernel
theorem dX2_init_23 : decode cX2_init 23 = .ok (.newarray .int, 2) := by decide +kernel
theorem dX2_init_25 : decode cX2_init 25 = .ok (.putfield 18, 3) := by decide +kernel
theorem dX2_init_28 : decode cX2_init 28 = .ok (.aload_n 0, 1) := by decide +kernel
theorem dX2_init_29 : decode cX2_init 29 = .ok (.aload_n 1, 1) := by decide +kernel
theorem dX2_init_30 : decode cX2_init 30 = .ok (.putfield 21, 3) := by decide +kernel
theorem dX2_init_33 : decode cX2_init 33 = .ok (.aload_n 0, 1) := by decide +kernel
theorem dX2_init_34 : decode cX2_init 34 = .ok (.aload_n 2, 1) := by decide +kernel
theorem dX2_init_35 : decode cX2_init 35 = .ok (.putfield 25, 3) := by decide +kernel
theorem dX2_init_38 : decode cX2_init 38 = .ok (.return_, 1) := by decide +kernel
theorem dX2_clear_0 : decode cX2_clear 0 = .ok (.aload_n 0, 1) := by decide +kernel
theorem dX2_clear_1 : decode cX2_clear 1 = .ok (.iconst 0, 1) := by decide +kernel
theorem dX2_clear_2 : decode cX2_clear 2 = .ok (.putfield 29, 3) := by decide +kernel
theorem dX2_clear_5 : decode cX2_clear 5 = .ok (.return_, 1) := by decide +kernel
theorem dX2_size_0 : decode cX2_size 0 = .ok (.aload_n 0, 1) := by decide +kernel
theorem dX2_size_1 : decode cX2_size 1 = .ok (.getfield 29, 3) := by decide +kernel
theorem dX2_size_4 : decode cX2_size 4 = .ok (.ireturn, 1) := by decide +kernel
theorem dX2_isPicture_0 : decode cX2_isPicture 0 = .ok (.iload_n 1, 1) := by decide +kernel
theorem dX2_isPicture_1 : decode cX2_isPicture 1 = .ok (.ifCond .lt 15, 3) := by decide +kernel
theorem dX2_isPicture_4 : decode cX2_isPicture 4 = .ok (.iload_n 1, 1) := by decide +kernel
theorem dX2_isPicture_5 : decode cX2_isPicture 5 = .ok (.aload_n 0, 1) := by decide +kernel
theorem dX2_isPicture_6 : decode cX2_isPicture 6 = .ok (.getfield 29, 3) := by decide +kernel
theorem dX2_isPicture_9 : decode cX2_isPicture 9 = .ok (.if_icmp .ge 7, 3) := by decide +kernel
theorem dX2_isPicture_12 : decode cX2_isPicture 12 = .ok (.iconst 1, 1) := by decide +kernel
theorem dX2_isPicture_13 : decode cX2_isPicture 13 = .ok (.goto 4, 3) := by decide +kernel
theorem dX2_isPicture_16 : decode cX2_isPicture 16 = .ok (.iconst 0, 1) := by decide +kernel
theorem dX2_isPicture_17 : decode cX2_isPicture 17 = .ok (.ireturn, 1) := by decide +kernel
theorem dX2_cellOf_0 : decode cX2_cellOf 0 = .ok (.aload_n 0, 1) := by decide +kernel
theorem dX2_cellOf_1 : decode cX2_cellOf 1 = .ok (.getfield 9, 3) := by decide +kernel
theorem dX2_cellOf_4 : decode cX2_cellOf 4 = .ok (.iload_n 1, 1) := by decide +kernel
theorem dX2_cellOf_5 : decode cX2_cellOf 5 = .ok (.iaload, 1) := by decide +kernel
theorem dX2_cellOf_6 : decode cX2_cellOf 6 = .ok (.ireturn, 1) := by decide +kernel
theorem dX2_facingOf_0 : decode cX2_facingOf 0 = .ok (.aload_n 0, 1) := by decide +kernel
theorem dX2_facingOf_1 : decode cX2_facingOf 1 = .ok (.getfield 15, 3) := by decide +kernel
theorem dX2_facingOf_4 : decode cX2_facingOf 4 = .ok (.iload_n 1, 1) := by decide +kernel
theorem dX2_facingOf_5 : decode cX2_facingOf 5 = .ok (.iaload, 1) := by decide +kernel
theorem dX2_facingOf_6 : decode cX2_facingOf 6 = .ok (.ireturn, 1) := by decide +kernel
theorem dX2_hang_0 : decode cX2_hang 0 = .ok (.aload_n 0, 1) := by decide +kernel
theorem dX2_hang_1 : decode cX2_hang 1 = .ok (.getfield 29, 3) := by decide +kernel
theorem dX2_hang_4 : decode cX2_hang 4 = .ok (.bipush 8, 2) := by decide +kernel
theorem dX2_hang_6 : decode cX2_hang 6 = .ok (.if_icmp .lt 6, 3) := by decide +kernel
theorem dX2_hang_9 : decode cX2_hang 9 = .ok (.bipush (-4), 2) := by decide +kernel
theorem dX2_hang_11 : decode cX2_hang 11 = .ok (.ireturn, 1) := by decide +kernel
theorem dX2_hang_12 : decode cX2_hang 12 = .ok (.aload_n 0, 1) := by decide +kernel
theorem dX2_hang_13 : decode cX2_hang 13 = .ok (.getfield 9, 3) := by decide +kernel
theorem dX2_hang_16 : decode cX2_hang 16 = .ok (.aload_n 0, 1) := by decide +kernel
theorem dX2_hang_17 : decode cX2_hang 17 = .ok (.getfield 29, 3) := by decide +kernel
theorem dX2_hang_20 : decode cX2_hang 20 = .ok (.iload_n 1, 1) := by decide +kernel
theorem dX2_hang_21 : decode cX2_hang 21 = .ok (.iastore, 1) := by decide +kernel
theorem dX2_hang_22 : decode cX2_hang 22 = .ok (.aload_n 0, 1) := by decide +kernel
theorem dX2_hang_23 : decode cX2_hang 23 = .ok (.getfield 15, 3) := by decide +kernel
theorem dX2_hang_26 : decode cX2_hang 26 = .ok (.aload_n 0, 1) := by decide +kernel
theorem dX2_hang_27 : decode cX2_hang 27 = .ok (.getfield 29, 3) := by decide +kernel
theorem dX2_hang_30 : decode cX2_hang 30 = .ok (.iload_n 2, 1) := by decide +kernel
theorem dX2_hang_31 : decode cX2_hang 31 = .ok (.iastore, 1) := by decide +kernel
theorem dX2_hang_32 : decode cX2_hang 32 = .ok (.aload_n 0, 1) := by decide +kernel
theorem dX2_hang_33 : decode cX2_hang 33 = .ok (.dup, 1) := by decide +kernel
theorem dX2_hang_34 : decode cX2_hang 34 = .ok (.getfield 29, 3) := by decide +kernel
theorem dX2_hang_37 : decode cX2_hang 37 = .ok (.iconst 1, 1) := by decide +kernel
theorem dX2_hang_38 : decode cX2_hang 38 = .ok (.iadd, 1) := by decide +kernel
theorem dX2_hang_39 : decode cX2_hang 39 = .ok (.putfield 29, 3) := by decide +kernel
theorem dX2_hang_42 : decode cX2_hang 42 = .ok (.aload_n 0, 1) := by decide +kernel
theorem dX2_hang_43 : decode cX2_hang 43 = .ok (.getfield 29, 3) := by decide +kernel
theorem dX2_hang_46 : decode cX2_hang 46 = .ok (.iconst 1, 1) := by decide +kernel
theorem dX2_hang_47 : decode cX2_hang 47 = .ok (.isub, 1) := by decide +kernel
theorem dX2_hang_48 : decode cX2_hang 48 = .ok (.ireturn, 1) := by decide +kernel
theorem dX2_isSeenFrom_0 : decode cX2_isSeenFrom 0 = .ok (.aload_n 0, 1) := by decide +kernel
theorem dX2_isSeenFrom_1 : decode cX2_isSeenFrom 1 = .ok (.iload_n 1, 1) := by decide +kernel
theorem dX2_isSeenFrom_2 : decode cX2_isSeenFrom 2 = .ok (.iload_n 2, 1) := by decide +kernel
theorem dX2_isSeenFrom_3 : decode cX2_isSeenFrom 3 = .ok (.invokevirtual 33, 3) := by decide +kernel
theorem dX2_isSeenFrom_6 : decode cX2_isSeenFrom 6 = .ok (.ifCond .ne 24, 3) := by decide +kernel
theorem dX2_isSeenFrom_9 : decode cX2_isSeenFrom 9 = .ok (.aload_n 0, 1) := by decide +kernel
theorem dX2_isSeenFrom_10 : decode cX2_isSeenFrom 10 = .ok (.getfield 25, 3) := by decide +kernel
theorem dX2_isSeenFrom_13 : decode cX2_isSeenFrom 13 = .ok (.iload_n 2, 1) := by decide +kernel
theorem dX2_isSeenFrom_14 : decode cX2_isSeenFrom 14 = .ok (.aload_n 0, 1) := by decide +kernel
theorem dX2_isSeenFrom_15 : decode cX2_isSeenFrom 15 = .ok (.getfield 9, 3) := by decide +kernel
theorem dX2_isSeenFrom_18 : decode cX2_isSeenFrom 18 = .ok (.iload_n 1, 1) := by decide +kernel
theorem dX2_isSeenFrom_19 : decode cX2_isSeenFrom 19 = .ok (.iaload, 1) := by decide +kernel
theorem dX2_isSeenFrom_20 : decode cX2_isSeenFrom 20 = .ok (.invokevirtual 37, 3) := by decide +kernel
theorem dX2_isSeenFrom_23 : decode cX2_isSeenFrom 23 = .ok (.ifCond .eq 7, 3) := by decide +kernel
theorem dX2_isSeenFrom_26 : decode cX2_isSeenFrom 26 = .ok (.iconst 1, 1) := by decide +kernel
theorem dX2_isSeenFrom_27 : decode cX2_isSeenFrom 27 = .ok (.goto 4, 3) := by decide +kernel
theorem dX2_isSeenFrom_30 : decode cX2_isSeenFrom 30 = .ok (.iconst 0, 1) := by decide +kernel
theorem dX2_isSeenFrom_31 : decode cX2_isSeenFrom 31 = .ok (.ireturn, 1) := by decide +kernel
theorem dX2_isBehind_0 : decode cX2_isBehind 0 = .ok (.aload_n 0, 1) := by decide +kernel
theorem dX2_isBehind_1 : decode cX2_isBehind 1 = .ok (.getfield 21, 3) := by decide +kernel
theorem dX2_isBehind_4 : decode cX2_isBehind 4 = .ok (.iload_n 2, 1) := by decide +kernel
theorem dX2_isBehind_5 : decode cX2_isBehind 5 = .ok (.invokevirtual 42, 3) := by decide +kernel
theorem dX2_isBehind_8 : decode cX2_isBehind 8 = .ok (.aload_n 0, 1) := by decide +kernel
theorem dX2_isBehind_9 : decode cX2_isBehind 9 = .ok (.getfield 21, 3) := by decide +kernel
theorem dX2_isBehind_12 : decode cX2_isBehind 12 = .ok (.aload_n 0, 1) := by decide +kernel
theorem dX2_isBehind_13 : decode cX2_isBehind 13 = .ok (.getfield 9, 3) := by decide +kernel
theorem dX2_isBehind_16 : decode cX2_isBehind 16 = .ok (.iload_n 1, 1) := by decide +kernel
theorem dX2_isBehind_17 : decode cX2_isBehind 17 = .ok (.iaload, 1) := by decide +kernel
theorem dX2_isBehind_18 : decode cX2_isBehind 18 = .ok (.invokevirtual 42, 3) := by decide +kernel
theorem dX2_isBehind_21 : decode cX2_isBehind 21 = .ok (.isub, 1) := by decide +kernel
theorem dX2_isBehind_22 : decode cX2_isBehind 22 = .ok (.istore_n 3, 1) := by decide +kernel
theorem dX2_isBehind_23 : decode cX2_isBehind 23 = .ok (.aload_n 0, 1) := by decide +kernel
theorem dX2_isBehind_24 : decode cX2_isBehind 24 = .ok (.getfield 21, 3) := by decide +kernel
theorem dX2_isBehind_27 : decode cX2_isBehind 27 = .ok (.iload_n 2, 1) := by decide +kernel
theorem dX2_isBehind_28 : decode cX2_isBehind 28 = .ok (.invokevirtual 48, 3) := by decide +kernel
theorem dX2_isBehind_31 : decode cX2_isBehind 31 = .ok (.aload_n 0, 1) := by decide +kernel
theorem dX2_isBehind_32 : decode cX2_isBehind 32 = .ok (.getfield 21, 3) := by decide +kernel
theorem dX2_isBehind_35 : decode cX2_isBehind 35 = .ok (.aload_n 0, 1) := by decide +kernel
theorem dX2_isBehind_36 : decode cX2_isBehind 36 = .ok (.getfield 9, 3) := by decide +kernel
theorem dX2_isBehind_39 : decode cX2_isBehind 39 = .ok (.iload_n 1, 1) := by decide +kernel
theorem dX2_isBehind_40 : decode cX2_isBehind 40 = .ok (.iaload, 1) := by decide +kernel
theorem dX2_isBehind_41 : decode cX2_isBehind 41 = .ok (.invokevirtual 48, 3) := by decide +kernel
theorem dX2_isBehind_44 : decode cX2_isBehind 44 = .ok (.isub, 1) := by decide +kernel
theorem dX2_isBehind_45 : decode cX2_isBehind 45 = .ok (.istore 4, 2) := by decide +kernel
theorem dX2_isBehind_47 : decode cX2_isBehind 47 = .ok (.aload_n 0, 1) := by decide +kernel
theorem dX2_isBehind_48 : decode cX2_isBehind 48 = .ok (.getfield 15, 3) := by decide +kernel
theorem dX2_isBehind_51 : decode cX2_isBehind 51 = .ok (.iload_n 1, 1) := by decide +kernel
theorem dX2_isBehind_52 : decode cX2_isBehind 52 = .ok (.iaload, 1) := by decide +kernel
theorem dX2_isBehind_53 : decode cX2_isBehind 53 = .ok (.istore 5, 2) := by decide +kernel
theorem dX2_isBehind_55 : decode cX2_isBehind 55 = .ok (.getstatic 51, 3) := by decide +kernel
theorem dX2_isBehind_58 : decode cX2_isBehind 58 = .ok (.iload 5, 2) := by decide +kernel
theorem dX2_isBehind_60 : decode cX2_isBehind 60 = .ok (.iaload, 1) := by decide +kernel
theorem dX2_isBehind_61 : decode cX2_isBehind 61 = .ok (.iload_n 3, 1) := by decide +kernel
theorem dX2_isBehind_62 : decode cX2_isBehind 62 = .ok (.imul, 1) := by decide +kernel
theorem dX2_isBehind_63 : decode cX2_isBehind 63 = .ok (.getstatic 54, 3) := by decide +kernel
theorem dX2_isBehind_66 : decode cX2_isBehind 66 = .ok (.iload 5, 2) := by decide +kernel
theorem dX2_isBehind_68 : decode cX2_isBehind 68 = .ok (.iaload, 1) := by decide +kernel
theorem dX2_isBehind_69 : decode cX2_isBehind 69 = .ok (.iload 4, 2) := by decide +kernel
theorem dX2_isBehind_71 : decode cX2_isBehind 71 = .ok (.imul, 1) := by decide +kernel
theorem dX2_isBehind_72 : decode cX2_isBehind 72 = .ok (.iadd, 1) := by decide +kernel
theorem dX2_isBehind_73 : decode cX2_isBehind 73 = .ok (.ifCond .ge 7, 3) := by decide +kernel
theorem dX2_isBehind_76 : decode cX2_isBehind 76 = .ok (.iconst 1, 1) := by decide +kernel
theorem dX2_isBehind_77 : decode cX2_isBehind 77 = .ok (.goto 4, 3) := by decide +kernel
theorem dX2_isBehind_80 : decode cX2_isBehind 80 = .ok (.iconst 0, 1) := by decide +kernel
theorem dX2_isBehind_81 : decode cX2_isBehind 81 = .ok (.ireturn, 1) := by decide +kernel
theorem dX2_lookFrom_0 : decode cX2_lookFrom 0 = .ok (.iconst 0, 1) := by decide +kernel
theorem dX2_lookFrom_1 : decode cX2_lookFrom 1 = .ok (.istore_n 2, 1) := by decide +kernel
theorem dX2_lookFrom_2 : decode cX2_lookFrom 2 = .ok (.iconst 0, 1) := by decide +kernel
theorem dX2_lookFrom_3 : decode cX2_lookFrom 3 = .ok (.istore_n 3, 1) := by decide +kernel
theorem dX2_lookFrom_4 : decode cX2_lookFrom 4 = .ok (.iload_n 3, 1) := by decide +kernel
theorem dX2_lookFrom_5 : decode cX2_lookFrom 5 = .ok (.aload_n 0, 1) := by decide +kernel
theorem dX2_lookFrom_6 : decode cX2_lookFrom 6 = .ok (.getfield 29, 3) := by decide +kernel
theorem dX2_lookFrom_9 : decode cX2_lookFrom 9 = .ok (.if_icmp .ge 28, 3) := by decide +kernel
theorem dX2_lookFrom_12 : decode cX2_lookFrom 12 = .ok (.iload_n 2, 1) := by decide +kernel
theorem dX2_lookFrom_13 : decode cX2_lookFrom 13 = .ok (.aload_n 0, 1) := by decide +kernel
theorem dX2_lookFrom_14 : decode cX2_lookFrom 14 = .ok (.iload_n 3, 1) := by decide +kernel
theorem dX2_lookFrom_15 : decode cX2_lookFrom 15 = .ok (.iload_n 1, 1) := by decide +kernel
theorem dX2_lookFrom_16 : decode cX2_lookFrom 16 = .ok (.invokevirtual 57, 3) := by decide +kernel
theorem dX2_lookFrom_19 : decode cX2_lookFrom 19 = .ok (.ifCond .eq 9, 3) := by decide +kernel
theorem dX2_lookFrom_22 : decode cX2_lookFrom 22 = .ok (.iconst 1, 1) := by decide +kernel
theorem dX2_lookFrom_23 : decode cX2_lookFrom 23 = .ok (.iload_n 3, 1) := by decide +kernel
theorem dX2_lookFrom_24 : decode cX2_lookFrom 24 = .ok (.ishl, 1) := by decide +kernel
theorem dX2_lookFrom_25 : decode cX2_lookFrom 25 = .ok (.goto 4, 3) := by decide +kernel
theorem dX2_lookFrom_28 : decode cX2_lookFrom 28 = .ok (.iconst 0, 1) := by decide +kernel
theorem dX2_lookFrom_29 : decode cX2_lookFrom 29 = .ok (.ior, 1) := by decide +kernel
theorem dX2_lookFrom_30 : decode cX2_lookFrom 30 = .ok (.istore_n 2, 1) := by decide +kernel
theorem dX2_lookFrom_31 : decode cX2_lookFrom 31 = .ok (.iinc 3 1, 3) := by decide +kernel
theorem dX2_lookFrom_34 : decode cX2_lookFrom 34 = .ok (.goto (-30), 3) := by decide +kernel
theorem dX2_lookFrom_37 : decode cX2_lookFrom 37 = .ok (.iload_n 2, 1) := by decide +kernel
theorem dX2_lookFrom_38 : decode cX2_lookFrom 38 = .ok (.ireturn, 1) := by decide +kernel
theorem dX2_survey_0 : decode cX2_survey 0 = .ok (.iconst 0, 1) := by decide +kernel
theorem dX2_survey_1 : decode cX2_survey 1 = .ok (.istore_n 1, 1) := by decide +kernel
theorem dX2_survey_2 : decode cX2_survey 2 = .ok (.iload_n 1, 1) := by decide +kernel
theorem dX2_survey_3 : decode cX2_survey 3 = .ok (.aload_n 0, 1) := by decide +kernel
theorem dX2_survey_4 : decode cX2_survey 4 = .ok (.getfield 21, 3) := by decide +kernel
theorem dX2_survey_7 : decode cX2_survey 7 = .ok (.invokevirtual 60, 3) := by decide +kernel
theorem dX2_survey_10 : decode cX2_survey 10 = .ok (.if_icmp .ge 20, 3) := by decide +kernel
theorem dX2_survey_13 : decode cX2_survey 13 = .ok (.aload_n 0, 1) := by decide +kernel
theorem dX2_survey_14 : decode cX2_survey 14 = .ok (.getfield 18, 3) := by decide +kernel
theorem dX2_survey_17 : decode cX2_survey 17 = .ok (.iload_n 1, 1) := by decide +kernel
theorem dX2_survey_18 : decode cX2_survey 18 = .ok (.aload_n 0, 1) := by decide +kernel
theorem dX2_survey_19 : decode cX2_survey 19 = .ok (.iload_n 1, 1) := by decide +kernel
theorem dX2_survey_20 : decode cX2_survey 20 = .ok (.invokevirtual 63, 3) := by decide +kernel
theorem dX2_survey_23 : decode cX2_survey 23 = .ok (.iastore, 1) := by decide +kernel
theorem dX2_survey_24 : decode cX2_survey 24 = .ok (.iinc 1 1, 3) := by decide +kernel
theorem dX2_survey_27 : decode cX2_survey 27 = .ok (.goto (-25), 3) := by decide +kernel
theorem dX2_survey_30 : decode cX2_survey 30 = .ok (.return_, 1) := by decide +kernel
theorem dX2_setAt_0 : decode cX2_setAt 0 = .ok (.aload_n 0, 1) := by decide +kernel
theorem dX2_setAt_1 : decode cX2_setAt 1 = .ok (.getfield 18, 3) := by decide +kernel
theorem dX2_setAt_4 : decode cX2_setAt 4 = .ok (.iload_n 1, 1) := by decide +kernel
theorem dX2_setAt_5 : decode cX2_setAt 5 = .ok (.iaload, 1) := by decide +kernel
theorem dX2_setAt_6 : decode cX2_setAt 6 = .ok (.ireturn, 1) := by decide +kernel
theorem dX2_all_0 : decode cX2_all 0 = .ok (.iconst 1, 1) := by decide +kernel
theorem dX2_all_1 : decode cX2_all 1 = .ok (.aload_n 0, 1) := by decide +kernel
theorem dX2_all_2 : decode cX2_all 2 = .ok (.getfield 29, 3) := by decide +kernel
theorem dX2_all_5 : decode cX2_all 5 = .ok (.ishl, 1) := by decide +kernel
theorem dX2_all_6 : decode cX2_all 6 = .ok (.iconst 1, 1) := by decide +kernel
theorem dX2_all_7 : decode cX2_all 7 = .ok (.isub, 1) := by decide +kernel
theorem dX2_all_8 : decode cX2_all 8 = .ok (.ireturn, 1) := by decide +kernel
theorem dX2_relocate_0 : decode cX2_relocate 0 = .ok (.iconst 0, 1) := by decide +kernel
theorem dX2_relocate_1 : decode cX2_relocate 1 = .ok (.istore_n 2, 1) := by decide +kernel
theorem dX2_relocate_2 : decode cX2_relocate 2 = .ok (.iload_n 2, 1) := by decide +kernel
theorem dX2_relocate_3 : decode cX2_relocate 3 = .ok (.aload_n 0, 1) := by decide +kernel
theorem dX2_relocate_4 : decode cX2_relocate 4 = .ok (.getfield 29, 3) := by decide +kernel
theorem dX2_relocate_7 : decode cX2_relocate 7 = .ok (.if_icmp .ge 23, 3) := by decide +kernel
theorem dX2_relocate_10 : decode cX2_relocate 10 = .ok (.aload_n 0, 1) := by decide +kernel
theorem dX2_relocate_11 : decode cX2_relocate 11 = .ok (.getfield 9, 3) := by decide +kernel
theorem dX2_relocate_14 : decode cX2_relocate 14 = .ok (.iload_n 2, 1) := by decide +kernel
theorem dX2_relocate_15 : decode cX2_relocate 15 = .ok (.aload_n 1, 1) := by decide +kernel
theorem dX2_relocate_16 : decode cX2_relocate 16 = .ok (.aload_n 0, 1) := by decide +kernel
theorem dX2_relocate_17 : decode cX2_relocate 17 = .ok (.getfield 9, 3) := by decide +kernel
theorem dX2_relocate_20 : decode cX2_relocate 20 = .ok (.iload_n 2, 1) := by decide +kernel
theorem dX2_relocate_21 : decode cX2_relocate 21 = .ok (.iaload, 1) := by decide +kernel
theorem dX2_relocate_22 : decode cX2_relocate 22 = .ok (.iaload, 1) := by decide +kernel
theorem dX2_relocate_23 : decode cX2_relocate 23 = .ok (.iastore, 1) := by decide +kernel
theorem dX2_relocate_24 : decode cX2_relocate 24 = .ok (.iinc 2 1, 3) := by decide +kernel
theorem dX2_relocate_27 : decode cX2_relocate 27 = .ok (.goto (-25), 3) := by decide +kernel
theorem dX2_relocate_30 : decode cX2_relocate 30 = .ok (.return_, 1) := by decide +kernel
theorem dX2_turnFacings_0 : decode cX2_turnFacings 0 = .ok (.iconst 0, 1) := by decide +kernel
theorem dX2_turnFacings_1 : decode cX2_turnFacings 1 = .ok (.istore_n 1, 1) := by decide +kernel
theorem dX2_turnFacings_2 : decode cX2_turnFacings 2 = .ok (.iload_n 1, 1) := by decide +kernel
theorem dX2_turnFacings_3 : decode cX2_turnFacings 3 = .ok (.aload_n 0, 1) := by decide +kernel
theorem dX2_turnFacings_4 : decode cX2_turnFacings 4 = .ok (.getfield 29, 3) := by decide +kernel
theorem dX2_turnFacings_7 : decode cX2_turnFacings 7 = .ok (.if_icmp .ge 37, 3) := by decide +kernel
theorem dX2_turnFacings_10 : decode cX2_turnFacings 10 = .ok (.aload_n 0, 1) := by decide +kernel
theorem dX2_turnFacings_11 : decode cX2_turnFacings 11 = .ok (.getfield 15, 3) := by decide +kernel
theorem dX2_turnFacings_14 : decode cX2_turnFacings 14 = .ok (.iload_n 1, 1) := by decide +kernel
theorem dX2_turnFacings_15 : decode cX2_turnFacings 15 = .ok (.aload_n 0, 1) := by decide +kernel
theorem dX2_turnFacings_16 : decode cX2_turnFacings 16 = .ok (.getfield 15, 3) := by decide +kernel
theorem dX2_turnFacings_19 : decode cX2_turnFacings 19 = .ok (.iload_n 1, 1) := by decide +kernel
theorem dX2_turnFacings_20 : decode cX2_turnFacings 20 = .ok (.iaload, 1) := by decide +kernel
theorem dX2_turnFacings_21 : decode cX2_turnFacings 21 = .ok (.iconst 3, 1) := by decide +kernel
theorem dX2_turnFacings_22 : decode cX2_turnFacings 22 = .ok (.if_icmp .ne 7, 3) := by decide +kernel
theorem dX2_turnFacings_25 : decode cX2_turnFacings 25 = .ok (.iconst 0, 1) := by decide +kernel
theorem dX2_turnFacings_26 : decode cX2_turnFacings 26 = .ok (.goto 11, 3) := by decide +kernel
theorem dX2_turnFacings_29 : decode cX2_turnFacings 29 = .ok (.aload_n 0, 1) := by decide +kernel
theorem dX2_turnFacings_30 : decode cX2_turnFacings 30 = .ok (.getfield 15, 3) := by decide +kernel
theorem dX2_turnFacings_33 : decode cX2_turnFacings 33 = .ok (.iload_n 1, 1) := by decide +kernel
theorem dX2_turnFacings_34 : decode cX2_turnFacings 34 = .ok (.iaload, 1) := by decide +kernel
theorem dX2_turnFacings_35 : decode cX2_turnFacings 35 = .ok (.iconst 1, 1) := by decide +kernel
theorem dX2_turnFacings_36 : decode cX2_turnFacings 36 = .ok (.iadd, 1) := by decide +kernel
theorem dX2_turnFacings_37 : decode cX2_turnFacings 37 = .ok (.iastore, 1) := by decide +kernel
theorem dX2_turnFacings_38 : decode cX2_turnFacings 38 = .ok (.iinc 1 1, 3) := by decide +kernel
theorem dX2_turnFacings_41 : decode cX2_turnFacings 41 = .ok (.goto (-39), 3) := by decide +kernel
theorem dX2_turnFacings_44 : decode cX2_turnFacings 44 = .ok (.return_, 1) := by decide +kernel
theorem dX2_mirrorFacings_0 : decode cX2_mirrorFacings 0 = .ok (.iconst 0, 1) := by decide +kernel
theorem dX2_mirrorFacings_1 : decode cX2_mirrorFacings 1 = .ok (.istore_n 1, 1) := by decide +kernel
theorem dX2_mirrorFacings_2 : decode cX2_mirrorFacings 2 = .ok (.iload_n 1, 1) := by decide +kernel
theorem dX2_mirrorFacings_3 : decode cX2_mirrorFacings 3 = .ok (.aload_n 0, 1) := by decide +kernel
theorem dX2_mirrorFacings_4 : decode cX2_mirrorFacings 4 = .ok (.getfield 29, 3) := by decide +kernel
theorem dX2_mirrorFacings_7 : decode cX2_mirrorFacings 7 = .ok (.if_icmp .ge 36, 3) := by decide +kernel
theorem dX2_mirrorFacings_10 : decode cX2_mirrorFacings 10 = .ok (.getstatic 51, 3) := by decide +kernel
theorem dX2_mirrorFacings_13 : decode cX2_mirrorFacings 13 = .ok (.aload_n 0, 1) := by decide +kernel
theorem dX2_mirrorFacings_14 : decode cX2_mirrorFacings 14 = .ok (.getfield 15, 3) := by decide +kernel
theorem dX2_mirrorFacings_17 : decode cX2_mirrorFacings 17 = .ok (.iload_n 1, 1) := by decide +kernel
theorem dX2_mirrorFacings_18 : decode cX2_mirrorFacings 18 = .ok (.iaload, 1) := by decide +kernel
theorem dX2_mirrorFacings_19 : decode cX2_mirrorFacings 19 = .ok (.iaload, 1) := by decide +kernel
theorem dX2_mirrorFacings_20 : decode cX2_mirrorFacings 20 = .ok (.ifCond .eq 17, 3) := by decide +kernel
theorem dX2_mirrorFacings_23 : decode cX2_mirrorFacings 23 = .ok (.aload_n 0, 1) := by decide +kernel
theorem dX2_mirrorFacings_24 : decode cX2_mirrorFacings 24 = .ok (.getfield 15, 3) := by decide +kernel
theorem dX2_mirrorFacings_27 : decode cX2_mirrorFacings 27 = .ok (.iload_n 1, 1) := by decide +kernel
theorem dX2_mirrorFacings_28 : decode cX2_mirrorFacings 28 = .ok (.iconst 2, 1) := by decide +kernel
theorem dX2_mirrorFacings_29 : decode cX2_mirrorFacings 29 = .ok (.aload_n 0, 1) := by decide +kernel
theorem dX2_mirrorFacings_30 : decode cX2_mirrorFacings 30 = .ok (.getfield 15, 3) := by decide +kernel
theorem dX2_mirrorFacings_33 : decode cX2_mirrorFacings 33 = .ok (.iload_n 1, 1) := by decide +kernel
theorem dX2_mirrorFacings_34 : decode cX2_mirrorFacings 34 = .ok (.iaload, 1) := by decide +kernel
theorem dX2_mirrorFacings_35 : decode cX2_mirrorFacings 35 = .ok (.isub, 1) := by decide +kernel
theorem dX2_mirrorFacings_36 : decode cX2_mirrorFacings 36 = .ok (.iastore, 1) := by decide +kernel
theorem dX2_mirrorFacings_37 : decode cX2_mirrorFacings 37 = .ok (.iinc 1 1, 3) := by decide +kernel
theorem dX2_mirrorFacings_40 : decode cX2_mirrorFacings 40 = .ok (.goto (-38), 3) := by decide +kernel
theorem dX2_mirrorFacings_43 : decode cX2_mirrorFacings 43 = .ok (.return_, 1) := by decide +kernel
theorem dX3_init_0 : decode cX3_init 0 = .ok (.aload_n 0, 1) := by decide +kernel
theorem dX3_init_1 : decode cX3_init 1 = .ok (.invokespecial 3, 3) := by decide +kernel
theorem dX3_init_4 : decode cX3_init 4 = .ok (.aload_n 0, 1) := by decide +kernel
theorem dX3_init_5 : decode cX3_init 5 = .ok (.sipush 256, 3) := by decide +kernel
theorem dX3_init_8 : decode cX3_init 8 = .ok (.newarray .int, 2) := by decide +kernel
theorem dX3_init_10 : decode cX3_init 10 = .ok (.putfield 9, 3) := by decide +kernel
theorem dX3_init_13 : decode cX3_init 13 = .ok (.aload_n 0, 1) := by decide +kernel
theorem dX3_init_14 : decode cX3_init 14 = .ok (.aload_n 1, 1) := by decide +kernel
theorem dX3_init_15 : decode cX3_init 15 = .ok (.putfield 15, 3) := by decide +kernel
theorem dX3_init_18 : decode cX3_init 18 = .ok (.aload_n 0, 1) := by decide +kernel
theorem dX3_init_19 : decode cX3_init 19 = .ok (.aload_n 2, 1) := by decide +kernel
theorem dX3_init_20 : decode cX3_init 20 = .ok (.putfield 19, 3) := by decide +kernel
theorem dX3_init_23 : decode cX3_init 23 = .ok (.return_, 1) := by decide +kernel
theorem dX3_weigh_0 : decode cX3_weigh 0 = .ok (.aload_n 0, 1) := by decide +kernel
theorem dX3_weigh_1 : decode cX3_weigh 1 = .ok (.getfield 9, 3) := by decide +kernel
theorem dX3_weigh_4 : decode cX3_weigh 4 = .ok (.iconst 0, 1) := by decide +kernel
theorem dX3_weigh_5 : decode cX3_weigh 5 = .ok (.iconst 0, 1) := by decide +kernel
theorem dX3_weigh_6 : decode cX3_weigh 6 = .ok (.iastore, 1) := by decide +kernel
theorem dX3_weigh_7 : decode cX3_weigh 7 = .ok (.iconst 1, 1) := by decide +kernel
theorem dX3_weigh_8 : decode cX3_weigh 8 = .ok (.istore_n 1, 1) := by decide +kernel
theorem dX3_weigh_9 : decode cX3_weigh 9 = .ok (.iload_n 1, 1) := by decide +kernel
theorem dX3_weigh_10 : decode cX3_weigh 10 = .ok (.aload_n 0, 1) := by decide +kernel
theorem dX3_weigh_11 : decode cX3_weigh 11 = .ok (.getfield 19, 3) := by decide +kernel
theorem dX3_weigh_14 : decode cX3_weigh 14 = .ok (.invokevirtual 23, 3) := by decide +kernel
theorem dX3_weigh_17 : decode cX3_weigh 17 = .ok (.if_icmp .gt 20, 3) := by decide +kernel
theorem dX3_weigh_20 : decode cX3_weigh 20 = .ok (.aload_n 0, 1) := by decide +kernel
theorem dX3_weigh_21 : decode cX3_weigh 21 = .ok (.getfield 9, 3) := by decide +kernel
theorem dX3_weigh_24 : decode cX3_weigh 24 = .ok (.iload_n 1, 1) := by decide +kernel
theorem dX3_weigh_25 : decode cX3_weigh 25 = .ok (.aload_n 0, 1) := by decide +kernel
theorem dX3_weigh_26 : decode cX3_weigh 26 = .ok (.iload_n 1, 1) := by decide +kernel
theorem dX3_weigh_27 : decode cX3_weigh 27 = .ok (.invokevirtual 29, 3) := by decide +kernel
theorem dX3_weigh_30 : decode cX3_weigh 30 = .ok (.iastore, 1) := by decide +kernel
theorem dX3_weigh_31 : decode cX3_weigh 31 = .ok (.iinc 1 1, 3) := by decide +kernel
theorem dX3_weigh_34 : decode cX3_weigh 34 = .ok (.goto (-25), 3) := by decide +kernel
theorem dX3_weigh_37 : decode cX3_weigh 37 = .ok (.return_, 1) := by decide +kernel
theorem dX3_needOf_0 : decode cX3_needOf 0 = .ok (.iload_n 1, 1) := by decide +kernel
theorem dX3_needOf_1 : decode cX3_needOf 1 = .ok (.iload_n 1, 1) := by decide +kernel
theorem dX3_needOf_2 : decode cX3_needOf 2 = .ok (.ineg, 1) := by decide +kernel
theorem dX3_needOf_3 : decode cX3_needOf 3 = .ok (.iand, 1) := by decide +kernel
theorem dX3_needOf_4 : decode cX3_needOf 4 = .ok (.istore_n 2, 1) := by decide +kernel
theorem dX3_needOf_5 : decode cX3_needOf 5 = .ok (.bipush 99, 2) := by decide +kernel
theorem dX3_needOf_7 : decode cX3_needOf 7 = .ok (.istore_n 3, 1) := by decide +kernel
theorem dX3_needOf_8 : decode cX3_needOf 8 = .ok (.iconst 0, 1) := by decide +kernel
theorem dX3_needOf_9 : decode cX3_needOf 9 = .ok (.istore 4, 2) := by decide +kernel
theorem dX3_needOf_11 : decode cX3_needOf 11 = .ok (.iload 4, 2) := by decide +kernel
theorem dX3_needOf_13 : decode cX3_needOf 13 = .ok (.aload_n 0, 1) := by decide +kernel
theorem dX3_needOf_14 : decode cX3_needOf 14 = .ok (.getfield 15, 3) := by decide +kernel
theorem dX3_needOf_17 : decode cX3_needOf 17 = .ok (.invokevirtual 33, 3) := by decide +kernel
theorem dX3_needOf_20 : decode cX3_needOf 20 = .ok (.if_icmp .ge 45, 3) := by decide +kernel
theorem dX3_needOf_23 : decode cX3_needOf 23 = .ok (.aload_n 0, 1) := by decide +kernel
theorem dX3_needOf_24 : decode cX3_needOf 24 = .ok (.getfield 19, 3) := by decide +kernel
theorem dX3_needOf_27 : decode cX3_needOf 27 = .ok (.iload 4, 2) := by decide +kernel
theorem dX3_needOf_29 : decode cX3_needOf 29 = .ok (.invokevirtual 38, 3) := by decide +kernel
theorem dX3_needOf_32 : decode cX3_needOf 32 = .ok (.istore 5, 2) := by decide +kernel
theorem dX3_needOf_34 : decode cX3_needOf 34 = .ok (.iload 5, 2) := by decide +kernel
theorem dX3_needOf_36 : decode cX3_needOf 36 = .ok (.iload_n 2, 1) := by decide +kernel
theorem dX3_needOf_37 : decode cX3_needOf 37 = .ok (.iand, 1) := by decide +kernel
theorem dX3_needOf_38 : decode cX3_needOf 38 = .ok (.ifCond .eq 21, 3) := by decide +kernel
theorem dX3_needOf_41 : decode cX3_needOf 41 = .ok (.iload_n 3, 1) := by decide +kernel
theorem dX3_needOf_42 : decode cX3_needOf 42 = .ok (.aload_n 0, 1) := by decide +kernel
theorem dX3_needOf_43 : decode cX3_needOf 43 = .ok (.getfield 9, 3) := by decide +kernel
theorem dX3_needOf_46 : decode cX3_needOf 46 = .ok (.iload_n 1, 1) := by decide +kernel
theorem dX3_needOf_47 : decode cX3_needOf 47 = .ok (.iload 5, 2) := by decide +kernel
theorem dX3_needOf_49 : decode cX3_needOf 49 = .ok (.iconst (-1), 1) := by decide +kernel
theorem dX3_needOf_50 : decode cX3_needOf 50 = .ok (.ixor, 1) := by decide +kernel
theorem dX3_needOf_51 : decode cX3_needOf 51 = .ok (.iand, 1) := by decide +kernel
theorem dX3_needOf_52 : decode cX3_needOf 52 = .ok (.iaload, 1) := by decide +kernel
