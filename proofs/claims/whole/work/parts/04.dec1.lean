theorem dX0_init_0 : decode cX0_init 0 = .ok (.aload_n 0, 1) := by decide +kernel
theorem dX0_init_1 : decode cX0_init 1 = .ok (.invokespecial 3, 3) := by decide +kernel
theorem dX0_init_4 : decode cX0_init 4 = .ok (.aload_n 0, 1) := by decide +kernel
theorem dX0_init_5 : decode cX0_init 5 = .ok (.new 9, 3) := by decide +kernel
theorem dX0_init_8 : decode cX0_init 8 = .ok (.dup, 1) := by decide +kernel
theorem dX0_init_9 : decode cX0_init 9 = .ok (.invokespecial 11, 3) := by decide +kernel
theorem dX0_init_12 : decode cX0_init 12 = .ok (.putfield 12, 3) := by decide +kernel
theorem dX0_init_15 : decode cX0_init 15 = .ok (.aload_n 0, 1) := by decide +kernel
theorem dX0_init_16 : decode cX0_init 16 = .ok (.new 9, 3) := by decide +kernel
theorem dX0_init_19 : decode cX0_init 19 = .ok (.dup, 1) := by decide +kernel
theorem dX0_init_20 : decode cX0_init 20 = .ok (.invokespecial 11, 3) := by decide +kernel
theorem dX0_init_23 : decode cX0_init 23 = .ok (.putfield 18, 3) := by decide +kernel
theorem dX0_init_26 : decode cX0_init 26 = .ok (.aload_n 0, 1) := by decide +kernel
theorem dX0_init_27 : decode cX0_init 27 = .ok (.aload_n 1, 1) := by decide +kernel
theorem dX0_init_28 : decode cX0_init 28 = .ok (.putfield 21, 3) := by decide +kernel
theorem dX0_init_31 : decode cX0_init 31 = .ok (.return_, 1) := by decide +kernel
theorem dX0_motionCount_0 : decode cX0_motionCount 0 = .ok (.aload_n 0, 1) := by decide +kernel
theorem dX0_motionCount_1 : decode cX0_motionCount 1 = .ok (.getfield 12, 3) := by decide +kernel
theorem dX0_motionCount_4 : decode cX0_motionCount 4 = .ok (.invokevirtual 25, 3) := by decide +kernel
theorem dX0_motionCount_7 : decode cX0_motionCount 7 = .ok (.ireturn, 1) := by decide +kernel
theorem dX0_stressCount_0 : decode cX0_stressCount 0 = .ok (.aload_n 0, 1) := by decide +kernel
theorem dX0_stressCount_1 : decode cX0_stressCount 1 = .ok (.getfield 18, 3) := by decide +kernel
theorem dX0_stressCount_4 : decode cX0_stressCount 4 = .ok (.invokevirtual 25, 3) := by decide +kernel
theorem dX0_stressCount_7 : decode cX0_stressCount 7 = .ok (.ireturn, 1) := by decide +kernel
theorem dX0_isMotion_0 : decode cX0_isMotion 0 = .ok (.iload_n 1, 1) := by decide +kernel
theorem dX0_isMotion_1 : decode cX0_isMotion 1 = .ok (.ifCond .lt 15, 3) := by decide +kernel
theorem dX0_isMotion_4 : decode cX0_isMotion 4 = .ok (.iload_n 1, 1) := by decide +kernel
theorem dX0_isMotion_5 : decode cX0_isMotion 5 = .ok (.aload_n 0, 1) := by decide +kernel
theorem dX0_isMotion_6 : decode cX0_isMotion 6 = .ok (.invokevirtual 29, 3) := by decide +kernel
theorem dX0_isMotion_9 : decode cX0_isMotion 9 = .ok (.if_icmp .ge 7, 3) := by decide +kernel
theorem dX0_isMotion_12 : decode cX0_isMotion 12 = .ok (.iconst 1, 1) := by decide +kernel
theorem dX0_isMotion_13 : decode cX0_isMotion 13 = .ok (.goto 4, 3) := by decide +kernel
theorem dX0_isMotion_16 : decode cX0_isMotion 16 = .ok (.iconst 0, 1) := by decide +kernel
theorem dX0_isMotion_17 : decode cX0_isMotion 17 = .ok (.ireturn, 1) := by decide +kernel
theorem dX0_isStress_0 : decode cX0_isStress 0 = .ok (.iload_n 1, 1) := by decide +kernel
theorem dX0_isStress_1 : decode cX0_isStress 1 = .ok (.ifCond .lt 15, 3) := by decide +kernel
theorem dX0_isStress_4 : decode cX0_isStress 4 = .ok (.iload_n 1, 1) := by decide +kernel
theorem dX0_isStress_5 : decode cX0_isStress 5 = .ok (.aload_n 0, 1) := by decide +kernel
theorem dX0_isStress_6 : decode cX0_isStress 6 = .ok (.invokevirtual 32, 3) := by decide +kernel
theorem dX0_isStress_9 : decode cX0_isStress 9 = .ok (.if_icmp .ge 7, 3) := by decide +kernel
theorem dX0_isStress_12 : decode cX0_isStress 12 = .ok (.iconst 1, 1) := by decide +kernel
theorem dX0_isStress_13 : decode cX0_isStress 13 = .ok (.goto 4, 3) := by decide +kernel
theorem dX0_isStress_16 : decode cX0_isStress 16 = .ok (.iconst 0, 1) := by decide +kernel
theorem dX0_isStress_17 : decode cX0_isStress 17 = .ok (.ireturn, 1) := by decide +kernel
theorem dX0_motionNumber_0 : decode cX0_motionNumber 0 = .ok (.iconst 0, 1) := by decide +kernel
theorem dX0_motionNumber_1 : decode cX0_motionNumber 1 = .ok (.istore 4, 2) := by decide +kernel
theorem dX0_motionNumber_3 : decode cX0_motionNumber 3 = .ok (.iload 4, 2) := by decide +kernel
theorem dX0_motionNumber_5 : decode cX0_motionNumber 5 = .ok (.aload_n 0, 1) := by decide +kernel
theorem dX0_motionNumber_6 : decode cX0_motionNumber 6 = .ok (.getfield 21, 3) := by decide +kernel
theorem dX0_motionNumber_9 : decode cX0_motionNumber 9 = .ok (.getfield 35, 3) := by decide +kernel
theorem dX0_motionNumber_12 : decode cX0_motionNumber 12 = .ok (.invokeinterface 41 1, 5) := by decide +kernel
theorem dX0_motionNumber_17 : decode cX0_motionNumber 17 = .ok (.if_icmp .ge 42, 3) := by decide +kernel
theorem dX0_motionNumber_20 : decode cX0_motionNumber 20 = .ok (.aload_n 0, 1) := by decide +kernel
theorem dX0_motionNumber_21 : decode cX0_motionNumber 21 = .ok (.getfield 21, 3) := by decide +kernel
theorem dX0_motionNumber_24 : decode cX0_motionNumber 24 = .ok (.getfield 35, 3) := by decide +kernel
theorem dX0_motionNumber_27 : decode cX0_motionNumber 27 = .ok (.iload 4, 2) := by decide +kernel
theorem dX0_motionNumber_29 : decode cX0_motionNumber 29 = .ok (.invokeinterface 46 2, 5) := by decide +kernel
theorem dX0_motionNumber_34 : decode cX0_motionNumber 34 = .ok (.aload_n 2, 1) := by decide +kernel
theorem dX0_motionNumber_35 : decode cX0_motionNumber 35 = .ok (.if_acmp .ne 18, 3) := by decide +kernel
theorem dX0_motionNumber_38 : decode cX0_motionNumber 38 = .ok (.aload_n 0, 1) := by decide +kernel
theorem dX0_motionNumber_39 : decode cX0_motionNumber 39 = .ok (.getfield 12, 3) := by decide +kernel
theorem dX0_motionNumber_42 : decode cX0_motionNumber 42 = .ok (.iload_n 1, 1) := by decide +kernel
theorem dX0_motionNumber_43 : decode cX0_motionNumber 43 = .ok (.iconst 2, 1) := by decide +kernel
theorem dX0_motionNumber_44 : decode cX0_motionNumber 44 = .ok (.iload 4, 2) := by decide +kernel
theorem dX0_motionNumber_46 : decode cX0_motionNumber 46 = .ok (.imul, 1) := by decide +kernel
theorem dX0_motionNumber_47 : decode cX0_motionNumber 47 = .ok (.iload_n 3, 1) := by decide +kernel
theorem dX0_motionNumber_48 : decode cX0_motionNumber 48 = .ok (.iadd, 1) := by decide +kernel
theorem dX0_motionNumber_49 : decode cX0_motionNumber 49 = .ok (.invokevirtual 50, 3) := by decide +kernel
theorem dX0_motionNumber_52 : decode cX0_motionNumber 52 = .ok (.lreturn, 1) := by decide +kernel
theorem dX0_motionNumber_53 : decode cX0_motionNumber 53 = .ok (.iinc 4 1, 3) := by decide +kernel
theorem dX0_motionNumber_56 : decode cX0_motionNumber 56 = .ok (.goto (-53), 3) := by decide +kernel
theorem dX0_motionNumber_59 : decode cX0_motionNumber 59 = .ok (.lconst 0, 1) := by decide +kernel
theorem dX0_motionNumber_60 : decode cX0_motionNumber 60 = .ok (.lreturn, 1) := by decide +kernel
theorem dX0_stressNumber_0 : decode cX0_stressNumber 0 = .ok (.aload_n 2, 1) := by decide +kernel
theorem dX0_stressNumber_1 : decode cX0_stressNumber 1 = .ok (.getfield 54, 3) := by decide +kernel
theorem dX0_stressNumber_4 : decode cX0_stressNumber 4 = .ok (.ifCond .eq 19, 3) := by decide +kernel
theorem dX0_stressNumber_7 : decode cX0_stressNumber 7 = .ok (.aload_n 0, 1) := by decide +kernel
theorem dX0_stressNumber_8 : decode cX0_stressNumber 8 = .ok (.getfield 18, 3) := by decide +kernel
theorem dX0_stressNumber_11 : decode cX0_stressNumber 11 = .ok (.iload_n 1, 1) := by decide +kernel
theorem dX0_stressNumber_12 : decode cX0_stressNumber 12 = .ok (.aload_n 0, 1) := by decide +kernel
theorem dX0_stressNumber_13 : decode cX0_stressNumber 13 = .ok (.aload_n 2, 1) := by decide +kernel
theorem dX0_stressNumber_14 : decode cX0_stressNumber 14 = .ok (.invokevirtual 60, 3) := by decide +kernel
theorem dX0_stressNumber_17 : decode cX0_stressNumber 17 = .ok (.invokevirtual 50, 3) := by decide +kernel
theorem dX0_stressNumber_20 : decode cX0_stressNumber 20 = .ok (.goto 4, 3) := by decide +kernel
theorem dX0_stressNumber_23 : decode cX0_stressNumber 23 = .ok (.lconst 0, 1) := by decide +kernel
theorem dX0_stressNumber_24 : decode cX0_stressNumber 24 = .ok (.lreturn, 1) := by decide +kernel
theorem dX0_isNeeded_0 : decode cX0_isNeeded 0 = .ok (.iconst 0, 1) := by decide +kernel
theorem dX0_isNeeded_1 : decode cX0_isNeeded 1 = .ok (.istore_n 2, 1) := by decide +kernel
theorem dX0_isNeeded_2 : decode cX0_isNeeded 2 = .ok (.iload_n 2, 1) := by decide +kernel
theorem dX0_isNeeded_3 : decode cX0_isNeeded 3 = .ok (.aload_n 0, 1) := by decide +kernel
theorem dX0_isNeeded_4 : decode cX0_isNeeded 4 = .ok (.invokevirtual 32, 3) := by decide +kernel
theorem dX0_isNeeded_7 : decode cX0_isNeeded 7 = .ok (.if_icmp .ge 22, 3) := by decide +kernel
theorem dX0_isNeeded_10 : decode cX0_isNeeded 10 = .ok (.aload_n 0, 1) := by decide +kernel
theorem dX0_isNeeded_11 : decode cX0_isNeeded 11 = .ok (.iload_n 2, 1) := by decide +kernel
theorem dX0_isNeeded_12 : decode cX0_isNeeded 12 = .ok (.aload_n 1, 1) := by decide +kernel
theorem dX0_isNeeded_13 : decode cX0_isNeeded 13 = .ok (.invokevirtual 64, 3) := by decide +kernel
theorem dX0_isNeeded_16 : decode cX0_isNeeded 16 = .ok (.lconst 0, 1) := by decide +kernel
theorem dX0_isNeeded_17 : decode cX0_isNeeded 17 = .ok (.lcmp, 1) := by decide +kernel
theorem dX0_isNeeded_18 : decode cX0_isNeeded 18 = .ok (.ifCond .eq 5, 3) := by decide +kernel
theorem dX0_isNeeded_21 : decode cX0_isNeeded 21 = .ok (.iconst 0, 1) := by decide +kernel
theorem dX0_isNeeded_22 : decode cX0_isNeeded 22 = .ok (.ireturn, 1) := by decide +kernel
theorem dX0_isNeeded_23 : decode cX0_isNeeded 23 = .ok (.iinc 2 1, 3) := by decide +kernel
theorem dX0_isNeeded_26 : decode cX0_isNeeded 26 = .ok (.goto (-24), 3) := by decide +kernel
theorem dX0_isNeeded_29 : decode cX0_isNeeded 29 = .ok (.aload_n 1, 1) := by decide +kernel
theorem dX0_isNeeded_30 : decode cX0_isNeeded 30 = .ok (.getfield 54, 3) := by decide +kernel
theorem dX0_isNeeded_33 : decode cX0_isNeeded 33 = .ok (.ireturn, 1) := by decide +kernel
theorem dX0_isCarried_0 : decode cX0_isCarried 0 = .ok (.aload_n 0, 1) := by decide +kernel
theorem dX0_isCarried_1 : decode cX0_isCarried 1 = .ok (.getfield 18, 3) := by decide +kernel
theorem dX0_isCarried_4 : decode cX0_isCarried 4 = .ok (.invokevirtual 68, 3) := by decide +kernel
theorem dX0_isCarried_7 : decode cX0_isCarried 7 = .ok (.ireturn, 1) := by decide +kernel
theorem dX0_forceAbove_0 : decode cX0_forceAbove 0 = .ok (.aload_n 1, 1) := by decide +kernel
theorem dX0_forceAbove_1 : decode cX0_forceAbove 1 = .ok (.getfield 54, 3) := by decide +kernel
theorem dX0_forceAbove_4 : decode cX0_forceAbove 4 = .ok (.ifCond .eq 18, 3) := by decide +kernel
theorem dX0_forceAbove_7 : decode cX0_forceAbove 7 = .ok (.aload_n 0, 1) := by decide +kernel
theorem dX0_forceAbove_8 : decode cX0_forceAbove 8 = .ok (.getfield 18, 3) := by decide +kernel
theorem dX0_forceAbove_11 : decode cX0_forceAbove 11 = .ok (.aload_n 0, 1) := by decide +kernel
theorem dX0_forceAbove_12 : decode cX0_forceAbove 12 = .ok (.aload_n 1, 1) := by decide +kernel
theorem dX0_forceAbove_13 : decode cX0_forceAbove 13 = .ok (.invokevirtual 60, 3) := by decide +kernel
theorem dX0_forceAbove_16 : decode cX0_forceAbove 16 = .ok (.invokevirtual 72, 3) := by decide +kernel
theorem dX0_forceAbove_19 : decode cX0_forceAbove 19 = .ok (.goto 4, 3) := by decide +kernel
theorem dX0_forceAbove_22 : decode cX0_forceAbove 22 = .ok (.lconst 0, 1) := by decide +kernel
theorem dX0_forceAbove_23 : decode cX0_forceAbove 23 = .ok (.lreturn, 1) := by decide +kernel
theorem dX0_forceBelow_0 : decode cX0_forceBelow 0 = .ok (.aload_n 1, 1) := by decide +kernel
theorem dX0_forceBelow_1 : decode cX0_forceBelow 1 = .ok (.getfield 54, 3) := by decide +kernel
theorem dX0_forceBelow_4 : decode cX0_forceBelow 4 = .ok (.ifCond .eq 18, 3) := by decide +kernel
theorem dX0_forceBelow_7 : decode cX0_forceBelow 7 = .ok (.aload_n 0, 1) := by decide +kernel
theorem dX0_forceBelow_8 : decode cX0_forceBelow 8 = .ok (.getfield 18, 3) := by decide +kernel
theorem dX0_forceBelow_11 : decode cX0_forceBelow 11 = .ok (.aload_n 0, 1) := by decide +kernel
theorem dX0_forceBelow_12 : decode cX0_forceBelow 12 = .ok (.aload_n 1, 1) := by decide +kernel
theorem dX0_forceBelow_13 : decode cX0_forceBelow 13 = .ok (.invokevirtual 60, 3) := by decide +kernel
theorem dX0_forceBelow_16 : decode cX0_forceBelow 16 = .ok (.invokevirtual 76, 3) := by decide +kernel
theorem dX0_forceBelow_19 : decode cX0_forceBelow 19 = .ok (.goto 4, 3) := by decide +kernel
theorem dX0_forceBelow_22 : decode cX0_forceBelow 22 = .ok (.lconst 1, 1) := by decide +kernel
theorem dX0_forceBelow_23 : decode cX0_forceBelow 23 = .ok (.lreturn, 1) := by decide +kernel
theorem dX0_workOf_0 : decode cX0_workOf 0 = .ok (.lconst 0, 1) := by decide +kernel
theorem dX0_workOf_1 : decode cX0_workOf 1 = .ok (.lstore_n 2, 1) := by decide +kernel
theorem dX0_workOf_2 : decode cX0_workOf 2 = .ok (.iconst 0, 1) := by decide +kernel
theorem dX0_workOf_3 : decode cX0_workOf 3 = .ok (.istore 4, 2) := by decide +kernel
theorem dX0_workOf_5 : decode cX0_workOf 5 = .ok (.iload 4, 2) := by decide +kernel
theorem dX0_workOf_7 : decode cX0_workOf 7 = .ok (.aload_n 0, 1) := by decide +kernel
theorem dX0_workOf_8 : decode cX0_workOf 8 = .ok (.getfield 21, 3) := by decide +kernel
theorem dX0_workOf_11 : decode cX0_workOf 11 = .ok (.getfield 35, 3) := by decide +kernel
theorem dX0_workOf_14 : decode cX0_workOf 14 = .ok (.invokeinterface 41 1, 5) := by decide +kernel
theorem dX0_workOf_19 : decode cX0_workOf 19 = .ok (.if_icmp .ge 74, 3) := by decide +kernel
theorem dX0_workOf_22 : decode cX0_workOf 22 = .ok (.aload_n 0, 1) := by decide +kernel
theorem dX0_workOf_23 : decode cX0_workOf 23 = .ok (.getfield 21, 3) := by decide +kernel
theorem dX0_workOf_26 : decode cX0_workOf 26 = .ok (.getfield 35, 3) := by decide +kernel
theorem dX0_workOf_29 : decode cX0_workOf 29 = .ok (.iload 4, 2) := by decide +kernel
theorem dX0_workOf_31 : decode cX0_workOf 31 = .ok (.invokeinterface 46 2, 5) := by decide +kernel
theorem dX0_workOf_36 : decode cX0_workOf 36 = .ok (.checkcast 79, 3) := by decide +kernel
theorem dX0_workOf_39 : decode cX0_workOf 39 = .ok (.astore 5, 2) := by decide +kernel
theorem dX0_workOf_41 : decode cX0_workOf 41 = .ok (.lload_n 2, 1) := by decide +kernel
theorem dX0_workOf_42 : decode cX0_workOf 42 = .ok (.aload_n 0, 1) := by decide +kernel
theorem dX0_workOf_43 : decode cX0_workOf 43 = .ok (.getfield 12, 3) := by decide +kernel
theorem dX0_workOf_46 : decode cX0_workOf 46 = .ok (.iload_n 1, 1) := by decide +kernel
theorem dX0_workOf_47 : decode cX0_workOf 47 = .ok (.iconst 2, 1) := by decide +kernel
theorem dX0_workOf_48 : decode cX0_workOf 48 = .ok (.iload 4, 2) := by decide +kernel
theorem dX0_workOf_50 : decode cX0_workOf 50 = .ok (.imul, 1) := by decide +kernel
theorem dX0_workOf_51 : decode cX0_workOf 51 = .ok (.invokevirtual 50, 3) := by decide +kernel
theorem dX0_workOf_54 : decode cX0_workOf 54 = .ok (.aload 5, 2) := by decide +kernel
theorem dX0_workOf_56 : decode cX0_workOf 56 = .ok (.getfield 81, 3) := by decide +kernel
theorem dX0_workOf_59 : decode cX0_workOf 59 = .ok (.i2l, 1) := by decide +kernel
theorem dX0_workOf_60 : decode cX0_workOf 60 = .ok (.lmul, 1) := by decide +kernel
theorem dX0_workOf_61 : decode cX0_workOf 61 = .ok (.ladd, 1) := by decide +kernel
theorem dX0_workOf_62 : decode cX0_workOf 62 = .ok (.lstore_n 2, 1) := by decide +kernel
theorem dX0_workOf_63 : decode cX0_workOf 63 = .ok (.lload_n 2, 1) := by decide +kernel
theorem dX0_workOf_64 : decode cX0_workOf 64 = .ok (.aload_n 0, 1) := by decide +kernel
theorem dX0_workOf_65 : decode cX0_workOf 65 = .ok (.getfield 12, 3) := by decide +kernel
theorem dX0_workOf_68 : decode cX0_workOf 68 = .ok (.iload_n 1, 1) := by decide +kernel
theorem dX0_workOf_69 : decode cX0_workOf 69 = .ok (.iconst 2, 1) := by decide +kernel
theorem dX0_workOf_70 : decode cX0_workOf 70 = .ok (.iload 4, 2) := by decide +kernel
theorem dX0_workOf_72 : decode cX0_workOf 72 = .ok (.imul, 1) := by decide +kernel
theorem dX0_workOf_73 : decode cX0_workOf 73 = .ok (.iconst 1, 1) := by decide +kernel
theorem dX0_workOf_74 : decode cX0_workOf 74 = .ok (.iadd, 1) := by decide +kernel
theorem dX0_workOf_75 : decode cX0_workOf 75 = .ok (.invokevirtual 50, 3) := by decide +kernel
theorem dX0_workOf_78 : decode cX0_workOf 78 = .ok (.aload 5, 2) := by decide +kernel
theorem dX0_workOf_80 : decode cX0_workOf 80 = .ok (.getfield 85, 3) := by decide +kernel
theorem dX0_workOf_83 : decode cX0_workOf 83 = .ok (.i2l, 1) := by decide +kernel
theorem dX0_workOf_84 : decode cX0_workOf 84 = .ok (.lmul, 1) := by decide +kernel
theorem dX0_workOf_85 : decode cX0_workOf 85 = .ok (.ladd, 1) := by decide +kernel
theorem dX0_workOf_86 : decode cX0_workOf 86 = .ok (.lstore_n 2, 1) := by decide +kernel
theorem dX0_workOf_87 : decode cX0_workOf 87 = .ok (.iinc 4 1, 3) := by decide +kernel
theorem dX0_workOf_90 : decode cX0_workOf 90 = .ok (.goto (-85), 3) := by decide +kernel
theorem dX0_workOf_93 : decode cX0_workOf 93 = .ok (.lload_n 2, 1) := by decide +kernel
theorem dX0_workOf_94 : decode cX0_workOf 94 = .ok (.lreturn, 1) := by decide +kernel
theorem dX0_renew_0 : decode cX0_renew 0 = .ok (.aload_n 0, 1) := by decide +kernel
theorem dX0_renew_1 : decode cX0_renew 1 = .ok (.getfield 12, 3) := by decide +kernel
theorem dX0_renew_4 : decode cX0_renew 4 = .ok (.aload_n 0, 1) := by decide +kernel
theorem dX0_renew_5 : decode cX0_renew 5 = .ok (.getfield 21, 3) := by decide +kernel
theorem dX0_renew_8 : decode cX0_renew 8 = .ok (.getfield 88, 3) := by decide +kernel
theorem dX0_renew_11 : decode cX0_renew 11 = .ok (.aload_n 0, 1) := by decide +kernel
theorem dX0_renew_12 : decode cX0_renew 12 = .ok (.getfield 21, 3) := by decide +kernel
theorem dX0_renew_15 : decode cX0_renew 15 = .ok (.getfield 35, 3) := by decide +kernel
theorem dX0_renew_18 : decode cX0_renew 18 = .ok (.invokevirtual 91, 3) := by decide +kernel
theorem dX0_renew_21 : decode cX0_renew 21 = .ok (.aload_n 0, 1) := by decide +kernel
theorem dX0_renew_22 : decode cX0_renew 22 = .ok (.getfield 12, 3) := by decide +kernel
theorem dX0_renew_25 : decode cX0_renew 25 = .ok (.invokevirtual 95, 3) := by decide +kernel
theorem dX0_renew_28 : decode cX0_renew 28 = .ok (.aload_n 0, 1) := by decide +kernel
theorem dX0_renew_29 : decode cX0_renew 29 = .ok (.getfield 18, 3) := by decide +kernel
theorem dX0_renew_32 : decode cX0_renew 32 = .ok (.aload_n 0, 1) := by decide +kernel
theorem dX0_renew_33 : decode cX0_renew 33 = .ok (.getfield 21, 3) := by decide +kernel
theorem dX0_renew_36 : decode cX0_renew 36 = .ok (.getfield 88, 3) := by decide +kernel
theorem dX0_renew_39 : decode cX0_renew 39 = .ok (.aload_n 0, 1) := by decide +kernel
theorem dX0_renew_40 : decode cX0_renew 40 = .ok (.getfield 21, 3) := by decide +kernel
theorem dX0_renew_43 : decode cX0_renew 43 = .ok (.getfield 35, 3) := by decide +kernel
theorem dX0_renew_46 : decode cX0_renew 46 = .ok (.invokevirtual 98, 3) := by decide +kernel
theorem dX0_renew_49 : decode cX0_renew 49 = .ok (.aload_n 0, 1) := by decide +kernel
theorem dX0_renew_50 : decode cX0_renew 50 = .ok (.getfield 18, 3) := by decide +kernel
theorem dX0_renew_53 : decode cX0_renew 53 = .ok (.invokevirtual 95, 3) := by decide +kernel
theorem dX0_renew_56 : decode cX0_renew 56 = .ok (.return_, 1) := by decide +kernel
theorem dX0_columnOf_0 : decode cX0_columnOf 0 = .ok (.iconst 0, 1) := by decide +kernel
theorem dX0_columnOf_1 : decode cX0_columnOf 1 = .ok (.istore_n 2, 1) := by decide +kernel
theorem dX0_columnOf_2 : decode cX0_columnOf 2 = .ok (.iload_n 2, 1) := by decide +kernel
theorem dX0_columnOf_3 : decode cX0_columnOf 3 = .ok (.aload_n 0, 1) := by decide +kernel
theorem dX0_columnOf_4 : decode cX0_columnOf 4 = .ok (.getfield 21, 3) := by decide +kernel
theorem dX0_columnOf_7 : decode cX0_columnOf 7 = .ok (.getfield 88, 3) := by decide +kernel
theorem dX0_columnOf_10 : decode cX0_columnOf 10 = .ok (.invokeinterface 41 1, 5) := by decide +kernel
theorem dX0_columnOf_15 : decode cX0_columnOf 15 = .ok (.if_icmp .ge 28, 3) := by decide +kernel
theorem dX0_columnOf_18 : decode cX0_columnOf 18 = .ok (.aload_n 0, 1) := by decide +kernel
theorem dX0_columnOf_19 : decode cX0_columnOf 19 = .ok (.getfield 21, 3) := by decide +kernel
theorem dX0_columnOf_22 : decode cX0_columnOf 22 = .ok (.getfield 88, 3) := by decide +kernel
theorem dX0_columnOf_25 : decode cX0_columnOf 25 = .ok (.iload_n 2, 1) := by decide +kernel
theorem dX0_columnOf_26 : decode cX0_columnOf 26 = .ok (.invokeinterface 46 2, 5) := by decide +kernel
theorem dX0_columnOf_31 : decode cX0_columnOf 31 = .ok (.aload_n 1, 1) := by decide +kernel
theorem dX0_columnOf_32 : decode cX0_columnOf 32 = .ok (.if_acmp .ne 5, 3) := by decide +kernel
theorem dX0_columnOf_35 : decode cX0_columnOf 35 = .ok (.iload_n 2, 1) := by decide +kernel
theorem dX0_columnOf_36 : decode cX0_columnOf 36 = .ok (.ireturn, 1) := by decide +kernel
theorem dX0_columnOf_37 : decode cX0_columnOf 37 = .ok (.iinc 2 1, 3) := by decide +kernel
theorem dX0_columnOf_40 : decode cX0_columnOf 40 = .ok (.goto (-38), 3) := by decide +kernel
theorem dX0_columnOf_43 : decode cX0_columnOf 43 = .ok (.iconst (-1), 1) := by decide +kernel
theorem dX0_columnOf_44 : decode cX0_columnOf 44 = .ok (.ireturn, 1) := by decide +kernel
theorem dX1_init_0 : decode cX1_init 0 = .ok (.aload_n 0, 1) := by decide +kernel
theorem dX1_init_1 : decode cX1_init 1 = .ok (.invokespecial 3, 3) := by decide +kernel
theorem dX1_init_4 : decode cX1_init 4 = .ok (.aload_n 0, 1) := by decide +kernel
theorem dX1_init_5 : decode cX1_init 5 = .ok (.bipush 64, 2) := by decide +kernel
theorem dX1_init_7 : decode cX1_init 7 = .ok (.newarray .int, 2) := by decide +kernel
theorem dX1_init_9 : decode cX1_init 9 = .ok (.putfield 11, 3) := by decide +kernel
theorem dX1_init_12 : decode cX1_init 12 = .ok (.aload_n 0, 1) := by decide +kernel
theorem dX1_init_13 : decode cX1_init 13 = .ok (.bipush 64, 2) := by decide +kernel
theorem dX1_init_15 : decode cX1_init 15 = .ok (.newarray .int, 2) := by decide +kernel
theorem dX1_init_17 : decode cX1_init 17 = .ok (.putfield 15, 3) := by decide +kernel
theorem dX1_init_20 : decode cX1_init 20 = .ok (.aload_n 0, 1) := by decide +kernel
theorem dX1_init_21 : decode cX1_init 21 = .ok (.iconst 0, 1) := by decide +kernel
theorem dX1_init_22 : decode cX1_init 22 = .ok (.putfield 18, 3) := by decide +kernel
theorem dX1_init_25 : decode cX1_init 25 = .ok (.aload_n 0, 1) := by decide +kernel
theorem dX1_init_26 : decode cX1_init 26 = .ok (.iconst 0, 1) := by decide +kernel
theorem dX1_init_27 : decode cX1_init 27 = .ok (.putfield 22, 3) := by decide +kernel
theorem dX1_init_30 : decode cX1_init 30 = .ok (.aload_n 0, 1) := by decide +kernel
theorem dX1_init_31 : decode cX1_init 31 = .ok (.aload_n 1, 1) := by decide +kernel
theorem dX1_init_32 : decode cX1_init 32 = .ok (.putfield 25, 3) := by decide +kernel
theorem dX1_init_35 : decode cX1_init 35 = .ok (.return_, 1) := by decide +kernel
theorem dX1_bodyCount_0 : decode cX1_bodyCount 0 = .ok (.aload_n 0, 1) := by decide +kernel
theorem dX1_bodyCount_1 : decode cX1_bodyCount 1 = .ok (.getfield 18, 3) := by decide +kernel
theorem dX1_bodyCount_4 : decode cX1_bodyCount 4 = .ok (.ireturn, 1) := by decide +kernel
theorem dX1_isBody_0 : decode cX1_isBody 0 = .ok (.iload_n 1, 1) := by decide +kernel
theorem dX1_isBody_1 : decode cX1_isBody 1 = .ok (.ifCond .lt 15, 3) := by decide +kernel
theorem dX1_isBody_4 : decode cX1_isBody 4 = .ok (.iload_n 1, 1) := by decide +kernel
theorem dX1_isBody_5 : decode cX1_isBody 5 = .ok (.aload_n 0, 1) := by decide +kernel
theorem dX1_isBody_6 : decode cX1_isBody 6 = .ok (.invokevirtual 29, 3) := by decide +kernel
theorem dX1_isBody_9 : decode cX1_isBody 9 = .ok (.if_icmp .ge 7, 3) := by decide +kernel
theorem dX1_isBody_12 : decode cX1_isBody 12 = .ok (.iconst 1, 1) := by decide +kernel
theorem dX1_isBody_13 : decode cX1_isBody 13 = .ok (.goto 4, 3) := by decide +kernel
theorem dX1_isBody_16 : decode cX1_isBody 16 = .ok (.iconst 0, 1) := by decide +kernel
theorem dX1_isBody_17 : decode cX1_isBody 17 = .ok (.ireturn, 1) := by decide +kernel
theorem dX1_surplus_0 : decode cX1_surplus 0 = .ok (.aload_n 0, 1) := by decide +kernel
theorem dX1_surplus_1 : decode cX1_surplus 1 = .ok (.getfield 25, 3) := by decide +kernel
theorem dX1_surplus_4 : decode cX1_surplus 4 = .ok (.getfield 33, 3) := by decide +kernel
theorem dX1_surplus_7 : decode cX1_surplus 7 = .ok (.invokeinterface 39 1, 5) := by decide +kernel
theorem dX1_surplus_12 : decode cX1_surplus 12 = .ok (.aload_n 0, 1) := by decide +kernel
theorem dX1_surplus_13 : decode cX1_surplus 13 = .ok (.getfield 22, 3) := by decide +kernel
theorem dX1_surplus_16 : decode cX1_surplus 16 = .ok (.isub, 1) := by decide +kernel
theorem dX1_surplus_17 : decode cX1_surplus 17 = .ok (.ireturn, 1) := by decide +kernel
theorem dX1_areAllOne_0 : decode cX1_areAllOne 0 = .ok (.aload_n 0, 1) := by decide +kernel
theorem dX1_areAllOne_1 : decode cX1_areAllOne 1 = .ok (.getfield 25, 3) := by decide +kernel
theorem dX1_areAllOne_4 : decode cX1_areAllOne 4 = .ok (.getfield 44, 3) := by decide +kernel
theorem dX1_areAllOne_7 : decode cX1_areAllOne 7 = .ok (.invokeinterface 39 1, 5) := by decide +kernel
theorem dX1_areAllOne_12 : decode cX1_areAllOne 12 = .ok (.istore_n 1, 1) := by decide +kernel
theorem dX1_areAllOne_13 : decode cX1_areAllOne 13 = .ok (.iload_n 1, 1) := by decide +kernel
theorem dX1_areAllOne_14 : decode cX1_areAllOne 14 = .ok (.iconst 2, 1) := by decide +kernel
theorem dX1_areAllOne_15 : decode cX1_areAllOne 15 = .ok (.if_icmp .lt 18, 3) := by decide +kernel
theorem dX1_areAllOne_18 : decode cX1_areAllOne 18 = .ok (.aload_n 0, 1) := by decide +kernel
theorem dX1_areAllOne_19 : decode cX1_areAllOne 19 = .ok (.getfield 22, 3) := by decide +kernel
theorem dX1_areAllOne_22 : decode cX1_areAllOne 22 = .ok (.iload_n 1, 1) := by decide +kernel
theorem dX1_areAllOne_23 : decode cX1_areAllOne 23 = .ok (.invokestatic 47, 3) := by decide +kernel
theorem dX1_areAllOne_26 : decode cX1_areAllOne 26 = .ok (.if_icmp .ne 7, 3) := by decide +kernel
theorem dX1_areAllOne_29 : decode cX1_areAllOne 29 = .ok (.iconst 1, 1) := by decide +kernel
theorem dX1_areAllOne_30 : decode cX1_areAllOne 30 = .ok (.goto 4, 3) := by decide +kernel
theorem dX1_areAllOne_33 : decode cX1_areAllOne 33 = .ok (.iconst 0, 1) := by decide +kernel
theorem dX1_areAllOne_34 : decode cX1_areAllOne 34 = .ok (.ireturn, 1) := by decide +kernel
theorem dX1_leastBodyOf_0 : decode cX1_leastBodyOf 0 = .ok (.aload_n 1, 1) := by decide +kernel
theorem dX1_leastBodyOf_1 : decode cX1_leastBodyOf 1 = .ok (.invokestatic 51, 3) := by decide +kernel
theorem dX1_leastBodyOf_4 : decode cX1_leastBodyOf 4 = .ok (.istore_n 2, 1) := by decide +kernel
theorem dX1_leastBodyOf_5 : decode cX1_leastBodyOf 5 = .ok (.iconst 0, 1) := by decide +kernel
theorem dX1_leastBodyOf_6 : decode cX1_leastBodyOf 6 = .ok (.istore_n 3, 1) := by decide +kernel
theorem dX1_leastBodyOf_7 : decode cX1_leastBodyOf 7 = .ok (.iload_n 3, 1) := by decide +kernel
theorem dX1_leastBodyOf_8 : decode cX1_leastBodyOf 8 = .ok (.aload_n 0, 1) := by decide +kernel
theorem dX1_leastBodyOf_9 : decode cX1_leastBodyOf 9 = .ok (.getfield 18, 3) := by decide +kernel
theorem dX1_leastBodyOf_12 : decode cX1_leastBodyOf 12 = .ok (.if_icmp .ge 24, 3) := by decide +kernel
theorem dX1_leastBodyOf_15 : decode cX1_leastBodyOf 15 = .ok (.aload_n 0, 1) := by decide +kernel
theorem dX1_leastBodyOf_16 : decode cX1_leastBodyOf 16 = .ok (.getfield 15, 3) := by decide +kernel
theorem dX1_leastBodyOf_19 : decode cX1_leastBodyOf 19 = .ok (.iload_n 3, 1) := by decide +kernel
theorem dX1_leastBodyOf_20 : decode cX1_leastBodyOf 20 = .ok (.iaload, 1) := by decide +kernel
theorem dX1_leastBodyOf_21 : decode cX1_leastBodyOf 21 = .ok (.iload_n 2, 1) := by decide +kernel
theorem dX1_leastBodyOf_22 : decode cX1_leastBodyOf 22 = .ok (.invokestatic 55, 3) := by decide +kernel
theorem dX1_leastBodyOf_25 : decode cX1_leastBodyOf 25 = .ok (.ifCond .eq 5, 3) := by decide +kernel
theorem dX1_leastBodyOf_28 : decode cX1_leastBodyOf 28 = .ok (.iload_n 3, 1) := by decide +kernel
theorem dX1_leastBodyOf_29 : decode cX1_leastBodyOf 29 = .ok (.ireturn, 1) := by decide +kernel
theorem dX1_leastBodyOf_30 : decode cX1_leastBodyOf 30 = .ok (.iinc 3 1, 3) := by decide +kernel
theorem dX1_leastBodyOf_33 : decode cX1_leastBodyOf 33 = .ok (.goto (-26), 3) := by decide +kernel
theorem dX1_leastBodyOf_36 : decode cX1_leastBodyOf 36 = .ok (.iconst (-1), 1) := by decide +kernel
theorem dX1_leastBodyOf_37 : decode cX1_leastBodyOf 37 = .ok (.ireturn, 1) := by decide +kernel
theorem dX1_pinOf_0 : decode cX1_pinOf 0 = .ok (.iload_n 2, 1) := by decide +kernel
theorem dX1_pinOf_1 : decode cX1_pinOf 1 = .ok (.istore_n 3, 1) := by decide +kernel
theorem dX1_pinOf_2 : decode cX1_pinOf 2 = .ok (.iconst 0, 1) := by decide +kernel
theorem dX1_pinOf_3 : decode cX1_pinOf 3 = .ok (.istore 4, 2) := by decide +kernel
theorem dX1_pinOf_5 : decode cX1_pinOf 5 = .ok (.iload 4, 2) := by decide +kernel
theorem dX1_pinOf_7 : decode cX1_pinOf 7 = .ok (.bipush 6, 2) := by decide +kernel
theorem dX1_pinOf_9 : decode cX1_pinOf 9 = .ok (.if_icmp .ge 44, 3) := by decide +kernel
theorem dX1_pinOf_12 : decode cX1_pinOf 12 = .ok (.aload_n 0, 1) := by decide +kernel
theorem dX1_pinOf_13 : decode cX1_pinOf 13 = .ok (.iload_n 1, 1) := by decide +kernel
theorem dX1_pinOf_14 : decode cX1_pinOf 14 = .ok (.invokevirtual 59, 3) := by decide +kernel
theorem dX1_pinOf_17 : decode cX1_pinOf 17 = .ok (.ifCond .eq 36, 3) := by decide +kernel
theorem dX1_pinOf_20 : decode cX1_pinOf 20 = .ok (.aload_n 0, 1) := by decide +kernel
theorem dX1_pinOf_21 : decode cX1_pinOf 21 = .ok (.getfield 15, 3) := by decide +kernel
theorem dX1_pinOf_24 : decode cX1_pinOf 24 = .ok (.iload_n 1, 1) := by decide +kernel
theorem dX1_pinOf_25 : decode cX1_pinOf 25 = .ok (.iaload, 1) := by decide +kernel
theorem dX1_pinOf_26 : decode cX1_pinOf 26 = .ok (.iload 4, 2) := by decide +kernel
theorem dX1_pinOf_28 : decode cX1_pinOf 28 = .ok (.invokestatic 63, 3) := by decide +kernel
theorem dX1_pinOf_31 : decode cX1_pinOf 31 = .ok (.invokestatic 55, 3) := by decide +kernel
theorem dX1_pinOf_34 : decode cX1_pinOf 34 = .ok (.ifCond .eq 13, 3) := by decide +kernel
theorem dX1_pinOf_37 : decode cX1_pinOf 37 = .ok (.iload_n 3, 1) := by decide +kernel
theorem dX1_pinOf_38 : decode cX1_pinOf 38 = .ok (.ifCond .ne 6, 3) := by decide +kernel
theorem dX1_pinOf_41 : decode cX1_pinOf 41 = .ok (.iload 4, 2) := by decide +kernel
theorem dX1_pinOf_43 : decode cX1_pinOf 43 = .ok (.ireturn, 1) := by decide +kernel
theorem dX1_pinOf_44 : decode cX1_pinOf 44 = .ok (.iinc 3 (-1), 3) := by decide +kernel
theorem dX1_pinOf_47 : decode cX1_pinOf 47 = .ok (.iinc 4 1, 3) := by decide +kernel
theorem dX1_pinOf_50 : decode cX1_pinOf 50 = .ok (.goto (-45), 3) := by decide +kernel
theorem dX1_pinOf_53 : decode cX1_pinOf 53 = .ok (.iconst (-1), 1) := by decide +kernel
theorem dX1_pinOf_54 : decode cX1_pinOf 54 = .ok (.ireturn, 1) := by decide +kernel
theorem dX1_renew_0 : decode cX1_renew 0 = .ok (.aload_n 0, 1) := by decide +kernel
theorem dX1_renew_1 : decode cX1_renew 1 = .ok (.invokevirtual 66, 3) := by decide +kernel
theorem dX1_renew_4 : decode cX1_renew 4 = .ok (.aload_n 0, 1) := by decide +kernel
theorem dX1_renew_5 : decode cX1_renew 5 = .ok (.iconst 0, 1) := by decide +kernel
theorem dX1_renew_6 : decode cX1_renew 6 = .ok (.putfield 18, 3) := by decide +kernel
theorem dX1_renew_9 : decode cX1_renew 9 = .ok (.bipush 63, 2) := by decide +kernel
theorem dX1_renew_11 : decode cX1_renew 11 = .ok (.istore_n 1, 1) := by decide +kernel
theorem dX1_renew_12 : decode cX1_renew 12 = .ok (.iload_n 1, 1) := by decide +kernel
theorem dX1_renew_13 : decode cX1_renew 13 = .ok (.ifCond .le 53, 3) := by decide +kernel
theorem dX1_renew_16 : decode cX1_renew 16 = .ok (.iload_n 1, 1) := by decide +kernel
theorem dX1_renew_17 : decode cX1_renew 17 = .ok (.invokestatic 69, 3) := by decide +kernel
theorem dX1_renew_20 : decode cX1_renew 20 = .ok (.iconst 2, 1) := by decide +kernel
theorem dX1_renew_21 : decode cX1_renew 21 = .ok (.if_icmp .lt 39, 3) := by decide +kernel
theorem dX1_renew_24 : decode cX1_renew 24 = .ok (.aload_n 0, 1) := by decide +kernel
theorem dX1_renew_25 : decode cX1_renew 25 = .ok (.iload_n 1, 1) := by decide +kernel
theorem dX1_renew_26 : decode cX1_renew 26 = .ok (.invokevirtual 74, 3) := by decide +kernel
theorem dX1_renew_29 : decode cX1_renew 29 = .ok (.ifCond .eq 31, 3) := by decide +kernel
theorem dX1_renew_32 : decode cX1_renew 32 = .ok (.aload_n 0, 1) := by decide +kernel
theorem dX1_renew_33 : decode cX1_renew 33 = .ok (.iload_n 1, 1) := by decide +kernel
theorem dX1_renew_34 : decode cX1_renew 34 = .ok (.invokevirtual 77, 3) := by decide +kernel
theorem dX1_renew_37 : decode cX1_renew 37 = .ok (.ifCond .ne 23, 3) := by decide +kernel
theorem dX1_renew_40 : decode cX1_renew 40 = .ok (.aload_n 0, 1) := by decide +kernel
theorem dX1_renew_41 : decode cX1_renew 41 = .ok (.getfield 15, 3) := by decide +kernel
theorem dX1_renew_44 : decode cX1_renew 44 = .ok (.aload_n 0, 1) := by decide +kernel
theorem dX1_renew_45 : decode cX1_renew 45 = .ok (.getfield 18, 3) := by decide +kernel
theorem dX1_renew_48 : decode cX1_renew 48 = .ok (.iload_n 1, 1) := by decide +kernel
theorem dX1_renew_49 : decode cX1_renew 49 = .ok (.iastore, 1) := by decide +kernel
theorem dX1_renew_50 : decode cX1_renew 50 = .ok (.aload_n 0, 1) := by decide +kernel
theorem dX1_renew_51 : decode cX1_renew 51 = .ok (.dup, 1) := by decide +kernel
theorem dX1_renew_52 : decode cX1_renew 52 = .ok (.getfield 18, 3) := by decide +kernel
theorem dX1_renew_55 : decode cX1_renew 55 = .ok (.iconst 1, 1) := by decide +kernel
theorem dX1_renew_56 : decode cX1_renew 56 = .ok (.iadd, 1) := by decide +kernel
theorem dX1_renew_57 : decode cX1_renew 57 = .ok (.putfield 18, 3) := by decide +kernel
theorem dX1_renew_60 : decode cX1_renew 60 = .ok (.iinc 1 (-1), 3) := by decide +kernel
theorem dX1_renew_63 : decode cX1_renew 63 = .ok (.goto (-51), 3) := by decide +kernel
theorem dX1_renew_66 : decode cX1_renew 66 = .ok (.return_, 1) := by decide +kernel
theorem dX1_isInBody_0 : decode cX1_isInBody 0 = .ok (.iconst 0, 1) := by decide +kernel
theorem dX1_isInBody_1 : decode cX1_isInBody 1 = .ok (.istore_n 2, 1) := by decide +kernel
theorem dX1_isInBody_2 : decode cX1_isInBody 2 = .ok (.iload_n 2, 1) := by decide +kernel
theorem dX1_isInBody_3 : decode cX1_isInBody 3 = .ok (.aload_n 0, 1) := by decide +kernel
theorem dX1_isInBody_4 : decode cX1_isInBody 4 = .ok (.getfield 18, 3) := by decide +kernel
theorem dX1_isInBody_7 : decode cX1_isInBody 7 = .ok (.if_icmp .ge 24, 3) := by decide +kernel
theorem dX1_isInBody_10 : decode cX1_isInBody 10 = .ok (.aload_n 0, 1) := by decide +kernel
theorem dX1_isInBody_11 : decode cX1_isInBody 11 = .ok (.getfield 15, 3) := by decide +kernel
theorem dX1_isInBody_14 : decode cX1_isInBody 14 = .ok (.iload_n 2, 1) := by decide +kernel
theorem dX1_isInBody_15 : decode cX1_isInBody 15 = .ok (.iaload, 1) := by decide +kernel
theorem dX1_isInBody_16 : decode cX1_isInBody 16 = .ok (.iload_n 1, 1) := by decide +kernel
theorem dX1_isInBody_17 : decode cX1_isInBody 17 = .ok (.invokestatic 55, 3) := by decide +kernel
theorem dX1_isInBody_20 : decode cX1_isInBody 20 = .ok (.ifCond .eq 5, 3) := by decide +kernel
theorem dX1_isInBody_23 : decode cX1_isInBody 23 = .ok (.iconst 1, 1) := by decide +kernel
theorem dX1_isInBody_24 : decode cX1_isInBody 24 = .ok (.ireturn, 1) := by decide +kernel
theorem dX1_isInBody_25 : decode cX1_isInBody 25 = .ok (.iinc 2 1, 3) := by decide +kernel
theorem dX1_isInBody_28 : decode cX1_isInBody 28 = .ok (.goto (-26), 3) := by decide +kernel
theorem dX1_isInBody_31 : decode cX1_isInBody 31 = .ok (.iconst 0, 1) := by decide +kernel
theorem dX1_isInBody_32 : decode cX1_isInBody 32 = .ok (.ireturn, 1) := by decide +kernel
theorem dX1_chooseRods_0 : decode cX1_chooseRods 0 = .ok (.iconst 0, 1) := by decide +kernel
theorem dX1_chooseRods_1 : decode cX1_chooseRods 1 = .ok (.istore_n 1, 1) := by decide +kernel
theorem dX1_chooseRods_2 : decode cX1_chooseRods 2 = .ok (.iload_n 1, 1) := by decide +kernel
theorem dX1_chooseRods_3 : decode cX1_chooseRods 3 = .ok (.bipush 64, 2) := by decide +kernel
theorem dX1_chooseRods_5 : decode cX1_chooseRods 5 = .ok (.if_icmp .ge 16, 3) := by decide +kernel
theorem dX1_chooseRods_8 : decode cX1_chooseRods 8 = .ok (.aload_n 0, 1) := by decide +kernel
theorem dX1_chooseRods_9 : decode cX1_chooseRods 9 = .ok (.getfield 11, 3) := by decide +kernel
theorem dX1_chooseRods_12 : decode cX1_chooseRods 12 = .ok (.iload_n 1, 1) := by decide +kernel
theorem dX1_chooseRods_13 : decode cX1_chooseRods 13 = .ok (.iconst 0, 1) := by decide +kernel
theorem dX1_chooseRods_14 : decode cX1_chooseRods 14 = .ok (.iastore, 1) := by decide +kernel
theorem dX1_chooseRods_15 : decode cX1_chooseRods 15 = .ok (.iinc 1 1, 3) := by decide +kernel
theorem dX1_chooseRods_18 : decode cX1_chooseRods 18 = .ok (.goto (-16), 3) := by decide +kernel
theorem dX1_chooseRods_21 : decode cX1_chooseRods 21 = .ok (.aload_n 0, 1) := by decide +kernel
theorem dX1_chooseRods_22 : decode cX1_chooseRods 22 = .ok (.iconst 0, 1) := by decide +kernel
theorem dX1_chooseRods_23 : decode cX1_chooseRods 23 = .ok (.putfield 22, 3) := by decide +kernel
theorem dX1_chooseRods_26 : decode cX1_chooseRods 26 = .ok (.iconst 0, 1) := by decide +kernel
theorem dX1_chooseRods_27 : decode cX1_chooseRods 27 = .ok (.istore_n 1, 1) := by decide +kernel
theorem dX1_chooseRods_28 : decode cX1_chooseRods 28 = .ok (.iload_n 1, 1) := by decide +kernel
theorem dX1_chooseRods_29 : decode cX1_chooseRods 29 = .ok (.aload_n 0, 1) := by decide +kernel
theorem dX1_chooseRods_30 : decode cX1_chooseRods 30 = .ok (.getfield 25, 3) := by decide +kernel
theorem dX1_chooseRods_33 : decode cX1_chooseRods 33 = .ok (.getfield 33, 3) := by decide +kernel
theorem dX1_chooseRods_36 : decode cX1_chooseRods 36 = .ok (.invokeinterface 39 1, 5) := by decide +kernel
theorem dX1_chooseRods_41 : decode cX1_chooseRods 41 = .ok (.if_icmp .ge 52, 3) := by decide +kernel
theorem dX1_chooseRods_44 : decode cX1_chooseRods 44 = .ok (.aload_n 0, 1) := by decide +kernel
theorem dX1_chooseRods_45 : decode cX1_chooseRods 45 = .ok (.getfield 25, 3) := by decide +kernel
theorem dX1_chooseRods_48 : decode cX1_chooseRods 48 = .ok (.getfield 33, 3) := by decide +kernel
theorem dX1_chooseRods_51 : decode cX1_chooseRods 51 = .ok (.iload_n 1, 1) := by decide +kernel
theorem dX1_chooseRods_52 : decode cX1_chooseRods 52 = .ok (.invokeinterface 80 2, 5) := by decide +kernel
theorem dX1_chooseRods_57 : decode cX1_chooseRods 57 = .ok (.checkcast 84, 3) := by decide +kernel
theorem dX1_chooseRods_60 : decode cX1_chooseRods 60 = .ok (.invokestatic 51, 3) := by decide +kernel
theorem dX1_chooseRods_63 : decode cX1_chooseRods 63 = .ok (.istore_n 2, 1) := by decide +kernel
theorem dX1_chooseRods_64 : decode cX1_chooseRods 64 = .ok (.aload_n 0, 1) := by decide +kernel
theorem dX1_chooseRods_65 : decode cX1_chooseRods 65 = .ok (.iload_n 2, 1) := by decide +kernel
theorem dX1_chooseRods_66 : decode cX1_chooseRods 66 = .ok (.invokevirtual 86, 3) := by decide +kernel
theorem dX1_chooseRods_69 : decode cX1_chooseRods 69 = .ok (.ifCond .eq 18, 3) := by decide +kernel
theorem dX1_chooseRods_72 : decode cX1_chooseRods 72 = .ok (.aload_n 0, 1) := by decide +kernel
theorem dX1_chooseRods_73 : decode cX1_chooseRods 73 = .ok (.iload_n 2, 1) := by decide +kernel
theorem dX1_chooseRods_74 : decode cX1_chooseRods 74 = .ok (.invokevirtual 89, 3) := by decide +kernel
theorem dX1_chooseRods_77 : decode cX1_chooseRods 77 = .ok (.aload_n 0, 1) := by decide +kernel
theorem dX1_chooseRods_78 : decode cX1_chooseRods 78 = .ok (.dup, 1) := by decide +kernel
theorem dX1_chooseRods_79 : decode cX1_chooseRods 79 = .ok (.getfield 22, 3) := by decide +kernel
theorem dX1_chooseRods_82 : decode cX1_chooseRods 82 = .ok (.iconst 1, 1) := by decide +kernel
theorem dX1_chooseRods_83 : decode cX1_chooseRods 83 = .ok (.iadd, 1) := by decide +kernel
theorem dX1_chooseRods_84 : decode cX1_chooseRods 84 = .ok (.putfield 22, 3) := by decide +kernel
theorem dX1_chooseRods_87 : decode cX1_chooseRods 87 = .ok (.iinc 1 1, 3) := by decide +kernel
theorem dX1_chooseRods_90 : decode cX1_chooseRods 90 = .ok (.goto (-62), 3) := by decide +kernel
theorem dX1_chooseRods_93 : decode cX1_chooseRods 93 = .ok (.return_, 1) := by decide +kernel
theorem dX1_hasRoom_0 : decode cX1_hasRoom 0 = .ok (.iload_n 1, 1) := by decide +kernel
theorem dX1_hasRoom_1 : decode cX1_hasRoom 1 = .ok (.istore_n 2, 1) := by decide +kernel
theorem dX1_hasRoom_2 : decode cX1_hasRoom 2 = .ok (.iload_n 2, 1) := by decide +kernel
theorem dX1_hasRoom_3 : decode cX1_hasRoom 3 = .ok (.bipush 64, 2) := by decide +kernel
theorem dX1_hasRoom_5 : decode cX1_hasRoom 5 = .ok (.if_icmp .ge 27, 3) := by decide +kernel
theorem dX1_hasRoom_8 : decode cX1_hasRoom 8 = .ok (.iload_n 2, 1) := by decide +kernel
theorem dX1_hasRoom_9 : decode cX1_hasRoom 9 = .ok (.iload_n 1, 1) := by decide +kernel
theorem dX1_hasRoom_10 : decode cX1_hasRoom 10 = .ok (.invokestatic 55, 3) := by decide +kernel
theorem dX1_hasRoom_13 : decode cX1_hasRoom 13 = .ok (.ifCond .eq 13, 3) := by decide +kernel
theorem dX1_hasRoom_16 : decode cX1_hasRoom 16 = .ok (.aload_n 0, 1) := by decide +kernel
theorem dX1_hasRoom_17 : decode cX1_hasRoom 17 = .ok (.iload_n 2, 1) := by decide +kernel
theorem dX1_hasRoom_18 : decode cX1_hasRoom 18 = .ok (.invokevirtual 74, 3) := by decide +kernel
theorem dX1_hasRoom_21 : decode cX1_hasRoom 21 = .ok (.ifCond .eq 5, 3) := by decide +kernel
theorem dX1_hasRoom_24 : decode cX1_hasRoom 24 = .ok (.iconst 0, 1) := by decide +kernel
theorem dX1_hasRoom_25 : decode cX1_hasRoom 25 = .ok (.ireturn, 1) := by decide +kernel
theorem dX1_hasRoom_26 : decode cX1_hasRoom 26 = .ok (.iinc 2 1, 3) := by decide +kernel
theorem dX1_hasRoom_29 : decode cX1_hasRoom 29 = .ok (.goto (-27), 3) := by decide +kernel
theorem dX1_hasRoom_32 : decode cX1_hasRoom 32 = .ok (.iconst 1, 1) := by decide +kernel
theorem dX1_hasRoom_33 : decode cX1_hasRoom 33 = .ok (.ireturn, 1) := by decide +kernel
theorem dX1_choose_0 : decode cX1_choose 0 = .ok (.iload_n 1, 1) := by decide +kernel
theorem dX1_choose_1 : decode cX1_choose 1 = .ok (.istore_n 2, 1) := by decide +kernel
theorem dX1_choose_2 : decode cX1_choose 2 = .ok (.iload_n 2, 1) := by decide +kernel
theorem dX1_choose_3 : decode cX1_choose 3 = .ok (.bipush 64, 2) := by decide +kernel
theorem dX1_choose_5 : decode cX1_choose 5 = .ok (.if_icmp .ge 27, 3) := by decide +kernel
theorem dX1_choose_8 : decode cX1_choose 8 = .ok (.iload_n 2, 1) := by decide +kernel
theorem dX1_choose_9 : decode cX1_choose 9 = .ok (.iload_n 1, 1) := by decide +kernel
theorem dX1_choose_10 : decode cX1_choose 10 = .ok (.invokestatic 55, 3) := by decide +kernel
theorem dX1_choose_13 : decode cX1_choose 13 = .ok (.ifCond .eq 13, 3) := by decide +kernel
theorem dX1_choose_16 : decode cX1_choose 16 = .ok (.aload_n 0, 1) := by decide +kernel
theorem dX1_choose_17 : decode cX1_choose 17 = .ok (.getfield 11, 3) := by decide +kernel
theorem dX1_choose_20 : decode cX1_choose 20 = .ok (.iload_n 2, 1) := by decide +kernel
theorem dX1_choose_21 : decode cX1_choose 21 = .ok (.dup2, 1) := by decide +kernel
theorem dX1_choose_22 : decode cX1_choose 22 = .ok (.iaload, 1) := by decide +kernel
theorem dX1_choose_23 : decode cX1_choose 23 = .ok (.iconst 1, 1) := by decide +kernel
theorem dX1_choose_24 : decode cX1_choose 24 = .ok (.iadd, 1) := by decide +kernel
theorem dX1_choose_25 : decode cX1_choose 25 = .ok (.iastore, 1) := by decide +kernel
theorem dX1_choose_26 : decode cX1_choose 26 = .ok (.iinc 2 1, 3) := by decide +kernel
theorem dX1_choose_29 : decode cX1_choose 29 = .ok (.goto (-27), 3) := by decide +kernel
theorem dX1_choose_32 : decode cX1_choose 32 = .ok (.return_, 1) := by decide +kernel
theorem dX1_isFilled_0 : decode cX1_isFilled 0 = .ok (.aload_n 0, 1) := by decide +kernel
theorem dX1_isFilled_1 : decode cX1_isFilled 1 = .ok (.getfield 11, 3) := by decide +kernel
theorem dX1_isFilled_4 : decode cX1_isFilled 4 = .ok (.iload_n 1, 1) := by decide +kernel
theorem dX1_isFilled_5 : decode cX1_isFilled 5 = .ok (.iaload, 1) := by decide +kernel
theorem dX1_isFilled_6 : decode cX1_isFilled 6 = .ok (.iload_n 1, 1) := by decide +kernel
theorem dX1_isFilled_7 : decode cX1_isFilled 7 = .ok (.invokestatic 69, 3) := by decide +kernel
theorem dX1_isFilled_10 : decode cX1_isFilled 10 = .ok (.invokestatic 47, 3) := by decide +kernel
theorem dX1_isFilled_13 : decode cX1_isFilled 13 = .ok (.if_icmp .lt 7, 3) := by decide +kernel
theorem dX1_isFilled_16 : decode cX1_isFilled 16 = .ok (.iconst 1, 1) := by decide +kernel
theorem dX1_isFilled_17 : decode cX1_isFilled 17 = .ok (.goto 4, 3) := by decide +kernel
theorem dX1_isFilled_20 : decode cX1_isFilled 20 = .ok (.iconst 0, 1) := by decide +kernel
theorem dX1_isFilled_21 : decode cX1_isFilled 21 = .ok (.ireturn, 1) := by decide +kernel
theorem dX1_mostRods_0 : decode cX1_mostRods 0 = .ok (.iconst 2, 1) := by decide +kernel
theorem dX1_mostRods_1 : decode cX1_mostRods 1 = .ok (.iload_n 0, 1) := by decide +kernel
theorem dX1_mostRods_2 : decode cX1_mostRods 2 = .ok (.imul, 1) := by decide +kernel
theorem dX1_mostRods_3 : decode cX1_mostRods 3 = .ok (.iconst 3, 1) := by decide +kernel
theorem dX1_mostRods_4 : decode cX1_mostRods 4 = .ok (.isub, 1) := by decide +kernel
theorem dX1_mostRods_5 : decode cX1_mostRods 5 = .ok (.ireturn, 1) := by decide +kernel
theorem dX1_holds_0 : decode cX1_holds 0 = .ok (.iload_n 0, 1) := by decide +kernel
theorem dX1_holds_1 : decode cX1_holds 1 = .ok (.iload_n 1, 1) := by decide +kernel
theorem dX1_holds_2 : decode cX1_holds 2 = .ok (.iand, 1) := by decide +kernel
theorem dX1_holds_3 : decode cX1_holds 3 = .ok (.iload_n 1, 1) := by decide +kernel
theorem dX1_holds_4 : decode cX1_holds 4 = .ok (.if_icmp .ne 7, 3) := by decide +kernel
theorem dX1_holds_7 : decode cX1_holds 7 = .ok (.iconst 1, 1) := by decide +kernel
theorem dX1_holds_8 : decode cX1_holds 8 = .ok (.goto 4, 3) := by decide +kernel
theorem dX1_holds_11 : decode cX1_holds 11 = .ok (.iconst 0, 1) := by decide +kernel
theorem dX1_holds_12 : decode cX1_holds 12 = .ok (.ireturn, 1) := by decide +kernel
theorem dX1_endsOf_0 : decode cX1_endsOf 0 = .ok (.aload_n 0, 1) := by decide +kernel
theorem dX1_endsOf_1 : decode cX1_endsOf 1 = .ok (.getfield 93, 3) := by decide +kernel
theorem dX1_endsOf_4 : decode cX1_endsOf 4 = .ok (.getfield 97, 3) := by decide +kernel
theorem dX1_endsOf_7 : decode cX1_endsOf 7 = .ok (.invokestatic 63, 3) := by decide +kernel
theorem dX1_endsOf_10 : decode cX1_endsOf 10 = .ok (.aload_n 0, 1) := by decide +kernel
theorem dX1_endsOf_11 : decode cX1_endsOf 11 = .ok (.getfield 102, 3) := by decide +kernel
theorem dX1_endsOf_14 : decode cX1_endsOf 14 = .ok (.getfield 97, 3) := by decide +kernel
theorem dX1_endsOf_17 : decode cX1_endsOf 17 = .ok (.invokestatic 63, 3) := by decide +kernel
theorem dX1_endsOf_20 : decode cX1_endsOf 20 = .ok (.ior, 1) := by decide +kernel
theorem dX1_endsOf_21 : decode cX1_endsOf 21 = .ok (.ireturn, 1) := by decide +kernel
theorem dX1_bitOf_0 : decode cX1_bitOf 0 = .ok (.bipush 64, 2) := by decide +kernel
theorem dX1_bitOf_2 : decode cX1_bitOf 2 = .ok (.iload_n 0, 1) := by decide +kernel
theorem dX1_bitOf_3 : decode cX1_bitOf 3 = .ok (.iconst 1, 1) := by decide +kernel
theorem dX1_bitOf_4 : decode cX1_bitOf 4 = .ok (.iadd, 1) := by decide +kernel
theorem dX1_bitOf_5 : decode cX1_bitOf 5 = .ok (.ishr, 1) := by decide +kernel
theorem dX1_bitOf_6 : decode cX1_bitOf 6 = .ok (.ireturn, 1) := by decide +kernel
theorem dX2_init_0 : decode cX2_init 0 = .ok (.aload_n 0, 1) := by decide +kernel
theorem dX2_init_1 : decode cX2_init 1 = .ok (.invokespecial 1, 3) := by decide +kernel
theorem dX2_init_4 : decode cX2_init 4 = .ok (.aload_n 0, 1) := by decide +kernel
theorem dX2_init_5 : decode cX2_init 5 = .ok (.new 7, 3) := by decide +kernel
theorem dX2_init_8 : decode cX2_init 8 = .ok (.dup, 1) := by decide +kernel
theorem dX2_init_9 : decode cX2_init 9 = .ok (.invokespecial 9, 3) := by decide +kernel
theorem dX2_init_12 : decode cX2_init 12 = .ok (.putfield 10, 3) := by decide +kernel
theorem dX2_init_15 : decode cX2_init 15 = .ok (.aload_n 0, 1) := by decide +kernel
theorem dX2_init_16 : decode cX2_init 16 = .ok (.new 7, 3) := by decide +kernel
theorem dX2_init_19 : decode cX2_init 19 = .ok (.dup, 1) := by decide +kernel
theorem dX2_init_20 : decode cX2_init 20 = .ok (.invokespecial 9, 3) := by decide +kernel
theorem dX2_init_23 : decode cX2_init 23 = .ok (.putfield 16, 3) := by decide +kernel
theorem dX2_init_26 : decode cX2_init 26 = .ok (.aload_n 0, 1) := by decide +kernel
theorem dX2_init_27 : decode cX2_init 27 = .ok (.new 7, 3) := by decide +kernel
theorem dX2_init_30 : decode cX2_init 30 = .ok (.dup, 1) := by decide +kernel
theorem dX2_init_31 : decode cX2_init 31 = .ok (.invokespecial 9, 3) := by decide +kernel
theorem dX2_init_34 : decode cX2_init 34 = .ok (.putfield 19, 3) := by decide +kernel
theorem dX2_init_37 : decode cX2_init 37 = .ok (.aload_n 0, 1) := by decide +kernel
theorem dX2_init_38 : decode cX2_init 38 = .ok (.new 7, 3) := by decide +kernel
theorem dX2_init_41 : decode cX2_init 41 = .ok (.dup, 1) := by decide +kernel
theorem dX2_init_42 : decode cX2_init 42 = .ok (.invokespecial 9, 3) := by decide +kernel
theorem dX2_init_45 : decode cX2_init 45 = .ok (.putfield 22, 3) := by decide +kernel
theorem dX2_init_48 : decode cX2_init 48 = .ok (.return_, 1) := by decide +kernel
theorem dX2_renew_0 : decode cX2_renew 0 = .ok (.aload_n 0, 1) := by decide +kernel
theorem dX2_renew_1 : decode cX2_renew 1 = .ok (.getfield 19, 3) := by decide +kernel
theorem dX2_renew_4 : decode cX2_renew 4 = .ok (.invokeinterface 25 1, 5) := by decide +kernel
theorem dX2_renew_9 : decode cX2_renew 9 = .ok (.iconst 0, 1) := by decide +kernel
theorem dX2_renew_10 : decode cX2_renew 10 = .ok (.istore_n 1, 1) := by decide +kernel
theorem dX2_renew_11 : decode cX2_renew 11 = .ok (.iload_n 1, 1) := by decide +kernel
theorem dX2_renew_12 : decode cX2_renew 12 = .ok (.aload_n 0, 1) := by decide +kernel
theorem dX2_renew_13 : decode cX2_renew 13 = .ok (.getfield 10, 3) := by decide +kernel
theorem dX2_renew_16 : decode cX2_renew 16 = .ok (.invokeinterface 30 1, 5) := by decide +kernel
theorem dX2_renew_21 : decode cX2_renew 21 = .ok (.if_icmp .ge 51, 3) := by decide +kernel
theorem dX2_renew_24 : decode cX2_renew 24 = .ok (.aload_n 0, 1) := by decide +kernel
theorem dX2_renew_25 : decode cX2_renew 25 = .ok (.getfield 10, 3) := by decide +kernel
theorem dX2_renew_28 : decode cX2_renew 28 = .ok (.iload_n 1, 1) := by decide +kernel
theorem dX2_renew_29 : decode cX2_renew 29 = .ok (.invokeinterface 34 2, 5) := by decide +kernel
theorem dX2_renew_34 : decode cX2_renew 34 = .ok (.checkcast 38, 3) := by decide +kernel
theorem dX2_renew_37 : decode cX2_renew 37 = .ok (.getfield 40, 3) := by decide +kernel
theorem dX2_renew_40 : decode cX2_renew 40 = .ok (.ifCond .ne 26, 3) := by decide +kernel
theorem dX2_renew_43 : decode cX2_renew 43 = .ok (.aload_n 0, 1) := by decide +kernel
theorem dX2_renew_44 : decode cX2_renew 44 = .ok (.getfield 19, 3) := by decide +kernel
theorem dX2_renew_47 : decode cX2_renew 47 = .ok (.aload_n 0, 1) := by decide +kernel
theorem dX2_renew_48 : decode cX2_renew 48 = .ok (.getfield 10, 3) := by decide +kernel
theorem dX2_renew_51 : decode cX2_renew 51 = .ok (.iload_n 1, 1) := by decide +kernel
theorem dX2_renew_52 : decode cX2_renew 52 = .ok (.invokeinterface 34 2, 5) := by decide +kernel
theorem dX2_renew_57 : decode cX2_renew 57 = .ok (.checkcast 38, 3) := by decide +kernel
theorem dX2_renew_60 : decode cX2_renew 60 = .ok (.invokeinterface 44 2, 5) := by decide +kernel
theorem dX2_renew_65 : decode cX2_renew 65 = .ok (.pop, 1) := by decide +kernel
theorem dX2_renew_66 : decode cX2_renew 66 = .ok (.iinc 1 1, 3) := by decide +kernel
theorem dX2_renew_69 : decode cX2_renew 69 = .ok (.goto (-58), 3) := by decide +kernel
theorem dX2_renew_72 : decode cX2_renew 72 = .ok (.aload_n 0, 1) := by decide +kernel
theorem dX2_renew_73 : decode cX2_renew 73 = .ok (.getfield 22, 3) := by decide +kernel
theorem dX2_renew_76 : decode cX2_renew 76 = .ok (.invokeinterface 25 1, 5) := by decide +kernel
theorem dX2_renew_81 : decode cX2_renew 81 = .ok (.iconst 0, 1) := by decide +kernel
theorem dX2_renew_82 : decode cX2_renew 82 = .ok (.istore_n 1, 1) := by decide +kernel
theorem dX2_renew_83 : decode cX2_renew 83 = .ok (.iload_n 1, 1) := by decide +kernel
theorem dX2_renew_84 : decode cX2_renew 84 = .ok (.aload_n 0, 1) := by decide +kernel
theorem dX2_renew_85 : decode cX2_renew 85 = .ok (.getfield 16, 3) := by decide +kernel
theorem dX2_renew_88 : decode cX2_renew 88 = .ok (.invokeinterface 30 1, 5) := by decide +kernel
theorem dX2_renew_93 : decode cX2_renew 93 = .ok (.if_icmp .ge 51, 3) := by decide +kernel
theorem dX2_renew_96 : decode cX2_renew 96 = .ok (.aload_n 0, 1) := by decide +kernel
theorem dX2_renew_97 : decode cX2_renew 97 = .ok (.getfield 16, 3) := by decide +kernel
theorem dX2_renew_100 : decode cX2_renew 100 = .ok (.iload_n 1, 1) := by decide +kernel
theorem dX2_renew_101 : decode cX2_renew 101 = .ok (.invokeinterface 34 2, 5) := by decide +kernel
theorem dX2_renew_106 : decode cX2_renew 106 = .ok (.checkcast 48, 3) := by decide +kernel
theorem dX2_renew_109 : decode cX2_renew 109 = .ok (.getfield 50, 3) := by decide +kernel
theorem dX2_renew_112 : decode cX2_renew 112 = .ok (.ifCond .eq 26, 3) := by decide +kernel
theorem dX2_renew_115 : decode cX2_renew 115 = .ok (.aload_n 0, 1) := by decide +kernel
theorem dX2_renew_116 : decode cX2_renew 116 = .ok (.getfield 22, 3) := by decide +kernel
theorem dX2_renew_119 : decode cX2_renew 119 = .ok (.aload_n 0, 1) := by decide +kernel
theorem dX2_renew_120 : decode cX2_renew 120 = .ok (.getfield 16, 3) := by decide +kernel
theorem dX2_renew_123 : decode cX2_renew 123 = .ok (.iload_n 1, 1) := by decide +kernel
theorem dX2_renew_124 : decode cX2_renew 124 = .ok (.invokeinterface 34 2, 5) := by decide +kernel
theorem dX2_renew_129 : decode cX2_renew 129 = .ok (.checkcast 48, 3) := by decide +kernel
theorem dX2_renew_132 : decode cX2_renew 132 = .ok (.invokeinterface 44 2, 5) := by decide +kernel
theorem dX2_renew_137 : decode cX2_renew 137 = .ok (.pop, 1) := by decide +kernel
theorem dX2_renew_138 : decode cX2_renew 138 = .ok (.iinc 1 1, 3) := by decide +kernel
theorem dX2_renew_141 : decode cX2_renew 141 = .ok (.goto (-58), 3) := by decide +kernel
theorem dX2_renew_144 : decode cX2_renew 144 = .ok (.return_, 1) := by decide +kernel
theorem dX2_isPin_0 : decode cX2_isPin 0 = .ok (.iload_n 1, 1) := by decide +kernel
theorem dX2_isPin_1 : decode cX2_isPin 1 = .ok (.ifCond .lt 20, 3) := by decide +kernel
theorem dX2_isPin_4 : decode cX2_isPin 4 = .ok (.iload_n 1, 1) := by decide +kernel
theorem dX2_isPin_5 : decode cX2_isPin 5 = .ok (.aload_n 0, 1) := by decide +kernel
theorem dX2_isPin_6 : decode cX2_isPin 6 = .ok (.getfield 10, 3) := by decide +kernel
theorem dX2_isPin_9 : decode cX2_isPin 9 = .ok (.invokeinterface 30 1, 5) := by decide +kernel
theorem dX2_isPin_14 : decode cX2_isPin 14 = .ok (.if_icmp .ge 7, 3) := by decide +kernel
theorem dX2_isPin_17 : decode cX2_isPin 17 = .ok (.iconst 1, 1) := by decide +kernel
theorem dX2_isPin_18 : decode cX2_isPin 18 = .ok (.goto 4, 3) := by decide +kernel
theorem dX2_isPin_21 : decode cX2_isPin 21 = .ok (.iconst 0, 1) := by decide +kernel
theorem dX2_isPin_22 : decode cX2_isPin 22 = .ok (.ireturn, 1) := by decide +kernel
theorem dX2_isRod_0 : decode cX2_isRod 0 = .ok (.iload_n 1, 1) := by decide +kernel
theorem dX2_isRod_1 : decode cX2_isRod 1 = .ok (.ifCond .lt 20, 3) := by decide +kernel
theorem dX2_isRod_4 : decode cX2_isRod 4 = .ok (.iload_n 1, 1) := by decide +kernel
theorem dX2_isRod_5 : decode cX2_isRod 5 = .ok (.aload_n 0, 1) := by decide +kernel
theorem dX2_isRod_6 : decode cX2_isRod 6 = .ok (.getfield 16, 3) := by decide +kernel
theorem dX2_isRod_9 : decode cX2_isRod 9 = .ok (.invokeinterface 30 1, 5) := by decide +kernel
theorem dX2_isRod_14 : decode cX2_isRod 14 = .ok (.if_icmp .ge 7, 3) := by decide +kernel
theorem dX2_isRod_17 : decode cX2_isRod 17 = .ok (.iconst 1, 1) := by decide +kernel
theorem dX2_isRod_18 : decode cX2_isRod 18 = .ok (.goto 4, 3) := by decide +kernel
theorem dX2_isRod_21 : decode cX2_isRod 21 = .ok (.iconst 0, 1) := by decide +kernel
theorem dX2_isRod_22 : decode cX2_isRod 22 = .ok (.ireturn, 1) := by decide +kernel
theorem dX2_pinAt_0 : decode cX2_pinAt 0 = .ok (.iconst 0, 1) := by decide +kernel
theorem dX2_pinAt_1 : decode cX2_pinAt 1 = .ok (.istore_n 3, 1) := by decide +kernel
theorem dX2_pinAt_2 : decode cX2_pinAt 2 = .ok (.iload_n 3, 1) := by decide +kernel
theorem dX2_pinAt_3 : decode cX2_pinAt 3 = .ok (.aload_n 0, 1) := by decide +kernel
theorem dX2_pinAt_4 : decode cX2_pinAt 4 = .ok (.getfield 10, 3) := by decide +kernel
theorem dX2_pinAt_7 : decode cX2_pinAt 7 = .ok (.invokeinterface 30 1, 5) := by decide +kernel
theorem dX2_pinAt_12 : decode cX2_pinAt 12 = .ok (.if_icmp .ge 45, 3) := by decide +kernel
theorem dX2_pinAt_15 : decode cX2_pinAt 15 = .ok (.aload_n 0, 1) := by decide +kernel
theorem dX2_pinAt_16 : decode cX2_pinAt 16 = .ok (.getfield 10, 3) := by decide +kernel
theorem dX2_pinAt_19 : decode cX2_pinAt 19 = .ok (.iload_n 3, 1) := by decide +kernel
theorem dX2_pinAt_20 : decode cX2_pinAt 20 = .ok (.invokeinterface 34 2, 5) := by decide +kernel
theorem dX2_pinAt_25 : decode cX2_pinAt 25 = .ok (.checkcast 38, 3) := by decide +kernel
theorem dX2_pinAt_28 : decode cX2_pinAt 28 = .ok (.astore 4, 2) := by decide +kernel
theorem dX2_pinAt_30 : decode cX2_pinAt 30 = .ok (.aload 4, 2) := by decide +kernel
theorem dX2_pinAt_32 : decode cX2_pinAt 32 = .ok (.getfield 53, 3) := by decide +kernel
theorem dX2_pinAt_35 : decode cX2_pinAt 35 = .ok (.iload_n 1, 1) := by decide +kernel
theorem dX2_pinAt_36 : decode cX2_pinAt 36 = .ok (.if_icmp .ne 15, 3) := by decide +kernel
theorem dX2_pinAt_39 : decode cX2_pinAt 39 = .ok (.aload 4, 2) := by decide +kernel
theorem dX2_pinAt_41 : decode cX2_pinAt 41 = .ok (.getfield 57, 3) := by decide +kernel
theorem dX2_pinAt_44 : decode cX2_pinAt 44 = .ok (.iload_n 2, 1) := by decide +kernel
theorem dX2_pinAt_45 : decode cX2_pinAt 45 = .ok (.if_icmp .ne 6, 3) := by decide +kernel
theorem dX2_pinAt_48 : decode cX2_pinAt 48 = .ok (.aload 4, 2) := by decide +kernel
theorem dX2_pinAt_50 : decode cX2_pinAt 50 = .ok (.areturn, 1) := by decide +kernel
theorem dX2_pinAt_51 : decode cX2_pinAt 51 = .ok (.iinc 3 1, 3) := by decide +kernel
theorem dX2_pinAt_54 : decode cX2_pinAt 54 = .ok (.goto (-52), 3) := by decide +kernel
theorem dX2_pinAt_57 : decode cX2_pinAt 57 = .ok (.aconst_null, 1) := by decide +kernel
theorem dX2_pinAt_58 : decode cX2_pinAt 58 = .ok (.areturn, 1) := by decide +kernel
theorem dX2_areJoined_0 : decode cX2_areJoined 0 = .ok (.iconst 0, 1) := by decide +kernel
theorem dX2_areJoined_1 : decode cX2_areJoined 1 = .ok (.istore_n 3, 1) := by decide +kernel
theorem dX2_areJoined_2 : decode cX2_areJoined 2 = .ok (.iload_n 3, 1) := by decide +kernel
theorem dX2_areJoined_3 : decode cX2_areJoined 3 = .ok (.aload_n 0, 1) := by decide +kernel
theorem dX2_areJoined_4 : decode cX2_areJoined 4 = .ok (.getfield 16, 3) := by decide +kernel
theorem dX2_areJoined_7 : decode cX2_areJoined 7 = .ok (.invokeinterface 30 1, 5) := by decide +kernel
theorem dX2_areJoined_12 : decode cX2_areJoined 12 = .ok (.if_icmp .ge 32, 3) := by decide +kernel
theorem dX2_areJoined_15 : decode cX2_areJoined 15 = .ok (.aload_n 0, 1) := by decide +kernel
theorem dX2_areJoined_16 : decode cX2_areJoined 16 = .ok (.getfield 16, 3) := by decide +kernel
theorem dX2_areJoined_19 : decode cX2_areJoined 19 = .ok (.iload_n 3, 1) := by decide +kernel
theorem dX2_areJoined_20 : decode cX2_areJoined 20 = .ok (.invokeinterface 34 2, 5) := by decide +kernel
theorem dX2_areJoined_25 : decode cX2_areJoined 25 = .ok (.checkcast 48, 3) := by decide +kernel
theorem dX2_areJoined_28 : decode cX2_areJoined 28 = .ok (.aload_n 1, 1) := by decide +kernel
theorem dX2_areJoined_29 : decode cX2_areJoined 29 = .ok (.aload_n 2, 1) := by decide +kernel
theorem dX2_areJoined_30 : decode cX2_areJoined 30 = .ok (.invokevirtual 60, 3) := by decide +kernel
theorem dX2_areJoined_33 : decode cX2_areJoined 33 = .ok (.ifCond .eq 5, 3) := by decide +kernel
theorem dX2_areJoined_36 : decode cX2_areJoined 36 = .ok (.iconst 1, 1) := by decide +kernel
theorem dX2_areJoined_37 : decode cX2_areJoined 37 = .ok (.ireturn, 1) := by decide +kernel
theorem dX2_areJoined_38 : decode cX2_areJoined 38 = .ok (.iinc 3 1, 3) := by decide +kernel
theorem dX2_areJoined_41 : decode cX2_areJoined 41 = .ok (.goto (-39), 3) := by decide +kernel
theorem dX2_areJoined_44 : decode cX2_areJoined 44 = .ok (.iconst 0, 1) := by decide +kernel
theorem dX2_areJoined_45 : decode cX2_areJoined 45 = .ok (.ireturn, 1) := by decide +kernel
theorem dX2_rodsInAt_0 : decode cX2_rodsInAt 0 = .ok (.iconst 0, 1) := by decide +kernel
theorem dX2_rodsInAt_1 : decode cX2_rodsInAt 1 = .ok (.istore_n 2, 1) := by decide +kernel
theorem dX2_rodsInAt_2 : decode cX2_rodsInAt 2 = .ok (.iconst 0, 1) := by decide +kernel
theorem dX2_rodsInAt_3 : decode cX2_rodsInAt 3 = .ok (.istore_n 3, 1) := by decide +kernel
theorem dX2_rodsInAt_4 : decode cX2_rodsInAt 4 = .ok (.iload_n 3, 1) := by decide +kernel
theorem dX2_rodsInAt_5 : decode cX2_rodsInAt 5 = .ok (.aload_n 0, 1) := by decide +kernel
theorem dX2_rodsInAt_6 : decode cX2_rodsInAt 6 = .ok (.getfield 22, 3) := by decide +kernel
theorem dX2_rodsInAt_9 : decode cX2_rodsInAt 9 = .ok (.invokeinterface 30 1, 5) := by decide +kernel
theorem dX2_rodsInAt_14 : decode cX2_rodsInAt 14 = .ok (.if_icmp .ge 32, 3) := by decide +kernel
theorem dX2_rodsInAt_17 : decode cX2_rodsInAt 17 = .ok (.aload_n 0, 1) := by decide +kernel
theorem dX2_rodsInAt_18 : decode cX2_rodsInAt 18 = .ok (.getfield 22, 3) := by decide +kernel
theorem dX2_rodsInAt_21 : decode cX2_rodsInAt 21 = .ok (.iload_n 3, 1) := by decide +kernel
theorem dX2_rodsInAt_22 : decode cX2_rodsInAt 22 = .ok (.invokeinterface 34 2, 5) := by decide +kernel
theorem dX2_rodsInAt_27 : decode cX2_rodsInAt 27 = .ok (.checkcast 48, 3) := by decide +kernel
theorem dX2_rodsInAt_30 : decode cX2_rodsInAt 30 = .ok (.aload_n 1, 1) := by decide +kernel
theorem dX2_rodsInAt_31 : decode cX2_rodsInAt 31 = .ok (.invokevirtual 64, 3) := by decide +kernel
theorem dX2_rodsInAt_34 : decode cX2_rodsInAt 34 = .ok (.ifCond .eq 6, 3) := by decide +kernel
theorem dX2_rodsInAt_37 : decode cX2_rodsInAt 37 = .ok (.iinc 2 1, 3) := by decide +kernel
theorem dX2_rodsInAt_40 : decode cX2_rodsInAt 40 = .ok (.iinc 3 1, 3) := by decide +kernel
theorem dX2_rodsInAt_43 : decode cX2_rodsInAt 43 = .ok (.goto (-39), 3) := by decide +kernel
theorem dX2_rodsInAt_46 : decode cX2_rodsInAt 46 = .ok (.iload_n 2, 1) := by decide +kernel
theorem dX2_rodsInAt_47 : decode cX2_rodsInAt 47 = .ok (.ireturn, 1) := by decide +kernel
theorem dX2_planeMotions_0 : decode cX2_planeMotions 0 = .ok (.aload_n 0, 1) := by decide +kernel
theorem dX2_planeMotions_1 : decode cX2_planeMotions 1 = .ok (.getfield 19, 3) := by decide +kernel
theorem dX2_planeMotions_4 : decode cX2_planeMotions 4 = .ok (.invokeinterface 30 1, 5) := by decide +kernel
theorem dX2_planeMotions_9 : decode cX2_planeMotions 9 = .ok (.istore_n 1, 1) := by decide +kernel
theorem dX2_planeMotions_10 : decode cX2_planeMotions 10 = .ok (.aload_n 0, 1) := by decide +kernel
theorem dX2_planeMotions_11 : decode cX2_planeMotions 11 = .ok (.getfield 10, 3) := by decide +kernel
theorem dX2_planeMotions_14 : decode cX2_planeMotions 14 = .ok (.invokeinterface 30 1, 5) := by decide +kernel
theorem dX2_planeMotions_19 : decode cX2_planeMotions 19 = .ok (.iload_n 1, 1) := by decide +kernel
theorem dX2_planeMotions_20 : decode cX2_planeMotions 20 = .ok (.isub, 1) := by decide +kernel
theorem dX2_planeMotions_21 : decode cX2_planeMotions 21 = .ok (.istore_n 2, 1) := by decide +kernel
theorem dX2_planeMotions_22 : decode cX2_planeMotions 22 = .ok (.iload_n 1, 1) := by decide +kernel
theorem dX2_planeMotions_23 : decode cX2_planeMotions 23 = .ok (.ifCond .eq 8, 3) := by decide +kernel
theorem dX2_planeMotions_26 : decode cX2_planeMotions 26 = .ok (.iload_n 2, 1) := by decide +kernel
theorem dX2_planeMotions_27 : decode cX2_planeMotions 27 = .ok (.iconst 1, 1) := by decide +kernel
theorem dX2_planeMotions_28 : decode cX2_planeMotions 28 = .ok (.if_icmp .le 5, 3) := by decide +kernel
theorem dX2_planeMotions_31 : decode cX2_planeMotions 31 = .ok (.iconst 0, 1) := by decide +kernel
theorem dX2_planeMotions_32 : decode cX2_planeMotions 32 = .ok (.ireturn, 1) := by decide +kernel
theorem dX2_planeMotions_33 : decode cX2_planeMotions 33 = .ok (.iload_n 2, 1) := by decide +kernel
theorem dX2_planeMotions_34 : decode cX2_planeMotions 34 = .ok (.iconst 1, 1) := by decide +kernel
theorem dX2_planeMotions_35 : decode cX2_planeMotions 35 = .ok (.if_icmp .ne 5, 3) := by decide +kernel
theorem dX2_planeMotions_38 : decode cX2_planeMotions 38 = .ok (.iconst 1, 1) := by decide +kernel
theorem dX2_planeMotions_39 : decode cX2_planeMotions 39 = .ok (.ireturn, 1) := by decide +kernel
theorem dX2_planeMotions_40 : decode cX2_planeMotions 40 = .ok (.iload_n 1, 1) := by decide +kernel
theorem dX2_planeMotions_41 : decode cX2_planeMotions 41 = .ok (.iconst 1, 1) := by decide +kernel
theorem dX2_planeMotions_42 : decode cX2_planeMotions 42 = .ok (.if_icmp .ne 7, 3) := by decide +kernel
theorem dX2_planeMotions_45 : decode cX2_planeMotions 45 = .ok (.iconst 2, 1) := by decide +kernel
theorem dX2_planeMotions_46 : decode cX2_planeMotions 46 = .ok (.goto 4, 3) := by decide +kernel
theorem dX2_planeMotions_49 : decode cX2_planeMotions 49 = .ok (.iconst 3, 1) := by decide +kernel
theorem dX2_planeMotions_50 : decode cX2_planeMotions 50 = .ok (.ireturn, 1) := by decide +kernel
theorem dX3_init_0 : decode cX3_init 0 = .ok (.aload_n 0, 1) := by decide +kernel
theorem dX3_init_1 : decode cX3_init 1 = .ok (.invokespecial 3, 3) := by decide +kernel
theorem dX3_init_4 : decode cX3_init 4 = .ok (.aload_n 0, 1) := by decide +kernel
theorem dX3_init_5 : decode cX3_init 5 = .ok (.new 9, 3) := by decide +kernel
theorem dX3_init_8 : decode cX3_init 8 = .ok (.dup, 1) := by decide +kernel
theorem dX3_init_9 : decode cX3_init 9 = .ok (.invokespecial 11, 3) := by decide +kernel
theorem dX3_init_12 : decode cX3_init 12 = .ok (.putfield 12, 3) := by decide +kernel
theorem dX3_init_15 : decode cX3_init 15 = .ok (.aload_n 0, 1) := by decide +kernel
theorem dX3_init_16 : decode cX3_init 16 = .ok (.new 9, 3) := by decide +kernel
theorem dX3_init_19 : decode cX3_init 19 = .ok (.dup, 1) := by decide +kernel
theorem dX3_init_20 : decode cX3_init 20 = .ok (.invokespecial 11, 3) := by decide +kernel
theorem dX3_init_23 : decode cX3_init 23 = .ok (.putfield 18, 3) := by decide +kernel
theorem dX3_init_26 : decode cX3_init 26 = .ok (.aload_n 0, 1) := by decide +kernel
theorem dX3_init_27 : decode cX3_init 27 = .ok (.new 21, 3) := by decide +kernel
theorem dX3_init_30 : decode cX3_init 30 = .ok (.dup, 1) := by decide +kernel
theorem dX3_init_31 : decode cX3_init 31 = .ok (.invokespecial 23, 3) := by decide +kernel
theorem dX3_init_34 : decode cX3_init 34 = .ok (.putfield 24, 3) := by decide +kernel
theorem dX3_init_37 : decode cX3_init 37 = .ok (.aload_n 0, 1) := by decide +kernel
theorem dX3_init_38 : decode cX3_init 38 = .ok (.aload_n 1, 1) := by decide +kernel
theorem dX3_init_39 : decode cX3_init 39 = .ok (.putfield 28, 3) := by decide +kernel
theorem dX3_init_42 : decode cX3_init 42 = .ok (.return_, 1) := by decide +kernel
theorem dX3_takenRod_0 : decode cX3_takenRod 0 = .ok (.iload_n 1, 1) := by decide +kernel
theorem dX3_takenRod_1 : decode cX3_takenRod 1 = .ok (.ifCond .lt 35, 3) := by decide +kernel
theorem dX3_takenRod_4 : decode cX3_takenRod 4 = .ok (.iload_n 1, 1) := by decide +kernel
theorem dX3_takenRod_5 : decode cX3_takenRod 5 = .ok (.aload_n 0, 1) := by decide +kernel
theorem dX3_takenRod_6 : decode cX3_takenRod 6 = .ok (.getfield 18, 3) := by decide +kernel
theorem dX3_takenRod_9 : decode cX3_takenRod 9 = .ok (.invokeinterface 32 1, 5) := by decide +kernel
theorem dX3_takenRod_14 : decode cX3_takenRod 14 = .ok (.if_icmp .ge 22, 3) := by decide +kernel
theorem dX3_takenRod_17 : decode cX3_takenRod 17 = .ok (.aload_n 0, 1) := by decide +kernel
theorem dX3_takenRod_18 : decode cX3_takenRod 18 = .ok (.getfield 18, 3) := by decide +kernel
theorem dX3_takenRod_21 : decode cX3_takenRod 21 = .ok (.iload_n 1, 1) := by decide +kernel
theorem dX3_takenRod_22 : decode cX3_takenRod 22 = .ok (.invokeinterface 38 2, 5) := by decide +kernel
theorem dX3_takenRod_27 : decode cX3_takenRod 27 = .ok (.checkcast 42, 3) := by decide +kernel
theorem dX3_takenRod_30 : decode cX3_takenRod 30 = .ok (.getfield 44, 3) := by decide +kernel
theorem dX3_takenRod_33 : decode cX3_takenRod 33 = .ok (.goto 4, 3) := by decide +kernel
theorem dX3_takenRod_36 : decode cX3_takenRod 36 = .ok (.iconst (-1), 1) := by decide +kernel
theorem dX3_takenRod_37 : decode cX3_takenRod 37 = .ok (.ireturn, 1) := by decide +kernel
theorem dX3_priceOfAll_0 : decode cX3_priceOfAll 0 = .ok (.iconst 0, 1) := by decide +kernel
theorem dX3_priceOfAll_1 : decode cX3_priceOfAll 1 = .ok (.istore_n 1, 1) := by decide +kernel
theorem dX3_priceOfAll_2 : decode cX3_priceOfAll 2 = .ok (.iconst 0, 1) := by decide +kernel
theorem dX3_priceOfAll_3 : decode cX3_priceOfAll 3 = .ok (.istore_n 2, 1) := by decide +kernel
theorem dX3_priceOfAll_4 : decode cX3_priceOfAll 4 = .ok (.iload_n 2, 1) := by decide +kernel
theorem dX3_priceOfAll_5 : decode cX3_priceOfAll 5 = .ok (.aload_n 0, 1) := by decide +kernel
theorem dX3_priceOfAll_6 : decode cX3_priceOfAll 6 = .ok (.getfield 18, 3) := by decide +kernel
theorem dX3_priceOfAll_9 : decode cX3_priceOfAll 9 = .ok (.invokeinterface 32 1, 5) := by decide +kernel
theorem dX3_priceOfAll_14 : decode cX3_priceOfAll 14 = .ok (.if_icmp .ge 28, 3) := by decide +kernel
theorem dX3_priceOfAll_17 : decode cX3_priceOfAll 17 = .ok (.iload_n 1, 1) := by decide +kernel
theorem dX3_priceOfAll_18 : decode cX3_priceOfAll 18 = .ok (.aload_n 0, 1) := by decide +kernel
theorem dX3_priceOfAll_19 : decode cX3_priceOfAll 19 = .ok (.getfield 18, 3) := by decide +kernel
theorem dX3_priceOfAll_22 : decode cX3_priceOfAll 22 = .ok (.iload_n 2, 1) := by decide +kernel
theorem dX3_priceOfAll_23 : decode cX3_priceOfAll 23 = .ok (.invokeinterface 38 2, 5) := by decide +kernel
theorem dX3_priceOfAll_28 : decode cX3_priceOfAll 28 = .ok (.checkcast 42, 3) := by decide +kernel
theorem dX3_priceOfAll_31 : decode cX3_priceOfAll 31 = .ok (.getfield 48, 3) := by decide +kernel
theorem dX3_priceOfAll_34 : decode cX3_priceOfAll 34 = .ok (.iadd, 1) := by decide +kernel
theorem dX3_priceOfAll_35 : decode cX3_priceOfAll 35 = .ok (.istore_n 1, 1) := by decide +kernel
theorem dX3_priceOfAll_36 : decode cX3_priceOfAll 36 = .ok (.iinc 2 1, 3) := by decide +kernel
theorem dX3_priceOfAll_39 : decode cX3_priceOfAll 39 = .ok (.goto (-35), 3) := by decide +kernel
theorem dX3_priceOfAll_42 : decode cX3_priceOfAll 42 = .ok (.iload_n 1, 1) := by decide +kernel
theorem dX3_priceOfAll_43 : decode cX3_priceOfAll 43 = .ok (.ireturn, 1) := by decide +kernel
theorem dX3_holds_0 : decode cX3_holds 0 = .ok (.iconst 2, 1) := by decide +kernel
theorem dX3_holds_1 : decode cX3_holds 1 = .ok (.aload_n 0, 1) := by decide +kernel
theorem dX3_holds_2 : decode cX3_holds 2 = .ok (.getfield 28, 3) := by decide +kernel
theorem dX3_holds_5 : decode cX3_holds 5 = .ok (.getfield 51, 3) := by decide +kernel
theorem dX3_holds_8 : decode cX3_holds 8 = .ok (.invokeinterface 32 1, 5) := by decide +kernel
theorem dX3_holds_13 : decode cX3_holds 13 = .ok (.imul, 1) := by decide +kernel
theorem dX3_holds_14 : decode cX3_holds 14 = .ok (.aload_n 0, 1) := by decide +kernel
theorem dX3_holds_15 : decode cX3_holds 15 = .ok (.getfield 24, 3) := by decide +kernel
theorem dX3_holds_18 : decode cX3_holds 18 = .ok (.invokevirtual 56, 3) := by decide +kernel
theorem dX3_holds_21 : decode cX3_holds 21 = .ok (.isub, 1) := by decide +kernel
theorem dX3_holds_22 : decode cX3_holds 22 = .ok (.aload_n 0, 1) := by decide +kernel
theorem dX3_holds_23 : decode cX3_holds 23 = .ok (.getfield 28, 3) := by decide +kernel
theorem dX3_holds_26 : decode cX3_holds 26 = .ok (.invokevirtual 59, 3) := by decide +kernel
theorem dX3_holds_29 : decode cX3_holds 29 = .ok (.if_icmp .ne 7, 3) := by decide +kernel
theorem dX3_holds_32 : decode cX3_holds 32 = .ok (.iconst 1, 1) := by decide +kernel
theorem dX3_holds_33 : decode cX3_holds 33 = .ok (.goto 4, 3) := by decide +kernel
theorem dX3_holds_36 : decode cX3_holds 36 = .ok (.iconst 0, 1) := by decide +kernel
theorem dX3_holds_37 : decode cX3_holds 37 = .ok (.ireturn, 1) := by decide +kernel
theorem dX3_renew_0 : decode cX3_renew 0 = .ok (.aload_n 0, 1) := by decide +kernel
theorem dX3_renew_1 : decode cX3_renew 1 = .ok (.invokevirtual 62, 3) := by decide +kernel
theorem dX3_renew_4 : decode cX3_renew 4 = .ok (.aload_n 0, 1) := by decide +kernel
theorem dX3_renew_5 : decode cX3_renew 5 = .ok (.invokevirtual 65, 3) := by decide +kernel
theorem dX3_renew_8 : decode cX3_renew 8 = .ok (.aload_n 0, 1) := by decide +kernel
theorem dX3_renew_9 : decode cX3_renew 9 = .ok (.getfield 24, 3) := by decide +kernel
theorem dX3_renew_12 : decode cX3_renew 12 = .ok (.aload_n 0, 1) := by decide +kernel
theorem dX3_renew_13 : decode cX3_renew 13 = .ok (.getfield 12, 3) := by decide +kernel
theorem dX3_renew_16 : decode cX3_renew 16 = .ok (.aload_n 0, 1) := by decide +kernel
theorem dX3_renew_17 : decode cX3_renew 17 = .ok (.getfield 28, 3) := by decide +kernel
theorem dX3_renew_20 : decode cX3_renew 20 = .ok (.getfield 51, 3) := by decide +kernel
theorem dX3_renew_23 : decode cX3_renew 23 = .ok (.invokevirtual 68, 3) := by decide +kernel
theorem dX3_renew_26 : decode cX3_renew 26 = .ok (.aload_n 0, 1) := by decide +kernel
theorem dX3_renew_27 : decode cX3_renew 27 = .ok (.getfield 24, 3) := by decide +kernel
theorem dX3_renew_30 : decode cX3_renew 30 = .ok (.invokevirtual 72, 3) := by decide +kernel
theorem dX3_renew_33 : decode cX3_renew 33 = .ok (.aload_n 0, 1) := by decide +kernel
theorem dX3_renew_34 : decode cX3_renew 34 = .ok (.getfield 18, 3) := by decide +kernel
theorem dX3_renew_37 : decode cX3_renew 37 = .ok (.invokeinterface 75 1, 5) := by decide +kernel
theorem dX3_renew_42 : decode cX3_renew 42 = .ok (.aload_n 0, 1) := by decide +kernel
theorem dX3_renew_43 : decode cX3_renew 43 = .ok (.getfield 28, 3) := by decide +kernel
theorem dX3_renew_46 : decode cX3_renew 46 = .ok (.getfield 78, 3) := by decide +kernel
theorem dX3_renew_49 : decode cX3_renew 49 = .ok (.invokeinterface 32 1, 5) := by decide +kernel
theorem dX3_renew_54 : decode cX3_renew 54 = .ok (.istore_n 1, 1) := by decide +kernel
theorem dX3_renew_55 : decode cX3_renew 55 = .ok (.iload_n 1, 1) := by decide +kernel
theorem dX3_renew_56 : decode cX3_renew 56 = .ok (.aload_n 0, 1) := by decide +kernel
theorem dX3_renew_57 : decode cX3_renew 57 = .ok (.getfield 12, 3) := by decide +kernel
theorem dX3_renew_60 : decode cX3_renew 60 = .ok (.invokeinterface 32 1, 5) := by decide +kernel
theorem dX3_renew_65 : decode cX3_renew 65 = .ok (.if_icmp .ge 43, 3) := by decide +kernel
theorem dX3_renew_68 : decode cX3_renew 68 = .ok (.aload_n 0, 1) := by decide +kernel
theorem dX3_renew_69 : decode cX3_renew 69 = .ok (.getfield 24, 3) := by decide +kernel
theorem dX3_renew_72 : decode cX3_renew 72 = .ok (.iload_n 1, 1) := by decide +kernel
theorem dX3_renew_73 : decode cX3_renew 73 = .ok (.invokevirtual 81, 3) := by decide +kernel
theorem dX3_renew_76 : decode cX3_renew 76 = .ok (.ifCond .ne 26, 3) := by decide +kernel
theorem dX3_renew_79 : decode cX3_renew 79 = .ok (.aload_n 0, 1) := by decide +kernel
theorem dX3_renew_80 : decode cX3_renew 80 = .ok (.getfield 18, 3) := by decide +kernel
theorem dX3_renew_83 : decode cX3_renew 83 = .ok (.aload_n 0, 1) := by decide +kernel
theorem dX3_renew_84 : decode cX3_renew 84 = .ok (.getfield 12, 3) := by decide +kernel
theorem dX3_renew_87 : decode cX3_renew 87 = .ok (.iload_n 1, 1) := by decide +kernel
theorem dX3_renew_88 : decode cX3_renew 88 = .ok (.invokeinterface 38 2, 5) := by decide +kernel
theorem dX3_renew_93 : decode cX3_renew 93 = .ok (.checkcast 42, 3) := by decide +kernel
theorem dX3_renew_96 : decode cX3_renew 96 = .ok (.invokeinterface 85 2, 5) := by decide +kernel
theorem dX3_renew_101 : decode cX3_renew 101 = .ok (.pop, 1) := by decide +kernel
theorem dX3_renew_102 : decode cX3_renew 102 = .ok (.iinc 1 1, 3) := by decide +kernel
theorem dX3_renew_105 : decode cX3_renew 105 = .ok (.goto (-50), 3) := by decide +kernel
theorem dX3_renew_108 : decode cX3_renew 108 = .ok (.return_, 1) := by decide +kernel
theorem dX3_queueRodsIn_0 : decode cX3_queueRodsIn 0 = .ok (.aload_n 0, 1) := by decide +kernel
theorem dX3_queueRodsIn_1 : decode cX3_queueRodsIn 1 = .ok (.getfield 12, 3) := by decide +kernel
theorem dX3_queueRodsIn_4 : decode cX3_queueRodsIn 4 = .ok (.invokeinterface 75 1, 5) := by decide +kernel
theorem dX3_queueRodsIn_9 : decode cX3_queueRodsIn 9 = .ok (.iconst 0, 1) := by decide +kernel
theorem dX3_queueRodsIn_10 : decode cX3_queueRodsIn 10 = .ok (.istore_n 1, 1) := by decide +kernel
theorem dX3_queueRodsIn_11 : decode cX3_queueRodsIn 11 = .ok (.iload_n 1, 1) := by decide +kernel
theorem dX3_queueRodsIn_12 : decode cX3_queueRodsIn 12 = .ok (.aload_n 0, 1) := by decide +kernel
theorem dX3_queueRodsIn_13 : decode cX3_queueRodsIn 13 = .ok (.getfield 28, 3) := by decide +kernel
theorem dX3_queueRodsIn_16 : decode cX3_queueRodsIn 16 = .ok (.getfield 78, 3) := by decide +kernel
theorem dX3_queueRodsIn_19 : decode cX3_queueRodsIn 19 = .ok (.invokeinterface 32 1, 5) := by decide +kernel
theorem dX3_queueRodsIn_24 : decode cX3_queueRodsIn 24 = .ok (.if_icmp .ge 35, 3) := by decide +kernel
theorem dX3_queueRodsIn_27 : decode cX3_queueRodsIn 27 = .ok (.aload_n 0, 1) := by decide +kernel
theorem dX3_queueRodsIn_28 : decode cX3_queueRodsIn 28 = .ok (.getfield 12, 3) := by decide +kernel
theorem dX3_queueRodsIn_31 : decode cX3_queueRodsIn 31 = .ok (.aload_n 0, 1) := by decide +kernel
theorem dX3_queueRodsIn_32 : decode cX3_queueRodsIn 32 = .ok (.getfield 28, 3) := by decide +kernel
theorem dX3_queueRodsIn_35 : decode cX3_queueRodsIn 35 = .ok (.getfield 78, 3) := by decide +kernel
theorem dX3_queueRodsIn_38 : decode cX3_queueRodsIn 38 = .ok (.iload_n 1, 1) := by decide +kernel
theorem dX3_queueRodsIn_39 : decode cX3_queueRodsIn 39 = .ok (.invokeinterface 38 2, 5) := by decide +kernel
theorem dX3_queueRodsIn_44 : decode cX3_queueRodsIn 44 = .ok (.checkcast 42, 3) := by decide +kernel
theorem dX3_queueRodsIn_47 : decode cX3_queueRodsIn 47 = .ok (.invokeinterface 85 2, 5) := by decide +kernel
theorem dX3_queueRodsIn_52 : decode cX3_queueRodsIn 52 = .ok (.pop, 1) := by decide +kernel
theorem dX3_queueRodsIn_53 : decode cX3_queueRodsIn 53 = .ok (.iinc 1 1, 3) := by decide +kernel
theorem dX3_queueRodsIn_56 : decode cX3_queueRodsIn 56 = .ok (.goto (-45), 3) := by decide +kernel
theorem dX3_queueRodsIn_59 : decode cX3_queueRodsIn 59 = .ok (.return_, 1) := by decide +kernel
theorem dX3_queueRodsOut_0 : decode cX3_queueRodsOut 0 = .ok (.iconst 0, 1) := by decide +kernel
theorem dX3_queueRodsOut_1 : decode cX3_queueRodsOut 1 = .ok (.istore_n 1, 1) := by decide +kernel
theorem dX3_queueRodsOut_2 : decode cX3_queueRodsOut 2 = .ok (.iload_n 1, 1) := by decide +kernel
theorem dX3_queueRodsOut_3 : decode cX3_queueRodsOut 3 = .ok (.aload_n 0, 1) := by decide +kernel
theorem dX3_queueRodsOut_4 : decode cX3_queueRodsOut 4 = .ok (.getfield 28, 3) := by decide +kernel
theorem dX3_queueRodsOut_7 : decode cX3_queueRodsOut 7 = .ok (.getfield 89, 3) := by decide +kernel
theorem dX3_queueRodsOut_10 : decode cX3_queueRodsOut 10 = .ok (.invokeinterface 32 1, 5) := by decide +kernel
theorem dX3_queueRodsOut_15 : decode cX3_queueRodsOut 15 = .ok (.if_icmp .ge 101, 3) := by decide +kernel
theorem dX3_queueRodsOut_18 : decode cX3_queueRodsOut 18 = .ok (.aload_n 0, 1) := by decide +kernel
theorem dX3_queueRodsOut_19 : decode cX3_queueRodsOut 19 = .ok (.getfield 28, 3) := by decide +kernel
theorem dX3_queueRodsOut_22 : decode cX3_queueRodsOut 22 = .ok (.getfield 89, 3) := by decide +kernel
theorem dX3_queueRodsOut_25 : decode cX3_queueRodsOut 25 = .ok (.iload_n 1, 1) := by decide +kernel
theorem dX3_queueRodsOut_26 : decode cX3_queueRodsOut 26 = .ok (.invokeinterface 38 2, 5) := by decide +kernel
theorem dX3_queueRodsOut_31 : decode cX3_queueRodsOut 31 = .ok (.checkcast 42, 3) := by decide +kernel
theorem dX3_queueRodsOut_34 : decode cX3_queueRodsOut 34 = .ok (.astore_n 2, 1) := by decide +kernel
theorem dX3_queueRodsOut_35 : decode cX3_queueRodsOut 35 = .ok (.aload_n 2, 1) := by decide +kernel
theorem dX3_queueRodsOut_36 : decode cX3_queueRodsOut 36 = .ok (.getfield 92, 3) := by decide +kernel
theorem dX3_queueRodsOut_39 : decode cX3_queueRodsOut 39 = .ok (.ifCond .ne 71, 3) := by decide +kernel
theorem dX3_queueRodsOut_42 : decode cX3_queueRodsOut 42 = .ok (.aload_n 0, 1) := by decide +kernel
theorem dX3_queueRodsOut_43 : decode cX3_queueRodsOut 43 = .ok (.getfield 12, 3) := by decide +kernel
theorem dX3_queueRodsOut_46 : decode cX3_queueRodsOut 46 = .ok (.invokeinterface 32 1, 5) := by decide +kernel
theorem dX3_queueRodsOut_51 : decode cX3_queueRodsOut 51 = .ok (.istore_n 3, 1) := by decide +kernel
theorem dX3_queueRodsOut_52 : decode cX3_queueRodsOut 52 = .ok (.iload_n 3, 1) := by decide +kernel
theorem dX3_queueRodsOut_53 : decode cX3_queueRodsOut 53 = .ok (.aload_n 0, 1) := by decide +kernel
theorem dX3_queueRodsOut_54 : decode cX3_queueRodsOut 54 = .ok (.getfield 28, 3) := by decide +kernel
theorem dX3_queueRodsOut_57 : decode cX3_queueRodsOut 57 = .ok (.getfield 78, 3) := by decide +kernel
theorem dX3_queueRodsOut_60 : decode cX3_queueRodsOut 60 = .ok (.invokeinterface 32 1, 5) := by decide +kernel
theorem dX3_queueRodsOut_65 : decode cX3_queueRodsOut 65 = .ok (.if_icmp .le 34, 3) := by decide +kernel
theorem dX3_queueRodsOut_68 : decode cX3_queueRodsOut 68 = .ok (.aload_n 0, 1) := by decide +kernel
theorem dX3_queueRodsOut_69 : decode cX3_queueRodsOut 69 = .ok (.getfield 12, 3) := by decide +kernel
theorem dX3_queueRodsOut_72 : decode cX3_queueRodsOut 72 = .ok (.iload_n 3, 1) := by decide +kernel
theorem dX3_queueRodsOut_73 : decode cX3_queueRodsOut 73 = .ok (.iconst 1, 1) := by decide +kernel
theorem dX3_queueRodsOut_74 : decode cX3_queueRodsOut 74 = .ok (.isub, 1) := by decide +kernel
theorem dX3_queueRodsOut_75 : decode cX3_queueRodsOut 75 = .ok (.invokeinterface 38 2, 5) := by decide +kernel
theorem dX3_queueRodsOut_80 : decode cX3_queueRodsOut 80 = .ok (.checkcast 42, 3) := by decide +kernel
theorem dX3_queueRodsOut_83 : decode cX3_queueRodsOut 83 = .ok (.getfield 48, 3) := by decide +kernel
theorem dX3_queueRodsOut_86 : decode cX3_queueRodsOut 86 = .ok (.aload_n 2, 1) := by decide +kernel
theorem dX3_queueRodsOut_87 : decode cX3_queueRodsOut 87 = .ok (.getfield 48, 3) := by decide +kernel
theorem dX3_queueRodsOut_90 : decode cX3_queueRodsOut 90 = .ok (.if_icmp .le 9, 3) := by decide +kernel
theorem dX3_queueRodsOut_93 : decode cX3_queueRodsOut 93 = .ok (.iinc 3 (-1), 3) := by decide +kernel
theorem dX3_queueRodsOut_96 : decode cX3_queueRodsOut 96 = .ok (.goto (-44), 3) := by decide +kernel
theorem dX3_queueRodsOut_99 : decode cX3_queueRodsOut 99 = .ok (.aload_n 0, 1) := by decide +kernel
theorem dX3_queueRodsOut_100 : decode cX3_queueRodsOut 100 = .ok (.getfield 12, 3) := by decide +kernel
theorem dX3_queueRodsOut_103 : decode cX3_queueRodsOut 103 = .ok (.iload_n 3, 1) := by decide +kernel
theorem dX3_queueRodsOut_104 : decode cX3_queueRodsOut 104 = .ok (.aload_n 2, 1) := by decide +kernel
theorem dX3_queueRodsOut_105 : decode cX3_queueRodsOut 105 = .ok (.invokeinterface 96 3, 5) := by decide +kernel
theorem dX3_queueRodsOut_110 : decode cX3_queueRodsOut 110 = .ok (.iinc 1 1, 3) := by decide +kernel
theorem dX3_queueRodsOut_113 : decode cX3_queueRodsOut 113 = .ok (.goto (-111), 3) := by decide +kernel
theorem dX3_queueRodsOut_116 : decode cX3_queueRodsOut 116 = .ok (.return_, 1) := by decide +kernel
theorem dX4_init_0 : decode cX4_init 0 = .ok (.aload_n 0, 1) := by decide +kernel
theorem dX4_init_1 : decode cX4_init 1 = .ok (.invokespecial 1, 3) := by decide +kernel
theorem dX4_init_4 : decode cX4_init 4 = .ok (.aload_n 0, 1) := by decide +kernel
theorem dX4_init_5 : decode cX4_init 5 = .ok (.iload_n 1, 1) := by decide +kernel
theorem dX4_init_6 : decode cX4_init 6 = .ok (.putfield 7, 3) := by decide +kernel
theorem dX4_init_9 : decode cX4_init 9 = .ok (.aload_n 0, 1) := by decide +kernel
theorem dX4_init_10 : decode cX4_init 10 = .ok (.iload_n 2, 1) := by decide +kernel
theorem dX4_init_11 : decode cX4_init 11 = .ok (.putfield 13, 3) := by decide +kernel
theorem dX4_init_14 : decode cX4_init 14 = .ok (.aload_n 0, 1) := by decide +kernel
theorem dX4_init_15 : decode cX4_init 15 = .ok (.iload_n 3, 1) := by decide +kernel
theorem dX4_init_16 : decode cX4_init 16 = .ok (.putfield 16, 3) := by decide +kernel
theorem dX4_init_19 : decode cX4_init 19 = .ok (.return_, 1) := by decide +kernel
theorem dX5_init_0 : decode cX5_init 0 = .ok (.aload_n 0, 1) := by decide +kernel
theorem dX5_init_1 : decode cX5_init 1 = .ok (.invokespecial 3, 3) := by decide +kernel
theorem dX5_init_4 : decode cX5_init 4 = .ok (.aload_n 0, 1) := by decide +kernel
theorem dX5_init_5 : decode cX5_init 5 = .ok (.iload_n 1, 1) := by decide +kernel
theorem dX5_init_6 : decode cX5_init 6 = .ok (.putfield 9, 3) := by decide +kernel
theorem dX5_init_9 : decode cX5_init 9 = .ok (.aload_n 0, 1) := by decide +kernel
theorem dX5_init_10 : decode cX5_init 10 = .ok (.iload_n 2, 1) := by decide +kernel
theorem dX5_init_11 : decode cX5_init 11 = .ok (.putfield 15, 3) := by decide +kernel
theorem dX5_init_14 : decode cX5_init 14 = .ok (.aload_n 0, 1) := by decide +kernel
theorem dX5_init_15 : decode cX5_init 15 = .ok (.aload_n 3, 1) := by decide +kernel
theorem dX5_init_16 : decode cX5_init 16 = .ok (.putfield 18, 3) := by decide +kernel
theorem dX5_init_19 : decode cX5_init 19 = .ok (.aload_n 0, 1) := by decide +kernel
theorem dX5_init_20 : decode cX5_init 20 = .ok (.aload 4, 2) := by decide +kernel
theorem dX5_init_22 : decode cX5_init 22 = .ok (.putfield 22, 3) := by decide +kernel
theorem dX5_init_25 : decode cX5_init 25 = .ok (.aload_n 0, 1) := by decide +kernel
theorem dX5_init_26 : decode cX5_init 26 = .ok (.iload 5, 2) := by decide +kernel
theorem dX5_init_28 : decode cX5_init 28 = .ok (.putfield 25, 3) := by decide +kernel
theorem dX5_init_31 : decode cX5_init 31 = .ok (.aload_n 0, 1) := by decide +kernel
theorem dX5_init_32 : decode cX5_init 32 = .ok (.iload_n 2, 1) := by decide +kernel
theorem dX5_init_33 : decode cX5_init 33 = .ok (.iconst 3, 1) := by decide +kernel
theorem dX5_init_34 : decode cX5_init 34 = .ok (.if_icmp .ge 7, 3) := by decide +kernel
theorem dX5_init_37 : decode cX5_init 37 = .ok (.iconst 1, 1) := by decide +kernel
theorem dX5_init_38 : decode cX5_init 38 = .ok (.goto 4, 3) := by decide +kernel
theorem dX5_init_41 : decode cX5_init 41 = .ok (.iconst 0, 1) := by decide +kernel
theorem dX5_init_42 : decode cX5_init 42 = .ok (.putfield 28, 3) := by decide +kernel
theorem dX5_init_45 : decode cX5_init 45 = .ok (.return_, 1) := by decide +kernel
theorem dX5_isOf_0 : decode cX5_isOf 0 = .ok (.iload_n 1, 1) := by decide +kernel
theorem dX5_isOf_1 : decode cX5_isOf 1 = .ok (.ifCond .eq 24, 3) := by decide +kernel
theorem dX5_isOf_4 : decode cX5_isOf 4 = .ok (.aload_n 0, 1) := by decide +kernel
theorem dX5_isOf_5 : decode cX5_isOf 5 = .ok (.getfield 15, 3) := by decide +kernel
theorem dX5_isOf_8 : decode cX5_isOf 8 = .ok (.iload_n 1, 1) := by decide +kernel
theorem dX5_isOf_9 : decode cX5_isOf 9 = .ok (.if_icmp .eq 16, 3) := by decide +kernel
theorem dX5_isOf_12 : decode cX5_isOf 12 = .ok (.aload_n 0, 1) := by decide +kernel
theorem dX5_isOf_13 : decode cX5_isOf 13 = .ok (.getfield 15, 3) := by decide +kernel
theorem dX5_isOf_16 : decode cX5_isOf 16 = .ok (.iconst 4, 1) := by decide +kernel
theorem dX5_isOf_17 : decode cX5_isOf 17 = .ok (.if_icmp .ne 12, 3) := by decide +kernel
theorem dX5_isOf_20 : decode cX5_isOf 20 = .ok (.iload_n 1, 1) := by decide +kernel
theorem dX5_isOf_21 : decode cX5_isOf 21 = .ok (.iconst 3, 1) := by decide +kernel
theorem dX5_isOf_22 : decode cX5_isOf 22 = .ok (.if_icmp .ne 7, 3) := by decide +kernel
theorem dX5_isOf_25 : decode cX5_isOf 25 = .ok (.iconst 1, 1) := by decide +kernel
theorem dX5_isOf_26 : decode cX5_isOf 26 = .ok (.goto 4, 3) := by decide +kernel
theorem dX5_isOf_29 : decode cX5_isOf 29 = .ok (.iconst 0, 1) := by decide +kernel
theorem dX5_isOf_30 : decode cX5_isOf 30 = .ok (.ireturn, 1) := by decide +kernel
theorem dX5_joins_0 : decode cX5_joins 0 = .ok (.aload_n 0, 1) := by decide +kernel
theorem dX5_joins_1 : decode cX5_joins 1 = .ok (.getfield 18, 3) := by decide +kernel
theorem dX5_joins_4 : decode cX5_joins 4 = .ok (.aload_n 1, 1) := by decide +kernel
theorem dX5_joins_5 : decode cX5_joins 5 = .ok (.if_acmp .ne 11, 3) := by decide +kernel
theorem dX5_joins_8 : decode cX5_joins 8 = .ok (.aload_n 0, 1) := by decide +kernel
theorem dX5_joins_9 : decode cX5_joins 9 = .ok (.getfield 22, 3) := by decide +kernel
theorem dX5_joins_12 : decode cX5_joins 12 = .ok (.aload_n 2, 1) := by decide +kernel
theorem dX5_joins_13 : decode cX5_joins 13 = .ok (.if_acmp .eq 19, 3) := by decide +kernel
theorem dX5_joins_16 : decode cX5_joins 16 = .ok (.aload_n 0, 1) := by decide +kernel
theorem dX5_joins_17 : decode cX5_joins 17 = .ok (.getfield 18, 3) := by decide +kernel
theorem dX5_joins_20 : decode cX5_joins 20 = .ok (.aload_n 2, 1) := by decide +kernel
theorem dX5_joins_21 : decode cX5_joins 21 = .ok (.if_acmp .ne 15, 3) := by decide +kernel
theorem dX5_joins_24 : decode cX5_joins 24 = .ok (.aload_n 0, 1) := by decide +kernel
theorem dX5_joins_25 : decode cX5_joins 25 = .ok (.getfield 22, 3) := by decide +kernel
theorem dX5_joins_28 : decode cX5_joins 28 = .ok (.aload_n 1, 1) := by decide +kernel
theorem dX5_joins_29 : decode cX5_joins 29 = .ok (.if_acmp .ne 7, 3) := by decide +kernel
theorem dX5_joins_32 : decode cX5_joins 32 = .ok (.iconst 1, 1) := by decide +kernel
theorem dX5_joins_33 : decode cX5_joins 33 = .ok (.goto 4, 3) := by decide +kernel
theorem dX5_joins_36 : decode cX5_joins 36 = .ok (.iconst 0, 1) := by decide +kernel
theorem dX5_joins_37 : decode cX5_joins 37 = .ok (.ireturn, 1) := by decide +kernel
theorem dX5_endsAt_0 : decode cX5_endsAt 0 = .ok (.aload_n 0, 1) := by decide +kernel
theorem dX5_endsAt_1 : decode cX5_endsAt 1 = .ok (.getfield 18, 3) := by decide +kernel
theorem dX5_endsAt_4 : decode cX5_endsAt 4 = .ok (.aload_n 1, 1) := by decide +kernel
theorem dX5_endsAt_5 : decode cX5_endsAt 5 = .ok (.if_acmp .eq 11, 3) := by decide +kernel
theorem dX5_endsAt_8 : decode cX5_endsAt 8 = .ok (.aload_n 0, 1) := by decide +kernel
theorem dX5_endsAt_9 : decode cX5_endsAt 9 = .ok (.getfield 22, 3) := by decide +kernel
theorem dX5_endsAt_12 : decode cX5_endsAt 12 = .ok (.aload_n 1, 1) := by decide +kernel
theorem dX5_endsAt_13 : decode cX5_endsAt 13 = .ok (.if_acmp .ne 7, 3) := by decide +kernel
theorem dX5_endsAt_16 : decode cX5_endsAt 16 = .ok (.iconst 1, 1) := by decide +kernel
theorem dX5_endsAt_17 : decode cX5_endsAt 17 = .ok (.goto 4, 3) := by decide +kernel
theorem dX5_endsAt_20 : decode cX5_endsAt 20 = .ok (.iconst 0, 1) := by decide +kernel
theorem dX5_endsAt_21 : decode cX5_endsAt 21 = .ok (.ireturn, 1) := by decide +kernel
theorem dX5_reach_0 : decode cX5_reach 0 = .ok (.aload_n 0, 1) := by decide +kernel
theorem dX5_reach_1 : decode cX5_reach 1 = .ok (.aload_n 1, 1) := by decide +kernel
theorem dX5_reach_2 : decode cX5_reach 2 = .ok (.invokevirtual 32, 3) := by decide +kernel
theorem dX5_reach_5 : decode cX5_reach 5 = .ok (.ifCond .ne 5, 3) := by decide +kernel
theorem dX5_reach_8 : decode cX5_reach 8 = .ok (.iconst 0, 1) := by decide +kernel
theorem dX5_reach_9 : decode cX5_reach 9 = .ok (.ireturn, 1) := by decide +kernel
theorem dX5_reach_10 : decode cX5_reach 10 = .ok (.aload_n 1, 1) := by decide +kernel
theorem dX5_reach_11 : decode cX5_reach 11 = .ok (.aload_n 0, 1) := by decide +kernel
theorem dX5_reach_12 : decode cX5_reach 12 = .ok (.getfield 18, 3) := by decide +kernel
theorem dX5_reach_15 : decode cX5_reach 15 = .ok (.if_acmp .ne 10, 3) := by decide +kernel
theorem dX5_reach_18 : decode cX5_reach 18 = .ok (.aload_n 0, 1) := by decide +kernel
theorem dX5_reach_19 : decode cX5_reach 19 = .ok (.getfield 22, 3) := by decide +kernel
theorem dX5_reach_22 : decode cX5_reach 22 = .ok (.goto 7, 3) := by decide +kernel
theorem dX5_reach_25 : decode cX5_reach 25 = .ok (.aload_n 0, 1) := by decide +kernel
theorem dX5_reach_26 : decode cX5_reach 26 = .ok (.getfield 18, 3) := by decide +kernel
theorem dX5_reach_29 : decode cX5_reach 29 = .ok (.astore_n 3, 1) := by decide +kernel
theorem dX5_reach_30 : decode cX5_reach 30 = .ok (.iload_n 2, 1) := by decide +kernel
theorem dX5_reach_31 : decode cX5_reach 31 = .ok (.ifCond .ne 15, 3) := by decide +kernel
theorem dX5_reach_34 : decode cX5_reach 34 = .ok (.aload_n 1, 1) := by decide +kernel
theorem dX5_reach_35 : decode cX5_reach 35 = .ok (.getfield 36, 3) := by decide +kernel
theorem dX5_reach_38 : decode cX5_reach 38 = .ok (.aload_n 3, 1) := by decide +kernel
theorem dX5_reach_39 : decode cX5_reach 39 = .ok (.getfield 36, 3) := by decide +kernel
theorem dX5_reach_42 : decode cX5_reach 42 = .ok (.isub, 1) := by decide +kernel
theorem dX5_reach_43 : decode cX5_reach 43 = .ok (.goto 12, 3) := by decide +kernel
theorem dX5_reach_46 : decode cX5_reach 46 = .ok (.aload_n 1, 1) := by decide +kernel
theorem dX5_reach_47 : decode cX5_reach 47 = .ok (.getfield 41, 3) := by decide +kernel
theorem dX5_reach_50 : decode cX5_reach 50 = .ok (.aload_n 3, 1) := by decide +kernel
theorem dX5_reach_51 : decode cX5_reach 51 = .ok (.getfield 41, 3) := by decide +kernel
theorem dX5_reach_54 : decode cX5_reach 54 = .ok (.isub, 1) := by decide +kernel
theorem dX5_reach_55 : decode cX5_reach 55 = .ok (.ireturn, 1) := by decide +kernel
theorem dX6_init_0 : decode cX6_init 0 = .ok (.aload_n 0, 1) := by decide +kernel
theorem dX6_init_1 : decode cX6_init 1 = .ok (.invokespecial 1, 3) := by decide +kernel
theorem dX6_init_4 : decode cX6_init 4 = .ok (.aload_n 0, 1) := by decide +kernel
theorem dX6_init_5 : decode cX6_init 5 = .ok (.iload_n 1, 1) := by decide +kernel
theorem dX6_init_6 : decode cX6_init 6 = .ok (.putfield 7, 3) := by decide +kernel
theorem dX6_init_9 : decode cX6_init 9 = .ok (.aload_n 0, 1) := by decide +kernel
theorem dX6_init_10 : decode cX6_init 10 = .ok (.iload_n 2, 1) := by decide +kernel
theorem dX6_init_11 : decode cX6_init 11 = .ok (.iconst 0, 1) := by decide +kernel
theorem dX6_init_12 : decode cX6_init 12 = .ok (.invokestatic 13, 3) := by decide +kernel
theorem dX6_init_15 : decode cX6_init 15 = .ok (.newarray .long, 2) := by decide +kernel
theorem dX6_init_17 : decode cX6_init 17 = .ok (.putfield 19, 3) := by decide +kernel
theorem dX6_init_20 : decode cX6_init 20 = .ok (.return_, 1) := by decide +kernel
theorem dX7_init_0 : decode cX7_init 0 = .ok (.aload_n 0, 1) := by decide +kernel
theorem dX7_init_1 : decode cX7_init 1 = .ok (.invokespecial 3, 3) := by decide +kernel
theorem dX7_init_4 : decode cX7_init 4 = .ok (.aload_n 0, 1) := by decide +kernel
theorem dX7_init_5 : decode cX7_init 5 = .ok (.bipush 15, 2) := by decide +kernel
theorem dX7_init_7 : decode cX7_init 7 = .ok (.bipush 16, 2) := by decide +kernel
theorem dX7_init_9 : decode cX7_init 9 = .ok (.multianewarray 9 2, 4) := by decide +kernel
theorem dX7_init_13 : decode cX7_init 13 = .ok (.putfield 11, 3) := by decide +kernel
theorem dX7_init_16 : decode cX7_init 16 = .ok (.aload_n 0, 1) := by decide +kernel
theorem dX7_init_17 : decode cX7_init 17 = .ok (.bipush 15, 2) := by decide +kernel
theorem dX7_init_19 : decode cX7_init 19 = .ok (.newarray .boolean, 2) := by decide +kernel
theorem dX7_init_21 : decode cX7_init 21 = .ok (.putfield 16, 3) := by decide +kernel
theorem dX7_init_24 : decode cX7_init 24 = .ok (.aload_n 0, 1) := by decide +kernel
theorem dX7_init_25 : decode cX7_init 25 = .ok (.bipush 15, 2) := by decide +kernel
theorem dX7_init_27 : decode cX7_init 27 = .ok (.newarray .int, 2) := by decide +kernel
theorem dX7_init_29 : decode cX7_init 29 = .ok (.putfield 20, 3) := by decide +kernel
theorem dX7_init_32 : decode cX7_init 32 = .ok (.aload_n 0, 1) := by decide +kernel
theorem dX7_init_33 : decode cX7_init 33 = .ok (.bipush 15, 2) := by decide +kernel
theorem dX7_init_35 : decode cX7_init 35 = .ok (.newarray .int, 2) := by decide +kernel
theorem dX7_init_37 : decode cX7_init 37 = .ok (.putfield 24, 3) := by decide +kernel
theorem dX7_init_40 : decode cX7_init 40 = .ok (.aload_n 0, 1) := by decide +kernel
theorem dX7_init_41 : decode cX7_init 41 = .ok (.bipush 15, 2) := by decide +kernel
theorem dX7_init_43 : decode cX7_init 43 = .ok (.newarray .long, 2) := by decide +kernel
theorem dX7_init_45 : decode cX7_init 45 = .ok (.putfield 27, 3) := by decide +kernel
theorem dX7_init_48 : decode cX7_init 48 = .ok (.aload_n 0, 1) := by decide +kernel
theorem dX7_init_49 : decode cX7_init 49 = .ok (.iconst 0, 1) := by decide +kernel
theorem dX7_init_50 : decode cX7_init 50 = .ok (.putfield 31, 3) := by decide +kernel
theorem dX7_init_53 : decode cX7_init 53 = .ok (.aload_n 0, 1) := by decide +kernel
theorem dX7_init_54 : decode cX7_init 54 = .ok (.iconst 0, 1) := by decide +kernel
theorem dX7_init_55 : decode cX7_init 55 = .ok (.putfield 35, 3) := by decide +kernel
theorem dX7_init_58 : decode cX7_init 58 = .ok (.aload_n 0, 1) := by decide +kernel
theorem dX7_init_59 : decode cX7_init 59 = .ok (.iconst 0, 1) := by decide +kernel
theorem dX7_init_60 : decode cX7_init 60 = .ok (.putfield 38, 3) := by decide +kernel
theorem dX7_init_63 : decode cX7_init 63 = .ok (.return_, 1) := by decide +kernel
theorem dX7_layRodsAsRows_0 : decode cX7_layRodsAsRows 0 = .ok (.aload_n 0, 1) := by decide +kernel
theorem dX7_layRodsAsRows_1 : decode cX7_layRodsAsRows 1 = .ok (.aload_n 1, 1) := by decide +kernel
theorem dX7_layRodsAsRows_2 : decode cX7_layRodsAsRows 2 = .ok (.invokeinterface 41 1, 5) := by decide +kernel
theorem dX7_layRodsAsRows_7 : decode cX7_layRodsAsRows 7 = .ok (.iconst 2, 1) := by decide +kernel
theorem dX7_layRodsAsRows_8 : decode cX7_layRodsAsRows 8 = .ok (.aload_n 2, 1) := by decide +kernel
theorem dX7_layRodsAsRows_9 : decode cX7_layRodsAsRows 9 = .ok (.invokeinterface 41 1, 5) := by decide +kernel
theorem dX7_layRodsAsRows_14 : decode cX7_layRodsAsRows 14 = .ok (.imul, 1) := by decide +kernel
theorem dX7_layRodsAsRows_15 : decode cX7_layRodsAsRows 15 = .ok (.invokevirtual 47, 3) := by decide +kernel
theorem dX7_layRodsAsRows_18 : decode cX7_layRodsAsRows 18 = .ok (.iconst 0, 1) := by decide +kernel
theorem dX7_layRodsAsRows_19 : decode cX7_layRodsAsRows 19 = .ok (.istore_n 3, 1) := by decide +kernel
theorem dX7_layRodsAsRows_20 : decode cX7_layRodsAsRows 20 = .ok (.iload_n 3, 1) := by decide +kernel
theorem dX7_layRodsAsRows_21 : decode cX7_layRodsAsRows 21 = .ok (.aload_n 0, 1) := by decide +kernel
theorem dX7_layRodsAsRows_22 : decode cX7_layRodsAsRows 22 = .ok (.getfield 31, 3) := by decide +kernel
theorem dX7_layRodsAsRows_25 : decode cX7_layRodsAsRows 25 = .ok (.if_icmp .ge 79, 3) := by decide +kernel
theorem dX7_layRodsAsRows_28 : decode cX7_layRodsAsRows 28 = .ok (.iconst 0, 1) := by decide +kernel
theorem dX7_layRodsAsRows_29 : decode cX7_layRodsAsRows 29 = .ok (.istore 4, 2) := by decide +kernel
theorem dX7_layRodsAsRows_31 : decode cX7_layRodsAsRows 31 = .ok (.iload 4, 2) := by decide +kernel
theorem dX7_layRodsAsRows_33 : decode cX7_layRodsAsRows 33 = .ok (.aload_n 0, 1) := by decide +kernel
theorem dX7_layRodsAsRows_34 : decode cX7_layRodsAsRows 34 = .ok (.getfield 35, 3) := by decide +kernel
theorem dX7_layRodsAsRows_37 : decode cX7_layRodsAsRows 37 = .ok (.if_icmp .ge 49, 3) := by decide +kernel
theorem dX7_layRodsAsRows_40 : decode cX7_layRodsAsRows 40 = .ok (.aload_n 0, 1) := by decide +kernel
theorem dX7_layRodsAsRows_41 : decode cX7_layRodsAsRows 41 = .ok (.getfield 11, 3) := by decide +kernel
theorem dX7_layRodsAsRows_44 : decode cX7_layRodsAsRows 44 = .ok (.iload_n 3, 1) := by decide +kernel
theorem dX7_layRodsAsRows_45 : decode cX7_layRodsAsRows 45 = .ok (.aaload, 1) := by decide +kernel
theorem dX7_layRodsAsRows_46 : decode cX7_layRodsAsRows 46 = .ok (.iload 4, 2) := by decide +kernel
theorem dX7_layRodsAsRows_48 : decode cX7_layRodsAsRows 48 = .ok (.aload_n 1, 1) := by decide +kernel
theorem dX7_layRodsAsRows_49 : decode cX7_layRodsAsRows 49 = .ok (.iload_n 3, 1) := by decide +kernel
theorem dX7_layRodsAsRows_50 : decode cX7_layRodsAsRows 50 = .ok (.invokeinterface 51 2, 5) := by decide +kernel
theorem dX7_layRodsAsRows_55 : decode cX7_layRodsAsRows 55 = .ok (.checkcast 55, 3) := by decide +kernel
theorem dX7_layRodsAsRows_58 : decode cX7_layRodsAsRows 58 = .ok (.aload_n 2, 1) := by decide +kernel
theorem dX7_layRodsAsRows_59 : decode cX7_layRodsAsRows 59 = .ok (.iload 4, 2) := by decide +kernel
theorem dX7_layRodsAsRows_61 : decode cX7_layRodsAsRows 61 = .ok (.iconst 2, 1) := by decide +kernel
theorem dX7_layRodsAsRows_62 : decode cX7_layRodsAsRows 62 = .ok (.idiv, 1) := by decide +kernel
theorem dX7_layRodsAsRows_63 : decode cX7_layRodsAsRows 63 = .ok (.invokeinterface 51 2, 5) := by decide +kernel
theorem dX7_layRodsAsRows_68 : decode cX7_layRodsAsRows 68 = .ok (.checkcast 57, 3) := by decide +kernel
theorem dX7_layRodsAsRows_71 : decode cX7_layRodsAsRows 71 = .ok (.iload 4, 2) := by decide +kernel
theorem dX7_layRodsAsRows_73 : decode cX7_layRodsAsRows 73 = .ok (.iconst 2, 1) := by decide +kernel
theorem dX7_layRodsAsRows_74 : decode cX7_layRodsAsRows 74 = .ok (.irem, 1) := by decide +kernel
theorem dX7_layRodsAsRows_75 : decode cX7_layRodsAsRows 75 = .ok (.invokevirtual 59, 3) := by decide +kernel
theorem dX7_layRodsAsRows_78 : decode cX7_layRodsAsRows 78 = .ok (.i2l, 1) := by decide +kernel
theorem dX7_layRodsAsRows_79 : decode cX7_layRodsAsRows 79 = .ok (.lastore, 1) := by decide +kernel
theorem dX7_layRodsAsRows_80 : decode cX7_layRodsAsRows 80 = .ok (.iinc 4 1, 3) := by decide +kernel
theorem dX7_layRodsAsRows_83 : decode cX7_layRodsAsRows 83 = .ok (.goto (-52), 3) := by decide +kernel
theorem dX7_layRodsAsRows_86 : decode cX7_layRodsAsRows 86 = .ok (.aload_n 0, 1) := by decide +kernel
theorem dX7_layRodsAsRows_87 : decode cX7_layRodsAsRows 87 = .ok (.getfield 11, 3) := by decide +kernel
theorem dX7_layRodsAsRows_90 : decode cX7_layRodsAsRows 90 = .ok (.iload_n 3, 1) := by decide +kernel
theorem dX7_layRodsAsRows_91 : decode cX7_layRodsAsRows 91 = .ok (.aaload, 1) := by decide +kernel
theorem dX7_layRodsAsRows_92 : decode cX7_layRodsAsRows 92 = .ok (.aload_n 0, 1) := by decide +kernel
theorem dX7_layRodsAsRows_93 : decode cX7_layRodsAsRows 93 = .ok (.getfield 35, 3) := by decide +kernel
theorem dX7_layRodsAsRows_96 : decode cX7_layRodsAsRows 96 = .ok (.lconst 0, 1) := by decide +kernel
theorem dX7_layRodsAsRows_97 : decode cX7_layRodsAsRows 97 = .ok (.lastore, 1) := by decide +kernel
theorem dX7_layRodsAsRows_98 : decode cX7_layRodsAsRows 98 = .ok (.iinc 3 1, 3) := by decide +kernel
theorem dX7_layRodsAsRows_101 : decode cX7_layRodsAsRows 101 = .ok (.goto (-81), 3) := by decide +kernel
theorem dX7_layRodsAsRows_104 : decode cX7_layRodsAsRows 104 = .ok (.return_, 1) := by decide +kernel
theorem dX7_layRodsAsColumns_0 : decode cX7_layRodsAsColumns 0 = .ok (.aload_n 0, 1) := by decide +kernel
theorem dX7_layRodsAsColumns_1 : decode cX7_layRodsAsColumns 1 = .ok (.iconst 2, 1) := by decide +kernel
theorem dX7_layRodsAsColumns_2 : decode cX7_layRodsAsColumns 2 = .ok (.aload_n 2, 1) := by decide +kernel
theorem dX7_layRodsAsColumns_3 : decode cX7_layRodsAsColumns 3 = .ok (.invokeinterface 41 1, 5) := by decide +kernel
theorem dX7_layRodsAsColumns_8 : decode cX7_layRodsAsColumns 8 = .ok (.imul, 1) := by decide +kernel
theorem dX7_layRodsAsColumns_9 : decode cX7_layRodsAsColumns 9 = .ok (.aload_n 1, 1) := by decide +kernel
theorem dX7_layRodsAsColumns_10 : decode cX7_layRodsAsColumns 10 = .ok (.invokeinterface 41 1, 5) := by decide +kernel
theorem dX7_layRodsAsColumns_15 : decode cX7_layRodsAsColumns 15 = .ok (.invokevirtual 47, 3) := by decide +kernel
theorem dX7_layRodsAsColumns_18 : decode cX7_layRodsAsColumns 18 = .ok (.iconst 0, 1) := by decide +kernel
theorem dX7_layRodsAsColumns_19 : decode cX7_layRodsAsColumns 19 = .ok (.istore_n 3, 1) := by decide +kernel
theorem dX7_layRodsAsColumns_20 : decode cX7_layRodsAsColumns 20 = .ok (.iload_n 3, 1) := by decide +kernel
theorem dX7_layRodsAsColumns_21 : decode cX7_layRodsAsColumns 21 = .ok (.aload_n 0, 1) := by decide +kernel
theorem dX7_layRodsAsColumns_22 : decode cX7_layRodsAsColumns 22 = .ok (.getfield 31, 3) := by decide +kernel
theorem dX7_layRodsAsColumns_25 : decode cX7_layRodsAsColumns 25 = .ok (.if_icmp .ge 102, 3) := by decide +kernel
theorem dX7_layRodsAsColumns_28 : decode cX7_layRodsAsColumns 28 = .ok (.aload_n 2, 1) := by decide +kernel
theorem dX7_layRodsAsColumns_29 : decode cX7_layRodsAsColumns 29 = .ok (.iload_n 3, 1) := by decide +kernel
theorem dX7_layRodsAsColumns_30 : decode cX7_layRodsAsColumns 30 = .ok (.iconst 2, 1) := by decide +kernel
theorem dX7_layRodsAsColumns_31 : decode cX7_layRodsAsColumns 31 = .ok (.idiv, 1) := by decide +kernel
theorem dX7_layRodsAsColumns_32 : decode cX7_layRodsAsColumns 32 = .ok (.invokeinterface 51 2, 5) := by decide +kernel
theorem dX7_layRodsAsColumns_37 : decode cX7_layRodsAsColumns 37 = .ok (.checkcast 57, 3) := by decide +kernel
theorem dX7_layRodsAsColumns_40 : decode cX7_layRodsAsColumns 40 = .ok (.astore 4, 2) := by decide +kernel
theorem dX7_layRodsAsColumns_42 : decode cX7_layRodsAsColumns 42 = .ok (.iconst 0, 1) := by decide +kernel
theorem dX7_layRodsAsColumns_43 : decode cX7_layRodsAsColumns 43 = .ok (.istore 5, 2) := by decide +kernel
theorem dX7_layRodsAsColumns_45 : decode cX7_layRodsAsColumns 45 = .ok (.iload 5, 2) := by decide +kernel
theorem dX7_layRodsAsColumns_47 : decode cX7_layRodsAsColumns 47 = .ok (.aload_n 0, 1) := by decide +kernel
theorem dX7_layRodsAsColumns_48 : decode cX7_layRodsAsColumns 48 = .ok (.getfield 35, 3) := by decide +kernel
theorem dX7_layRodsAsColumns_51 : decode cX7_layRodsAsColumns 51 = .ok (.if_icmp .ge 38, 3) := by decide +kernel
theorem dX7_layRodsAsColumns_54 : decode cX7_layRodsAsColumns 54 = .ok (.aload_n 0, 1) := by decide +kernel
theorem dX7_layRodsAsColumns_55 : decode cX7_layRodsAsColumns 55 = .ok (.getfield 11, 3) := by decide +kernel
theorem dX7_layRodsAsColumns_58 : decode cX7_layRodsAsColumns 58 = .ok (.iload_n 3, 1) := by decide +kernel
theorem dX7_layRodsAsColumns_59 : decode cX7_layRodsAsColumns 59 = .ok (.aaload, 1) := by decide +kernel
theorem dX7_layRodsAsColumns_60 : decode cX7_layRodsAsColumns 60 = .ok (.iload 5, 2) := by decide +kernel
theorem dX7_layRodsAsColumns_62 : decode cX7_layRodsAsColumns 62 = .ok (.aload_n 1, 1) := by decide +kernel
theorem dX7_layRodsAsColumns_63 : decode cX7_layRodsAsColumns 63 = .ok (.iload 5, 2) := by decide +kernel
theorem dX7_layRodsAsColumns_65 : decode cX7_layRodsAsColumns 65 = .ok (.invokeinterface 51 2, 5) := by decide +kernel
theorem dX7_layRodsAsColumns_70 : decode cX7_layRodsAsColumns 70 = .ok (.checkcast 55, 3) := by decide +kernel
theorem dX7_layRodsAsColumns_73 : decode cX7_layRodsAsColumns 73 = .ok (.aload 4, 2) := by decide +kernel
theorem dX7_layRodsAsColumns_75 : decode cX7_layRodsAsColumns 75 = .ok (.iload_n 3, 1) := by decide +kernel
theorem dX7_layRodsAsColumns_76 : decode cX7_layRodsAsColumns 76 = .ok (.iconst 2, 1) := by decide +kernel
theorem dX7_layRodsAsColumns_77 : decode cX7_layRodsAsColumns 77 = .ok (.irem, 1) := by decide +kernel
theorem dX7_layRodsAsColumns_78 : decode cX7_layRodsAsColumns 78 = .ok (.invokevirtual 59, 3) := by decide +kernel
theorem dX7_layRodsAsColumns_81 : decode cX7_layRodsAsColumns 81 = .ok (.i2l, 1) := by decide +kernel
theorem dX7_layRodsAsColumns_82 : decode cX7_layRodsAsColumns 82 = .ok (.lastore, 1) := by decide +kernel
theorem dX7_layRodsAsColumns_83 : decode cX7_layRodsAsColumns 83 = .ok (.iinc 5 1, 3) := by decide +kernel
theorem dX7_layRodsAsColumns_86 : decode cX7_layRodsAsColumns 86 = .ok (.goto (-41), 3) := by decide +kernel
theorem dX7_layRodsAsColumns_89 : decode cX7_layRodsAsColumns 89 = .ok (.aload_n 0, 1) := by decide +kernel
theorem dX7_layRodsAsColumns_90 : decode cX7_layRodsAsColumns 90 = .ok (.getfield 11, 3) := by decide +kernel
theorem dX7_layRodsAsColumns_93 : decode cX7_layRodsAsColumns 93 = .ok (.iload_n 3, 1) := by decide +kernel
theorem dX7_layRodsAsColumns_94 : decode cX7_layRodsAsColumns 94 = .ok (.aaload, 1) := by decide +kernel
theorem dX7_layRodsAsColumns_95 : decode cX7_layRodsAsColumns 95 = .ok (.aload_n 0, 1) := by decide +kernel
theorem dX7_layRodsAsColumns_96 : decode cX7_layRodsAsColumns 96 = .ok (.getfield 35, 3) := by decide +kernel
theorem dX7_layRodsAsColumns_99 : decode cX7_layRodsAsColumns 99 = .ok (.iload_n 3, 1) := by decide +kernel
theorem dX7_layRodsAsColumns_100 : decode cX7_layRodsAsColumns 100 = .ok (.iconst 2, 1) := by decide +kernel
theorem dX7_layRodsAsColumns_101 : decode cX7_layRodsAsColumns 101 = .ok (.irem, 1) := by decide +kernel
theorem dX7_layRodsAsColumns_102 : decode cX7_layRodsAsColumns 102 = .ok (.ifCond .ne 12, 3) := by decide +kernel
theorem dX7_layRodsAsColumns_105 : decode cX7_layRodsAsColumns 105 = .ok (.aload 4, 2) := by decide +kernel
theorem dX7_layRodsAsColumns_107 : decode cX7_layRodsAsColumns 107 = .ok (.getfield 63, 3) := by decide +kernel
theorem dX7_layRodsAsColumns_110 : decode cX7_layRodsAsColumns 110 = .ok (.i2l, 1) := by decide +kernel
theorem dX7_layRodsAsColumns_111 : decode cX7_layRodsAsColumns 111 = .ok (.goto 9, 3) := by decide +kernel
theorem dX7_layRodsAsColumns_114 : decode cX7_layRodsAsColumns 114 = .ok (.aload 4, 2) := by decide +kernel
theorem dX7_layRodsAsColumns_116 : decode cX7_layRodsAsColumns 116 = .ok (.getfield 66, 3) := by decide +kernel
theorem dX7_layRodsAsColumns_119 : decode cX7_layRodsAsColumns 119 = .ok (.i2l, 1) := by decide +kernel
theorem dX7_layRodsAsColumns_120 : decode cX7_layRodsAsColumns 120 = .ok (.lastore, 1) := by decide +kernel
theorem dX7_layRodsAsColumns_121 : decode cX7_layRodsAsColumns 121 = .ok (.iinc 3 1, 3) := by decide +kernel
theorem dX7_layRodsAsColumns_124 : decode cX7_layRodsAsColumns 124 = .ok (.goto (-104), 3) := by decide +kernel
theorem dX7_layRodsAsColumns_127 : decode cX7_layRodsAsColumns 127 = .ok (.return_, 1) := by decide +kernel
theorem dX7_reduce_0 : decode cX7_reduce 0 = .ok (.iconst 0, 1) := by decide +kernel
theorem dX7_reduce_1 : decode cX7_reduce 1 = .ok (.istore_n 1, 1) := by decide +kernel
theorem dX7_reduce_2 : decode cX7_reduce 2 = .ok (.iload_n 1, 1) := by decide +kernel
theorem dX7_reduce_3 : decode cX7_reduce 3 = .ok (.aload_n 0, 1) := by decide +kernel
theorem dX7_reduce_4 : decode cX7_reduce 4 = .ok (.getfield 35, 3) := by decide +kernel
theorem dX7_reduce_7 : decode cX7_reduce 7 = .ok (.if_icmp .ge 74, 3) := by decide +kernel
theorem dX7_reduce_10 : decode cX7_reduce 10 = .ok (.aload_n 0, 1) := by decide +kernel
theorem dX7_reduce_11 : decode cX7_reduce 11 = .ok (.iload_n 1, 1) := by decide +kernel
theorem dX7_reduce_12 : decode cX7_reduce 12 = .ok (.invokevirtual 69, 3) := by decide +kernel
theorem dX7_reduce_15 : decode cX7_reduce 15 = .ok (.istore_n 2, 1) := by decide +kernel
theorem dX7_reduce_16 : decode cX7_reduce 16 = .ok (.aload_n 0, 1) := by decide +kernel
theorem dX7_reduce_17 : decode cX7_reduce 17 = .ok (.getfield 20, 3) := by decide +kernel
theorem dX7_reduce_20 : decode cX7_reduce 20 = .ok (.iload_n 1, 1) := by decide +kernel
theorem dX7_reduce_21 : decode cX7_reduce 21 = .ok (.iload_n 2, 1) := by decide +kernel
theorem dX7_reduce_22 : decode cX7_reduce 22 = .ok (.iastore, 1) := by decide +kernel
theorem dX7_reduce_23 : decode cX7_reduce 23 = .ok (.iload_n 2, 1) := by decide +kernel
theorem dX7_reduce_24 : decode cX7_reduce 24 = .ok (.iconst (-1), 1) := by decide +kernel
theorem dX7_reduce_25 : decode cX7_reduce 25 = .ok (.if_icmp .ne 26, 3) := by decide +kernel
theorem dX7_reduce_28 : decode cX7_reduce 28 = .ok (.aload_n 0, 1) := by decide +kernel
theorem dX7_reduce_29 : decode cX7_reduce 29 = .ok (.getfield 24, 3) := by decide +kernel
theorem dX7_reduce_32 : decode cX7_reduce 32 = .ok (.aload_n 0, 1) := by decide +kernel
theorem dX7_reduce_33 : decode cX7_reduce 33 = .ok (.getfield 38, 3) := by decide +kernel
theorem dX7_reduce_36 : decode cX7_reduce 36 = .ok (.iload_n 1, 1) := by decide +kernel
theorem dX7_reduce_37 : decode cX7_reduce 37 = .ok (.iastore, 1) := by decide +kernel
theorem dX7_reduce_38 : decode cX7_reduce 38 = .ok (.aload_n 0, 1) := by decide +kernel
theorem dX7_reduce_39 : decode cX7_reduce 39 = .ok (.dup, 1) := by decide +kernel
theorem dX7_reduce_40 : decode cX7_reduce 40 = .ok (.getfield 38, 3) := by decide +kernel
theorem dX7_reduce_43 : decode cX7_reduce 43 = .ok (.iconst 1, 1) := by decide +kernel
theorem dX7_reduce_44 : decode cX7_reduce 44 = .ok (.iadd, 1) := by decide +kernel
theorem dX7_reduce_45 : decode cX7_reduce 45 = .ok (.putfield 38, 3) := by decide +kernel
theorem dX7_reduce_48 : decode cX7_reduce 48 = .ok (.goto 27, 3) := by decide +kernel
theorem dX7_reduce_51 : decode cX7_reduce 51 = .ok (.aload_n 0, 1) := by decide +kernel
theorem dX7_reduce_52 : decode cX7_reduce 52 = .ok (.getfield 16, 3) := by decide +kernel
theorem dX7_reduce_55 : decode cX7_reduce 55 = .ok (.iload_n 2, 1) := by decide +kernel
theorem dX7_reduce_56 : decode cX7_reduce 56 = .ok (.iconst 1, 1) := by decide +kernel
theorem dX7_reduce_57 : decode cX7_reduce 57 = .ok (.bastore, 1) := by decide +kernel
theorem dX7_reduce_58 : decode cX7_reduce 58 = .ok (.aload_n 0, 1) := by decide +kernel
theorem dX7_reduce_59 : decode cX7_reduce 59 = .ok (.aload_n 0, 1) := by decide +kernel
theorem dX7_reduce_60 : decode cX7_reduce 60 = .ok (.getfield 11, 3) := by decide +kernel
theorem dX7_reduce_63 : decode cX7_reduce 63 = .ok (.iload_n 2, 1) := by decide +kernel
theorem dX7_reduce_64 : decode cX7_reduce 64 = .ok (.aaload, 1) := by decide +kernel
theorem dX7_reduce_65 : decode cX7_reduce 65 = .ok (.iload_n 1, 1) := by decide +kernel
theorem dX7_reduce_66 : decode cX7_reduce 66 = .ok (.invokevirtual 73, 3) := by decide +kernel
theorem dX7_reduce_69 : decode cX7_reduce 69 = .ok (.aload_n 0, 1) := by decide +kernel
theorem dX7_reduce_70 : decode cX7_reduce 70 = .ok (.iload_n 2, 1) := by decide +kernel
theorem dX7_reduce_71 : decode cX7_reduce 71 = .ok (.iload_n 1, 1) := by decide +kernel
theorem dX7_reduce_72 : decode cX7_reduce 72 = .ok (.invokevirtual 77, 3) := by decide +kernel
theorem dX7_reduce_75 : decode cX7_reduce 75 = .ok (.iinc 1 1, 3) := by decide +kernel
theorem dX7_reduce_78 : decode cX7_reduce 78 = .ok (.goto (-76), 3) := by decide +kernel
theorem dX7_reduce_81 : decode cX7_reduce 81 = .ok (.iconst 0, 1) := by decide +kernel
theorem dX7_reduce_82 : decode cX7_reduce 82 = .ok (.istore_n 1, 1) := by decide +kernel
theorem dX7_reduce_83 : decode cX7_reduce 83 = .ok (.iload_n 1, 1) := by decide +kernel
theorem dX7_reduce_84 : decode cX7_reduce 84 = .ok (.aload_n 0, 1) := by decide +kernel
theorem dX7_reduce_85 : decode cX7_reduce 85 = .ok (.getfield 38, 3) := by decide +kernel
theorem dX7_reduce_88 : decode cX7_reduce 88 = .ok (.if_icmp .ge 25, 3) := by decide +kernel
theorem dX7_reduce_91 : decode cX7_reduce 91 = .ok (.aload_n 0, 1) := by decide +kernel
theorem dX7_reduce_92 : decode cX7_reduce 92 = .ok (.getfield 27, 3) := by decide +kernel
theorem dX7_reduce_95 : decode cX7_reduce 95 = .ok (.iload_n 1, 1) := by decide +kernel
theorem dX7_reduce_96 : decode cX7_reduce 96 = .ok (.aload_n 0, 1) := by decide +kernel
theorem dX7_reduce_97 : decode cX7_reduce 97 = .ok (.aload_n 0, 1) := by decide +kernel
theorem dX7_reduce_98 : decode cX7_reduce 98 = .ok (.getfield 24, 3) := by decide +kernel
theorem dX7_reduce_101 : decode cX7_reduce 101 = .ok (.iload_n 1, 1) := by decide +kernel
theorem dX7_reduce_102 : decode cX7_reduce 102 = .ok (.iaload, 1) := by decide +kernel
theorem dX7_reduce_103 : decode cX7_reduce 103 = .ok (.invokevirtual 80, 3) := by decide +kernel
theorem dX7_reduce_106 : decode cX7_reduce 106 = .ok (.lastore, 1) := by decide +kernel
theorem dX7_reduce_107 : decode cX7_reduce 107 = .ok (.iinc 1 1, 3) := by decide +kernel
theorem dX7_reduce_110 : decode cX7_reduce 110 = .ok (.goto (-27), 3) := by decide +kernel
theorem dX7_reduce_113 : decode cX7_reduce 113 = .ok (.return_, 1) := by decide +kernel
theorem dX7_looseColumns_0 : decode cX7_looseColumns 0 = .ok (.aload_n 0, 1) := by decide +kernel
theorem dX7_looseColumns_1 : decode cX7_looseColumns 1 = .ok (.getfield 38, 3) := by decide +kernel
theorem dX7_looseColumns_4 : decode cX7_looseColumns 4 = .ok (.ireturn, 1) := by decide +kernel
theorem dX7_rank_0 : decode cX7_rank 0 = .ok (.aload_n 0, 1) := by decide +kernel
theorem dX7_rank_1 : decode cX7_rank 1 = .ok (.getfield 35, 3) := by decide +kernel
theorem dX7_rank_4 : decode cX7_rank 4 = .ok (.aload_n 0, 1) := by decide +kernel
theorem dX7_rank_5 : decode cX7_rank 5 = .ok (.getfield 38, 3) := by decide +kernel
theorem dX7_rank_8 : decode cX7_rank 8 = .ok (.isub, 1) := by decide +kernel
theorem dX7_rank_9 : decode cX7_rank 9 = .ok (.ireturn, 1) := by decide +kernel
theorem dX7_isLoose_0 : decode cX7_isLoose 0 = .ok (.iload_n 1, 1) := by decide +kernel
theorem dX7_isLoose_1 : decode cX7_isLoose 1 = .ok (.ifCond .lt 21, 3) := by decide +kernel
theorem dX7_isLoose_4 : decode cX7_isLoose 4 = .ok (.iload_n 1, 1) := by decide +kernel
theorem dX7_isLoose_5 : decode cX7_isLoose 5 = .ok (.aload_n 0, 1) := by decide +kernel
theorem dX7_isLoose_6 : decode cX7_isLoose 6 = .ok (.getfield 35, 3) := by decide +kernel
theorem dX7_isLoose_9 : decode cX7_isLoose 9 = .ok (.if_icmp .ge 13, 3) := by decide +kernel
theorem dX7_isLoose_12 : decode cX7_isLoose 12 = .ok (.aload_n 0, 1) := by decide +kernel
theorem dX7_isLoose_13 : decode cX7_isLoose 13 = .ok (.getfield 20, 3) := by decide +kernel
theorem dX7_isLoose_16 : decode cX7_isLoose 16 = .ok (.iload_n 1, 1) := by decide +kernel
theorem dX7_isLoose_17 : decode cX7_isLoose 17 = .ok (.iaload, 1) := by decide +kernel
theorem dX7_isLoose_18 : decode cX7_isLoose 18 = .ok (.iconst (-1), 1) := by decide +kernel
theorem dX7_isLoose_19 : decode cX7_isLoose 19 = .ok (.if_icmp .ne 7, 3) := by decide +kernel
theorem dX7_isLoose_22 : decode cX7_isLoose 22 = .ok (.iconst 1, 1) := by decide +kernel
theorem dX7_isLoose_23 : decode cX7_isLoose 23 = .ok (.goto 4, 3) := by decide +kernel
theorem dX7_isLoose_26 : decode cX7_isLoose 26 = .ok (.iconst 0, 1) := by decide +kernel
theorem dX7_isLoose_27 : decode cX7_isLoose 27 = .ok (.ireturn, 1) := by decide +kernel
theorem dX7_answer_0 : decode cX7_answer 0 = .ok (.iload_n 1, 1) := by decide +kernel
theorem dX7_answer_1 : decode cX7_answer 1 = .ok (.ifCond .lt 11, 3) := by decide +kernel
theorem dX7_answer_4 : decode cX7_answer 4 = .ok (.iload_n 1, 1) := by decide +kernel
theorem dX7_answer_5 : decode cX7_answer 5 = .ok (.aload_n 0, 1) := by decide +kernel
theorem dX7_answer_6 : decode cX7_answer 6 = .ok (.getfield 38, 3) := by decide +kernel
theorem dX7_answer_9 : decode cX7_answer 9 = .ok (.if_icmp .lt 5, 3) := by decide +kernel
theorem dX7_answer_12 : decode cX7_answer 12 = .ok (.lconst 0, 1) := by decide +kernel
theorem dX7_answer_13 : decode cX7_answer 13 = .ok (.lreturn, 1) := by decide +kernel
theorem dX7_answer_14 : decode cX7_answer 14 = .ok (.iload_n 2, 1) := by decide +kernel
theorem dX7_answer_15 : decode cX7_answer 15 = .ok (.aload_n 0, 1) := by decide +kernel
theorem dX7_answer_16 : decode cX7_answer 16 = .ok (.getfield 24, 3) := by decide +kernel
theorem dX7_answer_19 : decode cX7_answer 19 = .ok (.iload_n 1, 1) := by decide +kernel
theorem dX7_answer_20 : decode cX7_answer 20 = .ok (.iaload, 1) := by decide +kernel
theorem dX7_answer_21 : decode cX7_answer 21 = .ok (.if_icmp .ne 10, 3) := by decide +kernel
theorem dX7_answer_24 : decode cX7_answer 24 = .ok (.aload_n 0, 1) := by decide +kernel
theorem dX7_answer_25 : decode cX7_answer 25 = .ok (.getfield 27, 3) := by decide +kernel
theorem dX7_answer_28 : decode cX7_answer 28 = .ok (.iload_n 1, 1) := by decide +kernel
theorem dX7_answer_29 : decode cX7_answer 29 = .ok (.laload, 1) := by decide +kernel
theorem dX7_answer_30 : decode cX7_answer 30 = .ok (.lreturn, 1) := by decide +kernel
theorem dX7_answer_31 : decode cX7_answer 31 = .ok (.aload_n 0, 1) := by decide +kernel
theorem dX7_answer_32 : decode cX7_answer 32 = .ok (.iload_n 2, 1) := by decide +kernel
theorem dX7_answer_33 : decode cX7_answer 33 = .ok (.invokevirtual 84, 3) := by decide +kernel
theorem dX7_answer_36 : decode cX7_answer 36 = .ok (.ifCond .eq 5, 3) := by decide +kernel
theorem dX7_answer_39 : decode cX7_answer 39 = .ok (.lconst 0, 1) := by decide +kernel
theorem dX7_answer_40 : decode cX7_answer 40 = .ok (.lreturn, 1) := by decide +kernel
theorem dX7_answer_41 : decode cX7_answer 41 = .ok (.aload_n 0, 1) := by decide +kernel
theorem dX7_answer_42 : decode cX7_answer 42 = .ok (.getfield 11, 3) := by decide +kernel
theorem dX7_answer_45 : decode cX7_answer 45 = .ok (.aload_n 0, 1) := by decide +kernel
theorem dX7_answer_46 : decode cX7_answer 46 = .ok (.getfield 20, 3) := by decide +kernel
theorem dX7_answer_49 : decode cX7_answer 49 = .ok (.iload_n 2, 1) := by decide +kernel
theorem dX7_answer_50 : decode cX7_answer 50 = .ok (.iaload, 1) := by decide +kernel
theorem dX7_answer_51 : decode cX7_answer 51 = .ok (.aaload, 1) := by decide +kernel
theorem dX7_answer_52 : decode cX7_answer 52 = .ok (.astore_n 3, 1) := by decide +kernel
theorem dX7_answer_53 : decode cX7_answer 53 = .ok (.aload_n 3, 1) := by decide +kernel
theorem dX7_answer_54 : decode cX7_answer 54 = .ok (.iload_n 2, 1) := by decide +kernel
theorem dX7_answer_55 : decode cX7_answer 55 = .ok (.laload, 1) := by decide +kernel
theorem dX7_answer_56 : decode cX7_answer 56 = .ok (.lstore 4, 2) := by decide +kernel
theorem dX7_answer_58 : decode cX7_answer 58 = .ok (.lload 4, 2) := by decide +kernel
theorem dX7_answer_60 : decode cX7_answer 60 = .ok (.lconst 0, 1) := by decide +kernel
theorem dX7_answer_61 : decode cX7_answer 61 = .ok (.lcmp, 1) := by decide +kernel
theorem dX7_answer_62 : decode cX7_answer 62 = .ok (.ifCond .ne 7, 3) := by decide +kernel
theorem dX7_answer_65 : decode cX7_answer 65 = .ok (.lconst 0, 1) := by decide +kernel
theorem dX7_answer_66 : decode cX7_answer 66 = .ok (.goto 22, 3) := by decide +kernel
theorem dX7_answer_69 : decode cX7_answer 69 = .ok (.aload_n 3, 1) := by decide +kernel
theorem dX7_answer_70 : decode cX7_answer 70 = .ok (.aload_n 0, 1) := by decide +kernel
theorem dX7_answer_71 : decode cX7_answer 71 = .ok (.getfield 24, 3) := by decide +kernel
theorem dX7_answer_74 : decode cX7_answer 74 = .ok (.iload_n 1, 1) := by decide +kernel
theorem dX7_answer_75 : decode cX7_answer 75 = .ok (.iaload, 1) := by decide +kernel
theorem dX7_answer_76 : decode cX7_answer 76 = .ok (.laload, 1) := by decide +kernel
theorem dX7_answer_77 : decode cX7_answer 77 = .ok (.aload_n 0, 1) := by decide +kernel
theorem dX7_answer_78 : decode cX7_answer 78 = .ok (.getfield 27, 3) := by decide +kernel
theorem dX7_answer_81 : decode cX7_answer 81 = .ok (.iload_n 1, 1) := by decide +kernel
theorem dX7_answer_82 : decode cX7_answer 82 = .ok (.laload, 1) := by decide +kernel
theorem dX7_answer_83 : decode cX7_answer 83 = .ok (.lmul, 1) := by decide +kernel
theorem dX7_answer_84 : decode cX7_answer 84 = .ok (.lneg, 1) := by decide +kernel
theorem dX7_answer_85 : decode cX7_answer 85 = .ok (.lload 4, 2) := by decide +kernel
theorem dX7_answer_87 : decode cX7_answer 87 = .ok (.ldiv, 1) := by decide +kernel
theorem dX7_answer_88 : decode cX7_answer 88 = .ok (.lreturn, 1) := by decide +kernel
theorem dX7_hasSolution_0 : decode cX7_hasSolution 0 = .ok (.iconst 0, 1) := by decide +kernel
theorem dX7_hasSolution_1 : decode cX7_hasSolution 1 = .ok (.istore_n 1, 1) := by decide +kernel
theorem dX7_hasSolution_2 : decode cX7_hasSolution 2 = .ok (.iload_n 1, 1) := by decide +kernel
theorem dX7_hasSolution_3 : decode cX7_hasSolution 3 = .ok (.aload_n 0, 1) := by decide +kernel
theorem dX7_hasSolution_4 : decode cX7_hasSolution 4 = .ok (.getfield 31, 3) := by decide +kernel
theorem dX7_hasSolution_7 : decode cX7_hasSolution 7 = .ok (.if_icmp .ge 36, 3) := by decide +kernel
theorem dX7_hasSolution_10 : decode cX7_hasSolution 10 = .ok (.aload_n 0, 1) := by decide +kernel
theorem dX7_hasSolution_11 : decode cX7_hasSolution 11 = .ok (.getfield 16, 3) := by decide +kernel
theorem dX7_hasSolution_14 : decode cX7_hasSolution 14 = .ok (.iload_n 1, 1) := by decide +kernel
theorem dX7_hasSolution_15 : decode cX7_hasSolution 15 = .ok (.baload, 1) := by decide +kernel
theorem dX7_hasSolution_16 : decode cX7_hasSolution 16 = .ok (.ifCond .ne 21, 3) := by decide +kernel
theorem dX7_hasSolution_19 : decode cX7_hasSolution 19 = .ok (.aload_n 0, 1) := by decide +kernel
theorem dX7_hasSolution_20 : decode cX7_hasSolution 20 = .ok (.getfield 11, 3) := by decide +kernel
theorem dX7_hasSolution_23 : decode cX7_hasSolution 23 = .ok (.iload_n 1, 1) := by decide +kernel
theorem dX7_hasSolution_24 : decode cX7_hasSolution 24 = .ok (.aaload, 1) := by decide +kernel
theorem dX7_hasSolution_25 : decode cX7_hasSolution 25 = .ok (.aload_n 0, 1) := by decide +kernel
theorem dX7_hasSolution_26 : decode cX7_hasSolution 26 = .ok (.getfield 35, 3) := by decide +kernel
theorem dX7_hasSolution_29 : decode cX7_hasSolution 29 = .ok (.laload, 1) := by decide +kernel
theorem dX7_hasSolution_30 : decode cX7_hasSolution 30 = .ok (.lconst 0, 1) := by decide +kernel
theorem dX7_hasSolution_31 : decode cX7_hasSolution 31 = .ok (.lcmp, 1) := by decide +kernel
theorem dX7_hasSolution_32 : decode cX7_hasSolution 32 = .ok (.ifCond .eq 5, 3) := by decide +kernel
theorem dX7_hasSolution_35 : decode cX7_hasSolution 35 = .ok (.iconst 0, 1) := by decide +kernel
theorem dX7_hasSolution_36 : decode cX7_hasSolution 36 = .ok (.ireturn, 1) := by decide +kernel
theorem dX7_hasSolution_37 : decode cX7_hasSolution 37 = .ok (.iinc 1 1, 3) := by decide +kernel
theorem dX7_hasSolution_40 : decode cX7_hasSolution 40 = .ok (.goto (-38), 3) := by decide +kernel
theorem dX7_hasSolution_43 : decode cX7_hasSolution 43 = .ok (.iconst 1, 1) := by decide +kernel
theorem dX7_hasSolution_44 : decode cX7_hasSolution 44 = .ok (.ireturn, 1) := by decide +kernel
theorem dX7_solutionAbove_0 : decode cX7_solutionAbove 0 = .ok (.aload_n 0, 1) := by decide +kernel
theorem dX7_solutionAbove_1 : decode cX7_solutionAbove 1 = .ok (.iload_n 1, 1) := by decide +kernel
theorem dX7_solutionAbove_2 : decode cX7_solutionAbove 2 = .ok (.invokevirtual 84, 3) := by decide +kernel
theorem dX7_solutionAbove_5 : decode cX7_solutionAbove 5 = .ok (.ifCond .eq 5, 3) := by decide +kernel
theorem dX7_solutionAbove_8 : decode cX7_solutionAbove 8 = .ok (.lconst 0, 1) := by decide +kernel
theorem dX7_solutionAbove_9 : decode cX7_solutionAbove 9 = .ok (.lreturn, 1) := by decide +kernel
theorem dX7_solutionAbove_10 : decode cX7_solutionAbove 10 = .ok (.aload_n 0, 1) := by decide +kernel
theorem dX7_solutionAbove_11 : decode cX7_solutionAbove 11 = .ok (.getfield 11, 3) := by decide +kernel
theorem dX7_solutionAbove_14 : decode cX7_solutionAbove 14 = .ok (.aload_n 0, 1) := by decide +kernel
theorem dX7_solutionAbove_15 : decode cX7_solutionAbove 15 = .ok (.getfield 20, 3) := by decide +kernel
theorem dX7_solutionAbove_18 : decode cX7_solutionAbove 18 = .ok (.iload_n 1, 1) := by decide +kernel
theorem dX7_solutionAbove_19 : decode cX7_solutionAbove 19 = .ok (.iaload, 1) := by decide +kernel
theorem dX7_solutionAbove_20 : decode cX7_solutionAbove 20 = .ok (.aaload, 1) := by decide +kernel
theorem dX7_solutionAbove_21 : decode cX7_solutionAbove 21 = .ok (.astore_n 2, 1) := by decide +kernel
theorem dX7_solutionAbove_22 : decode cX7_solutionAbove 22 = .ok (.aload_n 2, 1) := by decide +kernel
theorem dX7_solutionAbove_23 : decode cX7_solutionAbove 23 = .ok (.aload_n 0, 1) := by decide +kernel
theorem dX7_solutionAbove_24 : decode cX7_solutionAbove 24 = .ok (.getfield 35, 3) := by decide +kernel
theorem dX7_solutionAbove_27 : decode cX7_solutionAbove 27 = .ok (.laload, 1) := by decide +kernel
theorem dX7_solutionAbove_28 : decode cX7_solutionAbove 28 = .ok (.aload_n 2, 1) := by decide +kernel
theorem dX7_solutionAbove_29 : decode cX7_solutionAbove 29 = .ok (.iload_n 1, 1) := by decide +kernel
theorem dX7_solutionAbove_30 : decode cX7_solutionAbove 30 = .ok (.laload, 1) := by decide +kernel
theorem dX7_solutionAbove_31 : decode cX7_solutionAbove 31 = .ok (.invokestatic 88, 3) := by decide +kernel
theorem dX7_solutionAbove_34 : decode cX7_solutionAbove 34 = .ok (.lstore_n 3, 1) := by decide +kernel
theorem dX7_solutionAbove_35 : decode cX7_solutionAbove 35 = .ok (.lload_n 3, 1) := by decide +kernel
theorem dX7_solutionAbove_36 : decode cX7_solutionAbove 36 = .ok (.lconst 0, 1) := by decide +kernel
theorem dX7_solutionAbove_37 : decode cX7_solutionAbove 37 = .ok (.lcmp, 1) := by decide +kernel
theorem dX7_solutionAbove_38 : decode cX7_solutionAbove 38 = .ok (.ifCond .ne 7, 3) := by decide +kernel
theorem dX7_solutionAbove_41 : decode cX7_solutionAbove 41 = .ok (.lconst 0, 1) := by decide +kernel
theorem dX7_solutionAbove_42 : decode cX7_solutionAbove 42 = .ok (.goto 11, 3) := by decide +kernel
theorem dX7_solutionAbove_45 : decode cX7_solutionAbove 45 = .ok (.aload_n 2, 1) := by decide +kernel
theorem dX7_solutionAbove_46 : decode cX7_solutionAbove 46 = .ok (.aload_n 0, 1) := by decide +kernel
theorem dX7_solutionAbove_47 : decode cX7_solutionAbove 47 = .ok (.getfield 35, 3) := by decide +kernel
theorem dX7_solutionAbove_50 : decode cX7_solutionAbove 50 = .ok (.laload, 1) := by decide +kernel
theorem dX7_solutionAbove_51 : decode cX7_solutionAbove 51 = .ok (.lload_n 3, 1) := by decide +kernel
theorem dX7_solutionAbove_52 : decode cX7_solutionAbove 52 = .ok (.ldiv, 1) := by decide +kernel
theorem dX7_solutionAbove_53 : decode cX7_solutionAbove 53 = .ok (.lreturn, 1) := by decide +kernel
theorem dX7_solutionBelow_0 : decode cX7_solutionBelow 0 = .ok (.aload_n 0, 1) := by decide +kernel
theorem dX7_solutionBelow_1 : decode cX7_solutionBelow 1 = .ok (.iload_n 1, 1) := by decide +kernel
theorem dX7_solutionBelow_2 : decode cX7_solutionBelow 2 = .ok (.invokevirtual 84, 3) := by decide +kernel
theorem dX7_solutionBelow_5 : decode cX7_solutionBelow 5 = .ok (.ifCond .eq 5, 3) := by decide +kernel
theorem dX7_solutionBelow_8 : decode cX7_solutionBelow 8 = .ok (.lconst 1, 1) := by decide +kernel
theorem dX7_solutionBelow_9 : decode cX7_solutionBelow 9 = .ok (.lreturn, 1) := by decide +kernel
theorem dX7_solutionBelow_10 : decode cX7_solutionBelow 10 = .ok (.aload_n 0, 1) := by decide +kernel
theorem dX7_solutionBelow_11 : decode cX7_solutionBelow 11 = .ok (.getfield 11, 3) := by decide +kernel
theorem dX7_solutionBelow_14 : decode cX7_solutionBelow 14 = .ok (.aload_n 0, 1) := by decide +kernel
theorem dX7_solutionBelow_15 : decode cX7_solutionBelow 15 = .ok (.getfield 20, 3) := by decide +kernel
theorem dX7_solutionBelow_18 : decode cX7_solutionBelow 18 = .ok (.iload_n 1, 1) := by decide +kernel
theorem dX7_solutionBelow_19 : decode cX7_solutionBelow 19 = .ok (.iaload, 1) := by decide +kernel
theorem dX7_solutionBelow_20 : decode cX7_solutionBelow 20 = .ok (.aaload, 1) := by decide +kernel
theorem dX7_solutionBelow_21 : decode cX7_solutionBelow 21 = .ok (.astore_n 2, 1) := by decide +kernel
theorem dX7_solutionBelow_22 : decode cX7_solutionBelow 22 = .ok (.aload_n 2, 1) := by decide +kernel
theorem dX7_solutionBelow_23 : decode cX7_solutionBelow 23 = .ok (.aload_n 0, 1) := by decide +kernel
theorem dX7_solutionBelow_24 : decode cX7_solutionBelow 24 = .ok (.getfield 35, 3) := by decide +kernel
theorem dX7_solutionBelow_27 : decode cX7_solutionBelow 27 = .ok (.laload, 1) := by decide +kernel
theorem dX7_solutionBelow_28 : decode cX7_solutionBelow 28 = .ok (.aload_n 2, 1) := by decide +kernel
theorem dX7_solutionBelow_29 : decode cX7_solutionBelow 29 = .ok (.iload_n 1, 1) := by decide +kernel
theorem dX7_solutionBelow_30 : decode cX7_solutionBelow 30 = .ok (.laload, 1) := by decide +kernel
theorem dX7_solutionBelow_31 : decode cX7_solutionBelow 31 = .ok (.invokestatic 92, 3) := by decide +kernel
theorem dX7_solutionBelow_34 : decode cX7_solutionBelow 34 = .ok (.lreturn, 1) := by decide +kernel
theorem dX7_start_0 : decode cX7_start 0 = .ok (.aload_n 0, 1) := by decide +kernel
theorem dX7_start_1 : decode cX7_start 1 = .ok (.iload_n 1, 1) := by decide +kernel
theorem dX7_start_2 : decode cX7_start 2 = .ok (.bipush 15, 2) := by decide +kernel
theorem dX7_start_4 : decode cX7_start 4 = .ok (.invokestatic 95, 3) := by decide +kernel
theorem dX7_start_7 : decode cX7_start 7 = .ok (.putfield 31, 3) := by decide +kernel
theorem dX7_start_10 : decode cX7_start 10 = .ok (.aload_n 0, 1) := by decide +kernel
theorem dX7_start_11 : decode cX7_start 11 = .ok (.iload_n 2, 1) := by decide +kernel
theorem dX7_start_12 : decode cX7_start 12 = .ok (.bipush 15, 2) := by decide +kernel
theorem dX7_start_14 : decode cX7_start 14 = .ok (.invokestatic 95, 3) := by decide +kernel
theorem dX7_start_17 : decode cX7_start 17 = .ok (.putfield 35, 3) := by decide +kernel
theorem dX7_start_20 : decode cX7_start 20 = .ok (.aload_n 0, 1) := by decide +kernel
theorem dX7_start_21 : decode cX7_start 21 = .ok (.iconst 0, 1) := by decide +kernel
theorem dX7_start_22 : decode cX7_start 22 = .ok (.putfield 38, 3) := by decide +kernel
theorem dX7_start_25 : decode cX7_start 25 = .ok (.iconst 0, 1) := by decide +kernel
theorem dX7_start_26 : decode cX7_start 26 = .ok (.istore_n 3, 1) := by decide +kernel
theorem dX7_start_27 : decode cX7_start 27 = .ok (.iload_n 3, 1) := by decide +kernel
theorem dX7_start_28 : decode cX7_start 28 = .ok (.aload_n 0, 1) := by decide +kernel
theorem dX7_start_29 : decode cX7_start 29 = .ok (.getfield 31, 3) := by decide +kernel
theorem dX7_start_32 : decode cX7_start 32 = .ok (.if_icmp .ge 16, 3) := by decide +kernel
theorem dX7_start_35 : decode cX7_start 35 = .ok (.aload_n 0, 1) := by decide +kernel
theorem dX7_start_36 : decode cX7_start 36 = .ok (.getfield 16, 3) := by decide +kernel
theorem dX7_start_39 : decode cX7_start 39 = .ok (.iload_n 3, 1) := by decide +kernel
theorem dX7_start_40 : decode cX7_start 40 = .ok (.iconst 0, 1) := by decide +kernel
theorem dX7_start_41 : decode cX7_start 41 = .ok (.bastore, 1) := by decide +kernel
theorem dX7_start_42 : decode cX7_start 42 = .ok (.iinc 3 1, 3) := by decide +kernel
theorem dX7_start_45 : decode cX7_start 45 = .ok (.goto (-18), 3) := by decide +kernel
theorem dX7_start_48 : decode cX7_start 48 = .ok (.return_, 1) := by decide +kernel
theorem dX7_openRow_0 : decode cX7_openRow 0 = .ok (.iconst 0, 1) := by decide +kernel
theorem dX7_openRow_1 : decode cX7_openRow 1 = .ok (.istore_n 2, 1) := by decide +kernel
theorem dX7_openRow_2 : decode cX7_openRow 2 = .ok (.iload_n 2, 1) := by decide +kernel
theorem dX7_openRow_3 : decode cX7_openRow 3 = .ok (.aload_n 0, 1) := by decide +kernel
theorem dX7_openRow_4 : decode cX7_openRow 4 = .ok (.getfield 31, 3) := by decide +kernel
theorem dX7_openRow_7 : decode cX7_openRow 7 = .ok (.if_icmp .ge 33, 3) := by decide +kernel
theorem dX7_openRow_10 : decode cX7_openRow 10 = .ok (.aload_n 0, 1) := by decide +kernel
theorem dX7_openRow_11 : decode cX7_openRow 11 = .ok (.getfield 16, 3) := by decide +kernel
theorem dX7_openRow_14 : decode cX7_openRow 14 = .ok (.iload_n 2, 1) := by decide +kernel
theorem dX7_openRow_15 : decode cX7_openRow 15 = .ok (.baload, 1) := by decide +kernel
theorem dX7_openRow_16 : decode cX7_openRow 16 = .ok (.ifCond .ne 18, 3) := by decide +kernel
theorem dX7_openRow_19 : decode cX7_openRow 19 = .ok (.aload_n 0, 1) := by decide +kernel
theorem dX7_openRow_20 : decode cX7_openRow 20 = .ok (.getfield 11, 3) := by decide +kernel
theorem dX7_openRow_23 : decode cX7_openRow 23 = .ok (.iload_n 2, 1) := by decide +kernel
theorem dX7_openRow_24 : decode cX7_openRow 24 = .ok (.aaload, 1) := by decide +kernel
theorem dX7_openRow_25 : decode cX7_openRow 25 = .ok (.iload_n 1, 1) := by decide +kernel
theorem dX7_openRow_26 : decode cX7_openRow 26 = .ok (.laload, 1) := by decide +kernel
theorem dX7_openRow_27 : decode cX7_openRow 27 = .ok (.lconst 0, 1) := by decide +kernel
theorem dX7_openRow_28 : decode cX7_openRow 28 = .ok (.lcmp, 1) := by decide +kernel
theorem dX7_openRow_29 : decode cX7_openRow 29 = .ok (.ifCond .eq 5, 3) := by decide +kernel
theorem dX7_openRow_32 : decode cX7_openRow 32 = .ok (.iload_n 2, 1) := by decide +kernel
theorem dX7_openRow_33 : decode cX7_openRow 33 = .ok (.ireturn, 1) := by decide +kernel
theorem dX7_openRow_34 : decode cX7_openRow 34 = .ok (.iinc 2 1, 3) := by decide +kernel
theorem dX7_openRow_37 : decode cX7_openRow 37 = .ok (.goto (-35), 3) := by decide +kernel
theorem dX7_openRow_40 : decode cX7_openRow 40 = .ok (.iconst (-1), 1) := by decide +kernel
theorem dX7_openRow_41 : decode cX7_openRow 41 = .ok (.ireturn, 1) := by decide +kernel
theorem dX7_makeAboveNought_0 : decode cX7_makeAboveNought 0 = .ok (.aload_n 1, 1) := by decide +kernel
theorem dX7_makeAboveNought_1 : decode cX7_makeAboveNought 1 = .ok (.iload_n 2, 1) := by decide +kernel
theorem dX7_makeAboveNought_2 : decode cX7_makeAboveNought 2 = .ok (.laload, 1) := by decide +kernel
theorem dX7_makeAboveNought_3 : decode cX7_makeAboveNought 3 = .ok (.lconst 0, 1) := by decide +kernel
theorem dX7_makeAboveNought_4 : decode cX7_makeAboveNought 4 = .ok (.lcmp, 1) := by decide +kernel
theorem dX7_makeAboveNought_5 : decode cX7_makeAboveNought 5 = .ok (.ifCond .le 4, 3) := by decide +kernel
theorem dX7_makeAboveNought_8 : decode cX7_makeAboveNought 8 = .ok (.return_, 1) := by decide +kernel
theorem dX7_makeAboveNought_9 : decode cX7_makeAboveNought 9 = .ok (.iconst 0, 1) := by decide +kernel
theorem dX7_makeAboveNought_10 : decode cX7_makeAboveNought 10 = .ok (.istore_n 3, 1) := by decide +kernel
theorem dX7_makeAboveNought_11 : decode cX7_makeAboveNought 11 = .ok (.iload_n 3, 1) := by decide +kernel
theorem dX7_makeAboveNought_12 : decode cX7_makeAboveNought 12 = .ok (.aload_n 0, 1) := by decide +kernel
theorem dX7_makeAboveNought_13 : decode cX7_makeAboveNought 13 = .ok (.getfield 35, 3) := by decide +kernel
theorem dX7_makeAboveNought_16 : decode cX7_makeAboveNought 16 = .ok (.if_icmp .gt 16, 3) := by decide +kernel
theorem dX7_makeAboveNought_19 : decode cX7_makeAboveNought 19 = .ok (.aload_n 1, 1) := by decide +kernel
theorem dX7_makeAboveNought_20 : decode cX7_makeAboveNought 20 = .ok (.iload_n 3, 1) := by decide +kernel
theorem dX7_makeAboveNought_21 : decode cX7_makeAboveNought 21 = .ok (.aload_n 1, 1) := by decide +kernel
theorem dX7_makeAboveNought_22 : decode cX7_makeAboveNought 22 = .ok (.iload_n 3, 1) := by decide +kernel
theorem dX7_makeAboveNought_23 : decode cX7_makeAboveNought 23 = .ok (.laload, 1) := by decide +kernel
theorem dX7_makeAboveNought_24 : decode cX7_makeAboveNought 24 = .ok (.lneg, 1) := by decide +kernel
theorem dX7_makeAboveNought_25 : decode cX7_makeAboveNought 25 = .ok (.lastore, 1) := by decide +kernel
theorem dX7_makeAboveNought_26 : decode cX7_makeAboveNought 26 = .ok (.iinc 3 1, 3) := by decide +kernel
theorem dX7_makeAboveNought_29 : decode cX7_makeAboveNought 29 = .ok (.goto (-18), 3) := by decide +kernel
theorem dX7_makeAboveNought_32 : decode cX7_makeAboveNought 32 = .ok (.return_, 1) := by decide +kernel
theorem dX7_clearColumn_0 : decode cX7_clearColumn 0 = .ok (.iconst 0, 1) := by decide +kernel
theorem dX7_clearColumn_1 : decode cX7_clearColumn 1 = .ok (.istore_n 3, 1) := by decide +kernel
theorem dX7_clearColumn_2 : decode cX7_clearColumn 2 = .ok (.iload_n 3, 1) := by decide +kernel
theorem dX7_clearColumn_3 : decode cX7_clearColumn 3 = .ok (.aload_n 0, 1) := by decide +kernel
theorem dX7_clearColumn_4 : decode cX7_clearColumn 4 = .ok (.getfield 31, 3) := by decide +kernel
theorem dX7_clearColumn_7 : decode cX7_clearColumn 7 = .ok (.if_icmp .ge 54, 3) := by decide +kernel
theorem dX7_clearColumn_10 : decode cX7_clearColumn 10 = .ok (.iload_n 3, 1) := by decide +kernel
theorem dX7_clearColumn_11 : decode cX7_clearColumn 11 = .ok (.iload_n 1, 1) := by decide +kernel
theorem dX7_clearColumn_12 : decode cX7_clearColumn 12 = .ok (.if_icmp .eq 43, 3) := by decide +kernel
theorem dX7_clearColumn_15 : decode cX7_clearColumn 15 = .ok (.aload_n 0, 1) := by decide +kernel
theorem dX7_clearColumn_16 : decode cX7_clearColumn 16 = .ok (.getfield 11, 3) := by decide +kernel
theorem dX7_clearColumn_19 : decode cX7_clearColumn 19 = .ok (.iload_n 3, 1) := by decide +kernel
theorem dX7_clearColumn_20 : decode cX7_clearColumn 20 = .ok (.aaload, 1) := by decide +kernel
theorem dX7_clearColumn_21 : decode cX7_clearColumn 21 = .ok (.iload_n 2, 1) := by decide +kernel
theorem dX7_clearColumn_22 : decode cX7_clearColumn 22 = .ok (.laload, 1) := by decide +kernel
theorem dX7_clearColumn_23 : decode cX7_clearColumn 23 = .ok (.lconst 0, 1) := by decide +kernel
theorem dX7_clearColumn_24 : decode cX7_clearColumn 24 = .ok (.lcmp, 1) := by decide +kernel
theorem dX7_clearColumn_25 : decode cX7_clearColumn 25 = .ok (.ifCond .eq 30, 3) := by decide +kernel
theorem dX7_clearColumn_28 : decode cX7_clearColumn 28 = .ok (.aload_n 0, 1) := by decide +kernel
theorem dX7_clearColumn_29 : decode cX7_clearColumn 29 = .ok (.aload_n 0, 1) := by decide +kernel
theorem dX7_clearColumn_30 : decode cX7_clearColumn 30 = .ok (.getfield 11, 3) := by decide +kernel
theorem dX7_clearColumn_33 : decode cX7_clearColumn 33 = .ok (.iload_n 3, 1) := by decide +kernel
theorem dX7_clearColumn_34 : decode cX7_clearColumn 34 = .ok (.aaload, 1) := by decide +kernel
theorem dX7_clearColumn_35 : decode cX7_clearColumn 35 = .ok (.aload_n 0, 1) := by decide +kernel
theorem dX7_clearColumn_36 : decode cX7_clearColumn 36 = .ok (.getfield 11, 3) := by decide +kernel
theorem dX7_clearColumn_39 : decode cX7_clearColumn 39 = .ok (.iload_n 1, 1) := by decide +kernel
theorem dX7_clearColumn_40 : decode cX7_clearColumn 40 = .ok (.aaload, 1) := by decide +kernel
theorem dX7_clearColumn_41 : decode cX7_clearColumn 41 = .ok (.iload_n 2, 1) := by decide +kernel
theorem dX7_clearColumn_42 : decode cX7_clearColumn 42 = .ok (.invokevirtual 101, 3) := by decide +kernel
theorem dX7_clearColumn_45 : decode cX7_clearColumn 45 = .ok (.aload_n 0, 1) := by decide +kernel
theorem dX7_clearColumn_46 : decode cX7_clearColumn 46 = .ok (.aload_n 0, 1) := by decide +kernel
theorem dX7_clearColumn_47 : decode cX7_clearColumn 47 = .ok (.getfield 11, 3) := by decide +kernel
theorem dX7_clearColumn_50 : decode cX7_clearColumn 50 = .ok (.iload_n 3, 1) := by decide +kernel
theorem dX7_clearColumn_51 : decode cX7_clearColumn 51 = .ok (.aaload, 1) := by decide +kernel
theorem dX7_clearColumn_52 : decode cX7_clearColumn 52 = .ok (.invokevirtual 105, 3) := by decide +kernel
theorem dX7_clearColumn_55 : decode cX7_clearColumn 55 = .ok (.iinc 3 1, 3) := by decide +kernel
theorem dX7_clearColumn_58 : decode cX7_clearColumn 58 = .ok (.goto (-56), 3) := by decide +kernel
theorem dX7_clearColumn_61 : decode cX7_clearColumn 61 = .ok (.return_, 1) := by decide +kernel
theorem dX7_takeOff_0 : decode cX7_takeOff 0 = .ok (.aload_n 2, 1) := by decide +kernel
theorem dX7_takeOff_1 : decode cX7_takeOff 1 = .ok (.iload_n 3, 1) := by decide +kernel
theorem dX7_takeOff_2 : decode cX7_takeOff 2 = .ok (.laload, 1) := by decide +kernel
theorem dX7_takeOff_3 : decode cX7_takeOff 3 = .ok (.aload_n 1, 1) := by decide +kernel
theorem dX7_takeOff_4 : decode cX7_takeOff 4 = .ok (.iload_n 3, 1) := by decide +kernel
theorem dX7_takeOff_5 : decode cX7_takeOff 5 = .ok (.laload, 1) := by decide +kernel
theorem dX7_takeOff_6 : decode cX7_takeOff 6 = .ok (.invokestatic 88, 3) := by decide +kernel
theorem dX7_takeOff_9 : decode cX7_takeOff 9 = .ok (.lstore 4, 2) := by decide +kernel
theorem dX7_takeOff_11 : decode cX7_takeOff 11 = .ok (.lload 4, 2) := by decide +kernel
theorem dX7_takeOff_13 : decode cX7_takeOff 13 = .ok (.lconst 0, 1) := by decide +kernel
theorem dX7_takeOff_14 : decode cX7_takeOff 14 = .ok (.lcmp, 1) := by decide +kernel
theorem dX7_takeOff_15 : decode cX7_takeOff 15 = .ok (.ifCond .ne 4, 3) := by decide +kernel
theorem dX7_takeOff_18 : decode cX7_takeOff 18 = .ok (.return_, 1) := by decide +kernel
theorem dX7_takeOff_19 : decode cX7_takeOff 19 = .ok (.aload_n 2, 1) := by decide +kernel
theorem dX7_takeOff_20 : decode cX7_takeOff 20 = .ok (.iload_n 3, 1) := by decide +kernel
theorem dX7_takeOff_21 : decode cX7_takeOff 21 = .ok (.laload, 1) := by decide +kernel
theorem dX7_takeOff_22 : decode cX7_takeOff 22 = .ok (.lload 4, 2) := by decide +kernel
theorem dX7_takeOff_24 : decode cX7_takeOff 24 = .ok (.ldiv, 1) := by decide +kernel
theorem dX7_takeOff_25 : decode cX7_takeOff 25 = .ok (.lstore 6, 2) := by decide +kernel
theorem dX7_takeOff_27 : decode cX7_takeOff 27 = .ok (.aload_n 1, 1) := by decide +kernel
theorem dX7_takeOff_28 : decode cX7_takeOff 28 = .ok (.iload_n 3, 1) := by decide +kernel
theorem dX7_takeOff_29 : decode cX7_takeOff 29 = .ok (.laload, 1) := by decide +kernel
theorem dX7_takeOff_30 : decode cX7_takeOff 30 = .ok (.lload 4, 2) := by decide +kernel
theorem dX7_takeOff_32 : decode cX7_takeOff 32 = .ok (.ldiv, 1) := by decide +kernel
theorem dX7_takeOff_33 : decode cX7_takeOff 33 = .ok (.lstore 8, 2) := by decide +kernel
theorem dX7_takeOff_35 : decode cX7_takeOff 35 = .ok (.iconst 0, 1) := by decide +kernel
theorem dX7_takeOff_36 : decode cX7_takeOff 36 = .ok (.istore 10, 2) := by decide +kernel
theorem dX7_takeOff_38 : decode cX7_takeOff 38 = .ok (.iload 10, 2) := by decide +kernel
theorem dX7_takeOff_40 : decode cX7_takeOff 40 = .ok (.aload_n 0, 1) := by decide +kernel
theorem dX7_takeOff_41 : decode cX7_takeOff 41 = .ok (.getfield 35, 3) := by decide +kernel
theorem dX7_takeOff_44 : decode cX7_takeOff 44 = .ok (.if_icmp .gt 28, 3) := by decide +kernel
theorem dX7_takeOff_47 : decode cX7_takeOff 47 = .ok (.aload_n 1, 1) := by decide +kernel
theorem dX7_takeOff_48 : decode cX7_takeOff 48 = .ok (.iload 10, 2) := by decide +kernel
theorem dX7_takeOff_50 : decode cX7_takeOff 50 = .ok (.lload 6, 2) := by decide +kernel
theorem dX7_takeOff_52 : decode cX7_takeOff 52 = .ok (.aload_n 1, 1) := by decide +kernel
theorem dX7_takeOff_53 : decode cX7_takeOff 53 = .ok (.iload 10, 2) := by decide +kernel
theorem dX7_takeOff_55 : decode cX7_takeOff 55 = .ok (.laload, 1) := by decide +kernel
theorem dX7_takeOff_56 : decode cX7_takeOff 56 = .ok (.lmul, 1) := by decide +kernel
theorem dX7_takeOff_57 : decode cX7_takeOff 57 = .ok (.lload 8, 2) := by decide +kernel
theorem dX7_takeOff_59 : decode cX7_takeOff 59 = .ok (.aload_n 2, 1) := by decide +kernel
theorem dX7_takeOff_60 : decode cX7_takeOff 60 = .ok (.iload 10, 2) := by decide +kernel
theorem dX7_takeOff_62 : decode cX7_takeOff 62 = .ok (.laload, 1) := by decide +kernel
theorem dX7_takeOff_63 : decode cX7_takeOff 63 = .ok (.lmul, 1) := by decide +kernel
theorem dX7_takeOff_64 : decode cX7_takeOff 64 = .ok (.lsub, 1) := by decide +kernel
theorem dX7_takeOff_65 : decode cX7_takeOff 65 = .ok (.lastore, 1) := by decide +kernel
theorem dX7_takeOff_66 : decode cX7_takeOff 66 = .ok (.iinc 10 1, 3) := by decide +kernel
theorem dX7_takeOff_69 : decode cX7_takeOff 69 = .ok (.goto (-31), 3) := by decide +kernel
theorem dX7_takeOff_72 : decode cX7_takeOff 72 = .ok (.return_, 1) := by decide +kernel
theorem dX7_shrink_0 : decode cX7_shrink 0 = .ok (.lconst 0, 1) := by decide +kernel
theorem dX7_shrink_1 : decode cX7_shrink 1 = .ok (.lstore_n 2, 1) := by decide +kernel
theorem dX7_shrink_2 : decode cX7_shrink 2 = .ok (.iconst 0, 1) := by decide +kernel
theorem dX7_shrink_3 : decode cX7_shrink 3 = .ok (.istore 4, 2) := by decide +kernel
theorem dX7_shrink_5 : decode cX7_shrink 5 = .ok (.iload 4, 2) := by decide +kernel
theorem dX7_shrink_7 : decode cX7_shrink 7 = .ok (.aload_n 0, 1) := by decide +kernel
theorem dX7_shrink_8 : decode cX7_shrink 8 = .ok (.getfield 35, 3) := by decide +kernel
theorem dX7_shrink_11 : decode cX7_shrink 11 = .ok (.if_icmp .gt 24, 3) := by decide +kernel
theorem dX7_shrink_14 : decode cX7_shrink 14 = .ok (.lload_n 2, 1) := by decide +kernel
theorem dX7_shrink_15 : decode cX7_shrink 15 = .ok (.lconst 1, 1) := by decide +kernel
theorem dX7_shrink_16 : decode cX7_shrink 16 = .ok (.lcmp, 1) := by decide +kernel
theorem dX7_shrink_17 : decode cX7_shrink 17 = .ok (.ifCond .eq 18, 3) := by decide +kernel
theorem dX7_shrink_20 : decode cX7_shrink 20 = .ok (.lload_n 2, 1) := by decide +kernel
theorem dX7_shrink_21 : decode cX7_shrink 21 = .ok (.aload_n 1, 1) := by decide +kernel
theorem dX7_shrink_22 : decode cX7_shrink 22 = .ok (.iload 4, 2) := by decide +kernel
theorem dX7_shrink_24 : decode cX7_shrink 24 = .ok (.laload, 1) := by decide +kernel
theorem dX7_shrink_25 : decode cX7_shrink 25 = .ok (.invokestatic 88, 3) := by decide +kernel
theorem dX7_shrink_28 : decode cX7_shrink 28 = .ok (.lstore_n 2, 1) := by decide +kernel
theorem dX7_shrink_29 : decode cX7_shrink 29 = .ok (.iinc 4 1, 3) := by decide +kernel
theorem dX7_shrink_32 : decode cX7_shrink 32 = .ok (.goto (-27), 3) := by decide +kernel
theorem dX7_shrink_35 : decode cX7_shrink 35 = .ok (.lload_n 2, 1) := by decide +kernel
theorem dX7_shrink_36 : decode cX7_shrink 36 = .ok (.ldc2_w 109, 3) := by decide +kernel
theorem dX7_shrink_39 : decode cX7_shrink 39 = .ok (.lcmp, 1) := by decide +kernel
theorem dX7_shrink_40 : decode cX7_shrink 40 = .ok (.ifCond .ge 4, 3) := by decide +kernel
theorem dX7_shrink_43 : decode cX7_shrink 43 = .ok (.return_, 1) := by decide +kernel
theorem dX7_shrink_44 : decode cX7_shrink 44 = .ok (.iconst 0, 1) := by decide +kernel
theorem dX7_shrink_45 : decode cX7_shrink 45 = .ok (.istore 4, 2) := by decide +kernel
theorem dX7_shrink_47 : decode cX7_shrink 47 = .ok (.iload 4, 2) := by decide +kernel
theorem dX7_shrink_49 : decode cX7_shrink 49 = .ok (.aload_n 0, 1) := by decide +kernel
theorem dX7_shrink_50 : decode cX7_shrink 50 = .ok (.getfield 35, 3) := by decide +kernel
theorem dX7_shrink_53 : decode cX7_shrink 53 = .ok (.if_icmp .gt 17, 3) := by decide +kernel
theorem dX7_shrink_56 : decode cX7_shrink 56 = .ok (.aload_n 1, 1) := by decide +kernel
theorem dX7_shrink_57 : decode cX7_shrink 57 = .ok (.iload 4, 2) := by decide +kernel
theorem dX7_shrink_59 : decode cX7_shrink 59 = .ok (.dup2, 1) := by decide +kernel
theorem dX7_shrink_60 : decode cX7_shrink 60 = .ok (.laload, 1) := by decide +kernel
theorem dX7_shrink_61 : decode cX7_shrink 61 = .ok (.lload_n 2, 1) := by decide +kernel
theorem dX7_shrink_62 : decode cX7_shrink 62 = .ok (.ldiv, 1) := by decide +kernel
theorem dX7_shrink_63 : decode cX7_shrink 63 = .ok (.lastore, 1) := by decide +kernel
theorem dX7_shrink_64 : decode cX7_shrink 64 = .ok (.iinc 4 1, 3) := by decide +kernel
theorem dX7_shrink_67 : decode cX7_shrink 67 = .ok (.goto (-20), 3) := by decide +kernel
theorem dX7_shrink_70 : decode cX7_shrink 70 = .ok (.return_, 1) := by decide +kernel
theorem dX7_scaleOf_0 : decode cX7_scaleOf 0 = .ok (.lconst 1, 1) := by decide +kernel
theorem dX7_scaleOf_1 : decode cX7_scaleOf 1 = .ok (.lstore_n 2, 1) := by decide +kernel
theorem dX7_scaleOf_2 : decode cX7_scaleOf 2 = .ok (.iconst 0, 1) := by decide +kernel
theorem dX7_scaleOf_3 : decode cX7_scaleOf 3 = .ok (.istore 4, 2) := by decide +kernel
theorem dX7_scaleOf_5 : decode cX7_scaleOf 5 = .ok (.iload 4, 2) := by decide +kernel
theorem dX7_scaleOf_7 : decode cX7_scaleOf 7 = .ok (.aload_n 0, 1) := by decide +kernel
theorem dX7_scaleOf_8 : decode cX7_scaleOf 8 = .ok (.getfield 35, 3) := by decide +kernel
theorem dX7_scaleOf_11 : decode cX7_scaleOf 11 = .ok (.if_icmp .ge 49, 3) := by decide +kernel
theorem dX7_scaleOf_14 : decode cX7_scaleOf 14 = .ok (.aload_n 0, 1) := by decide +kernel
theorem dX7_scaleOf_15 : decode cX7_scaleOf 15 = .ok (.iload 4, 2) := by decide +kernel
theorem dX7_scaleOf_17 : decode cX7_scaleOf 17 = .ok (.invokevirtual 84, 3) := by decide +kernel
theorem dX7_scaleOf_20 : decode cX7_scaleOf 20 = .ok (.ifCond .ne 34, 3) := by decide +kernel
theorem dX7_scaleOf_23 : decode cX7_scaleOf 23 = .ok (.aload_n 0, 1) := by decide +kernel
theorem dX7_scaleOf_24 : decode cX7_scaleOf 24 = .ok (.getfield 11, 3) := by decide +kernel
theorem dX7_scaleOf_27 : decode cX7_scaleOf 27 = .ok (.aload_n 0, 1) := by decide +kernel
theorem dX7_scaleOf_28 : decode cX7_scaleOf 28 = .ok (.getfield 20, 3) := by decide +kernel
theorem dX7_scaleOf_31 : decode cX7_scaleOf 31 = .ok (.iload 4, 2) := by decide +kernel
theorem dX7_scaleOf_33 : decode cX7_scaleOf 33 = .ok (.iaload, 1) := by decide +kernel
theorem dX7_scaleOf_34 : decode cX7_scaleOf 34 = .ok (.aaload, 1) := by decide +kernel
theorem dX7_scaleOf_35 : decode cX7_scaleOf 35 = .ok (.astore 5, 2) := by decide +kernel
theorem dX7_scaleOf_37 : decode cX7_scaleOf 37 = .ok (.lload_n 2, 1) := by decide +kernel
theorem dX7_scaleOf_38 : decode cX7_scaleOf 38 = .ok (.aload 5, 2) := by decide +kernel
theorem dX7_scaleOf_40 : decode cX7_scaleOf 40 = .ok (.iload_n 1, 1) := by decide +kernel
theorem dX7_scaleOf_41 : decode cX7_scaleOf 41 = .ok (.laload, 1) := by decide +kernel
theorem dX7_scaleOf_42 : decode cX7_scaleOf 42 = .ok (.aload 5, 2) := by decide +kernel
theorem dX7_scaleOf_44 : decode cX7_scaleOf 44 = .ok (.iload 4, 2) := by decide +kernel
theorem dX7_scaleOf_46 : decode cX7_scaleOf 46 = .ok (.laload, 1) := by decide +kernel
theorem dX7_scaleOf_47 : decode cX7_scaleOf 47 = .ok (.invokestatic 92, 3) := by decide +kernel
theorem dX7_scaleOf_50 : decode cX7_scaleOf 50 = .ok (.invokestatic 111, 3) := by decide +kernel
theorem dX7_scaleOf_53 : decode cX7_scaleOf 53 = .ok (.lstore_n 2, 1) := by decide +kernel
theorem dX7_scaleOf_54 : decode cX7_scaleOf 54 = .ok (.iinc 4 1, 3) := by decide +kernel
theorem dX7_scaleOf_57 : decode cX7_scaleOf 57 = .ok (.goto (-52), 3) := by decide +kernel
theorem dX7_scaleOf_60 : decode cX7_scaleOf 60 = .ok (.lload_n 2, 1) := by decide +kernel
theorem dX7_scaleOf_61 : decode cX7_scaleOf 61 = .ok (.lreturn, 1) := by decide +kernel
theorem dX7_lowestBelow_0 : decode cX7_lowestBelow 0 = .ok (.lload_n 0, 1) := by decide +kernel
theorem dX7_lowestBelow_1 : decode cX7_lowestBelow 1 = .ok (.lload_n 2, 1) := by decide +kernel
theorem dX7_lowestBelow_2 : decode cX7_lowestBelow 2 = .ok (.invokestatic 88, 3) := by decide +kernel
theorem dX7_lowestBelow_5 : decode cX7_lowestBelow 5 = .ok (.lstore 4, 2) := by decide +kernel
theorem dX7_lowestBelow_7 : decode cX7_lowestBelow 7 = .ok (.lload 4, 2) := by decide +kernel
theorem dX7_lowestBelow_9 : decode cX7_lowestBelow 9 = .ok (.lconst 0, 1) := by decide +kernel
theorem dX7_lowestBelow_10 : decode cX7_lowestBelow 10 = .ok (.lcmp, 1) := by decide +kernel
theorem dX7_lowestBelow_11 : decode cX7_lowestBelow 11 = .ok (.ifCond .ne 7, 3) := by decide +kernel
theorem dX7_lowestBelow_14 : decode cX7_lowestBelow 14 = .ok (.lconst 1, 1) := by decide +kernel
theorem dX7_lowestBelow_15 : decode cX7_lowestBelow 15 = .ok (.goto 7, 3) := by decide +kernel
theorem dX7_lowestBelow_18 : decode cX7_lowestBelow 18 = .ok (.lload_n 2, 1) := by decide +kernel
theorem dX7_lowestBelow_19 : decode cX7_lowestBelow 19 = .ok (.lload 4, 2) := by decide +kernel
theorem dX7_lowestBelow_21 : decode cX7_lowestBelow 21 = .ok (.ldiv, 1) := by decide +kernel
theorem dX7_lowestBelow_22 : decode cX7_lowestBelow 22 = .ok (.lreturn, 1) := by decide +kernel
theorem dX7_leastMultiple_0 : decode cX7_leastMultiple 0 = .ok (.lload_n 0, 1) := by decide +kernel
theorem dX7_leastMultiple_1 : decode cX7_leastMultiple 1 = .ok (.lload_n 2, 1) := by decide +kernel
theorem dX7_leastMultiple_2 : decode cX7_leastMultiple 2 = .ok (.invokestatic 88, 3) := by decide +kernel
theorem dX7_leastMultiple_5 : decode cX7_leastMultiple 5 = .ok (.lstore 4, 2) := by decide +kernel
theorem dX7_leastMultiple_7 : decode cX7_leastMultiple 7 = .ok (.lload 4, 2) := by decide +kernel
theorem dX7_leastMultiple_9 : decode cX7_leastMultiple 9 = .ok (.lconst 0, 1) := by decide +kernel
theorem dX7_leastMultiple_10 : decode cX7_leastMultiple 10 = .ok (.lcmp, 1) := by decide +kernel
theorem dX7_leastMultiple_11 : decode cX7_leastMultiple 11 = .ok (.ifCond .ne 7, 3) := by decide +kernel
theorem dX7_leastMultiple_14 : decode cX7_leastMultiple 14 = .ok (.lconst 0, 1) := by decide +kernel
theorem dX7_leastMultiple_15 : decode cX7_leastMultiple 15 = .ok (.goto 9, 3) := by decide +kernel
theorem dX7_leastMultiple_18 : decode cX7_leastMultiple 18 = .ok (.lload_n 0, 1) := by decide +kernel
theorem dX7_leastMultiple_19 : decode cX7_leastMultiple 19 = .ok (.lload 4, 2) := by decide +kernel
theorem dX7_leastMultiple_21 : decode cX7_leastMultiple 21 = .ok (.ldiv, 1) := by decide +kernel
theorem dX7_leastMultiple_22 : decode cX7_leastMultiple 22 = .ok (.lload_n 2, 1) := by decide +kernel
theorem dX7_leastMultiple_23 : decode cX7_leastMultiple 23 = .ok (.lmul, 1) := by decide +kernel
theorem dX7_leastMultiple_24 : decode cX7_leastMultiple 24 = .ok (.lreturn, 1) := by decide +kernel
theorem dX7_commonDivisor_0 : decode cX7_commonDivisor 0 = .ok (.lload_n 0, 1) := by decide +kernel
theorem dX7_commonDivisor_1 : decode cX7_commonDivisor 1 = .ok (.invokestatic 114, 3) := by decide +kernel
theorem dX7_commonDivisor_4 : decode cX7_commonDivisor 4 = .ok (.lstore 4, 2) := by decide +kernel
theorem dX7_commonDivisor_6 : decode cX7_commonDivisor 6 = .ok (.lload_n 2, 1) := by decide +kernel
theorem dX7_commonDivisor_7 : decode cX7_commonDivisor 7 = .ok (.invokestatic 114, 3) := by decide +kernel
theorem dX7_commonDivisor_10 : decode cX7_commonDivisor 10 = .ok (.lstore 6, 2) := by decide +kernel
theorem dX7_commonDivisor_12 : decode cX7_commonDivisor 12 = .ok (.iconst 0, 1) := by decide +kernel
theorem dX7_commonDivisor_13 : decode cX7_commonDivisor 13 = .ok (.istore 8, 2) := by decide +kernel
theorem dX7_commonDivisor_15 : decode cX7_commonDivisor 15 = .ok (.iload 8, 2) := by decide +kernel
theorem dX7_commonDivisor_17 : decode cX7_commonDivisor 17 = .ok (.sipush 1000, 3) := by decide +kernel
theorem dX7_commonDivisor_20 : decode cX7_commonDivisor 20 = .ok (.if_icmp .ge 31, 3) := by decide +kernel
theorem dX7_commonDivisor_23 : decode cX7_commonDivisor 23 = .ok (.lload 6, 2) := by decide +kernel
theorem dX7_commonDivisor_25 : decode cX7_commonDivisor 25 = .ok (.lconst 0, 1) := by decide +kernel
theorem dX7_commonDivisor_26 : decode cX7_commonDivisor 26 = .ok (.lcmp, 1) := by decide +kernel
theorem dX7_commonDivisor_27 : decode cX7_commonDivisor 27 = .ok (.ifCond .eq 24, 3) := by decide +kernel
theorem dX7_commonDivisor_30 : decode cX7_commonDivisor 30 = .ok (.lload 4, 2) := by decide +kernel
theorem dX7_commonDivisor_32 : decode cX7_commonDivisor 32 = .ok (.lload 6, 2) := by decide +kernel
theorem dX7_commonDivisor_34 : decode cX7_commonDivisor 34 = .ok (.lrem, 1) := by decide +kernel
theorem dX7_commonDivisor_35 : decode cX7_commonDivisor 35 = .ok (.lstore 9, 2) := by decide +kernel
theorem dX7_commonDivisor_37 : decode cX7_commonDivisor 37 = .ok (.lload 6, 2) := by decide +kernel
theorem dX7_commonDivisor_39 : decode cX7_commonDivisor 39 = .ok (.lstore 4, 2) := by decide +kernel
theorem dX7_commonDivisor_41 : decode cX7_commonDivisor 41 = .ok (.lload 9, 2) := by decide +kernel
theorem dX7_commonDivisor_43 : decode cX7_commonDivisor 43 = .ok (.lstore 6, 2) := by decide +kernel
theorem dX7_commonDivisor_45 : decode cX7_commonDivisor 45 = .ok (.iinc 8 1, 3) := by decide +kernel
theorem dX7_commonDivisor_48 : decode cX7_commonDivisor 48 = .ok (.goto (-33), 3) := by decide +kernel
theorem dX7_commonDivisor_51 : decode cX7_commonDivisor 51 = .ok (.lload 4, 2) := by decide +kernel
theorem dX7_commonDivisor_53 : decode cX7_commonDivisor 53 = .ok (.lreturn, 1) := by decide +kernel
theorem dX9_init_0 : decode cX9_init 0 = .ok (.aload_n 0, 1) := by decide +kernel
theorem dX9_init_1 : decode cX9_init 1 = .ok (.invokespecial 3, 3) := by decide +kernel
theorem dX9_init_4 : decode cX9_init 4 = .ok (.aload_n 0, 1) := by decide +kernel
theorem dX9_init_5 : decode cX9_init 5 = .ok (.bipush 6, 2) := by decide +kernel
theorem dX9_init_7 : decode cX9_init 7 = .ok (.anewarray 11, 3) := by decide +kernel
theorem dX9_init_10 : decode cX9_init 10 = .ok (.putfield 13, 3) := by decide +kernel
theorem dX9_init_13 : decode cX9_init 13 = .ok (.aload_n 0, 1) := by decide +kernel
theorem dX9_init_14 : decode cX9_init 14 = .ok (.iconst 0, 1) := by decide +kernel
theorem dX9_init_15 : decode cX9_init 15 = .ok (.putfield 17, 3) := by decide +kernel
theorem dX9_init_18 : decode cX9_init 18 = .ok (.aload_n 0, 1) := by decide +kernel
theorem dX9_init_19 : decode cX9_init 19 = .ok (.aload_n 1, 1) := by decide +kernel
theorem dX9_init_20 : decode cX9_init 20 = .ok (.putfield 21, 3) := by decide +kernel
theorem dX9_init_23 : decode cX9_init 23 = .ok (.aload_n 0, 1) := by decide +kernel
theorem dX9_init_24 : decode cX9_init 24 = .ok (.aload_n 2, 1) := by decide +kernel
theorem dX9_init_25 : decode cX9_init 25 = .ok (.putfield 25, 3) := by decide +kernel
theorem dX9_init_28 : decode cX9_init 28 = .ok (.return_, 1) := by decide +kernel
theorem dX9_latestStatus_0 : decode cX9_latestStatus 0 = .ok (.aload_n 0, 1) := by decide +kernel
theorem dX9_latestStatus_1 : decode cX9_latestStatus 1 = .ok (.getfield 17, 3) := by decide +kernel
theorem dX9_latestStatus_4 : decode cX9_latestStatus 4 = .ok (.ireturn, 1) := by decide +kernel
theorem dX9_fill_0 : decode cX9_fill 0 = .ok (.iload_n 1, 1) := by decide +kernel
theorem dX9_fill_1 : decode cX9_fill 1 = .ok (.invokestatic 29, 3) := by decide +kernel
theorem dX9_fill_4 : decode cX9_fill 4 = .ok (.ifCond .eq 12, 3) := by decide +kernel
theorem dX9_fill_7 : decode cX9_fill 7 = .ok (.aload_n 0, 1) := by decide +kernel
theorem dX9_fill_8 : decode cX9_fill 8 = .ok (.iload_n 2, 1) := by decide +kernel
theorem dX9_fill_9 : decode cX9_fill 9 = .ok (.iload_n 3, 1) := by decide +kernel
theorem dX9_fill_10 : decode cX9_fill 10 = .ok (.invokevirtual 33, 3) := by decide +kernel
theorem dX9_fill_13 : decode cX9_fill 13 = .ok (.ifCond .ne 9, 3) := by decide +kernel
theorem dX9_fill_16 : decode cX9_fill 16 = .ok (.aload_n 0, 1) := by decide +kernel
theorem dX9_fill_17 : decode cX9_fill 17 = .ok (.iconst 1, 1) := by decide +kernel
theorem dX9_fill_18 : decode cX9_fill 18 = .ok (.invokevirtual 37, 3) := by decide +kernel
theorem dX9_fill_21 : decode cX9_fill 21 = .ok (.ireturn, 1) := by decide +kernel
theorem dX9_fill_22 : decode cX9_fill 22 = .ok (.aload_n 0, 1) := by decide +kernel
theorem dX9_fill_23 : decode cX9_fill 23 = .ok (.getfield 13, 3) := by decide +kernel
theorem dX9_fill_26 : decode cX9_fill 26 = .ok (.iload_n 1, 1) := by decide +kernel
theorem dX9_fill_27 : decode cX9_fill 27 = .ok (.aload_n 0, 1) := by decide +kernel
theorem dX9_fill_28 : decode cX9_fill 28 = .ok (.iload_n 2, 1) := by decide +kernel
theorem dX9_fill_29 : decode cX9_fill 29 = .ok (.iload_n 3, 1) := by decide +kernel
theorem dX9_fill_30 : decode cX9_fill 30 = .ok (.invokevirtual 41, 3) := by decide +kernel
theorem dX9_fill_33 : decode cX9_fill 33 = .ok (.aastore, 1) := by decide +kernel
theorem dX9_fill_34 : decode cX9_fill 34 = .ok (.aload_n 0, 1) := by decide +kernel
theorem dX9_fill_35 : decode cX9_fill 35 = .ok (.iconst 1, 1) := by decide +kernel
theorem dX9_fill_36 : decode cX9_fill 36 = .ok (.invokevirtual 45, 3) := by decide +kernel
theorem dX9_fill_39 : decode cX9_fill 39 = .ok (.ireturn, 1) := by decide +kernel
theorem dX9_work_0 : decode cX9_work 0 = .ok (.iload_n 1, 1) := by decide +kernel
theorem dX9_work_1 : decode cX9_work 1 = .ok (.invokestatic 29, 3) := by decide +kernel
theorem dX9_work_4 : decode cX9_work 4 = .ok (.ifCond .eq 15, 3) := by decide +kernel
theorem dX9_work_7 : decode cX9_work 7 = .ok (.iload_n 3, 1) := by decide +kernel
theorem dX9_work_8 : decode cX9_work 8 = .ok (.bipush (-100), 2) := by decide +kernel
theorem dX9_work_10 : decode cX9_work 10 = .ok (.if_icmp .lt 9, 3) := by decide +kernel
theorem dX9_work_13 : decode cX9_work 13 = .ok (.iload_n 3, 1) := by decide +kernel
theorem dX9_work_14 : decode cX9_work 14 = .ok (.bipush 100, 2) := by decide +kernel
theorem dX9_work_16 : decode cX9_work 16 = .ok (.if_icmp .le 9, 3) := by decide +kernel
theorem dX9_work_19 : decode cX9_work 19 = .ok (.aload_n 0, 1) := by decide +kernel
theorem dX9_work_20 : decode cX9_work 20 = .ok (.iconst 1, 1) := by decide +kernel
theorem dX9_work_21 : decode cX9_work 21 = .ok (.invokevirtual 37, 3) := by decide +kernel
theorem dX9_work_24 : decode cX9_work 24 = .ok (.ireturn, 1) := by decide +kernel
theorem dX9_work_25 : decode cX9_work 25 = .ok (.aload_n 0, 1) := by decide +kernel
theorem dX9_work_26 : decode cX9_work 26 = .ok (.getfield 13, 3) := by decide +kernel
theorem dX9_work_29 : decode cX9_work 29 = .ok (.iload_n 1, 1) := by decide +kernel
theorem dX9_work_30 : decode cX9_work 30 = .ok (.aaload, 1) := by decide +kernel
theorem dX9_work_31 : decode cX9_work 31 = .ok (.astore 4, 2) := by decide +kernel
theorem dX9_work_33 : decode cX9_work 33 = .ok (.iload_n 2, 1) := by decide +kernel
theorem dX9_work_34 : decode cX9_work 34 = .ok (.tableswitch 152 0 8 #[50, 62, 70, 79, 88, 107, 115, 122, 145], 50) := by decide +kernel
theorem dX9_work_84 : decode cX9_work 84 = .ok (.aload_n 0, 1) := by decide +kernel
theorem dX9_work_85 : decode cX9_work 85 = .ok (.aload 4, 2) := by decide +kernel
theorem dX9_work_87 : decode cX9_work 87 = .ok (.iload_n 3, 1) := by decide +kernel
theorem dX9_work_88 : decode cX9_work 88 = .ok (.iconst 5, 1) := by decide +kernel
theorem dX9_work_89 : decode cX9_work 89 = .ok (.invokestatic 48, 3) := by decide +kernel
theorem dX9_work_92 : decode cX9_work 92 = .ok (.invokevirtual 54, 3) := by decide +kernel
theorem dX9_work_95 : decode cX9_work 95 = .ok (.ireturn, 1) := by decide +kernel
theorem dX9_work_96 : decode cX9_work 96 = .ok (.aload_n 0, 1) := by decide +kernel
theorem dX9_work_97 : decode cX9_work 97 = .ok (.aload 4, 2) := by decide +kernel
theorem dX9_work_99 : decode cX9_work 99 = .ok (.iload_n 3, 1) := by decide +kernel
theorem dX9_work_100 : decode cX9_work 100 = .ok (.invokevirtual 58, 3) := by decide +kernel
theorem dX9_work_103 : decode cX9_work 103 = .ok (.ireturn, 1) := by decide +kernel
theorem dX9_work_104 : decode cX9_work 104 = .ok (.aload_n 0, 1) := by decide +kernel
theorem dX9_work_105 : decode cX9_work 105 = .ok (.aload 4, 2) := by decide +kernel
theorem dX9_work_107 : decode cX9_work 107 = .ok (.iconst 3, 1) := by decide +kernel
theorem dX9_work_108 : decode cX9_work 108 = .ok (.iload_n 3, 1) := by decide +kernel
theorem dX9_work_109 : decode cX9_work 109 = .ok (.invokevirtual 61, 3) := by decide +kernel
theorem dX9_work_112 : decode cX9_work 112 = .ok (.ireturn, 1) := by decide +kernel
theorem dX9_work_113 : decode cX9_work 113 = .ok (.aload_n 0, 1) := by decide +kernel
theorem dX9_work_114 : decode cX9_work 114 = .ok (.aload 4, 2) := by decide +kernel
theorem dX9_work_116 : decode cX9_work 116 = .ok (.iconst 4, 1) := by decide +kernel
theorem dX9_work_117 : decode cX9_work 117 = .ok (.iload_n 3, 1) := by decide +kernel
theorem dX9_work_118 : decode cX9_work 118 = .ok (.invokevirtual 61, 3) := by decide +kernel
theorem dX9_work_121 : decode cX9_work 121 = .ok (.ireturn, 1) := by decide +kernel
theorem dX9_work_122 : decode cX9_work 122 = .ok (.iload_n 3, 1) := by decide +kernel
theorem dX9_work_123 : decode cX9_work 123 = .ok (.ifCond .ge 12, 3) := by decide +kernel
theorem dX9_work_126 : decode cX9_work 126 = .ok (.aload_n 0, 1) := by decide +kernel
theorem dX9_work_127 : decode cX9_work 127 = .ok (.bipush 13, 2) := by decide +kernel
theorem dX9_work_129 : decode cX9_work 129 = .ok (.invokevirtual 37, 3) := by decide +kernel
theorem dX9_work_132 : decode cX9_work 132 = .ok (.goto 8, 3) := by decide +kernel
theorem dX9_work_135 : decode cX9_work 135 = .ok (.aload_n 0, 1) := by decide +kernel
theorem dX9_work_136 : decode cX9_work 136 = .ok (.iload_n 3, 1) := by decide +kernel
theorem dX9_work_137 : decode cX9_work 137 = .ok (.invokevirtual 45, 3) := by decide +kernel
theorem dX9_work_140 : decode cX9_work 140 = .ok (.ireturn, 1) := by decide +kernel
theorem dX9_work_141 : decode cX9_work 141 = .ok (.aload_n 0, 1) := by decide +kernel
theorem dX9_work_142 : decode cX9_work 142 = .ok (.aload 4, 2) := by decide +kernel
theorem dX9_work_144 : decode cX9_work 144 = .ok (.iload_n 3, 1) := by decide +kernel
theorem dX9_work_145 : decode cX9_work 145 = .ok (.invokevirtual 65, 3) := by decide +kernel
theorem dX9_work_148 : decode cX9_work 148 = .ok (.ireturn, 1) := by decide +kernel
theorem dX9_work_149 : decode cX9_work 149 = .ok (.aload_n 0, 1) := by decide +kernel
theorem dX9_work_150 : decode cX9_work 150 = .ok (.aload 4, 2) := by decide +kernel
theorem dX9_work_152 : decode cX9_work 152 = .ok (.invokevirtual 68, 3) := by decide +kernel
theorem dX9_work_155 : decode cX9_work 155 = .ok (.ireturn, 1) := by decide +kernel
theorem dX9_work_156 : decode cX9_work 156 = .ok (.iload_n 3, 1) := by decide +kernel
theorem dX9_work_157 : decode cX9_work 157 = .ok (.ifCond .ne 12, 3) := by decide +kernel
theorem dX9_work_160 : decode cX9_work 160 = .ok (.aload_n 0, 1) := by decide +kernel
theorem dX9_work_161 : decode cX9_work 161 = .ok (.bipush 15, 2) := by decide +kernel
theorem dX9_work_163 : decode cX9_work 163 = .ok (.invokevirtual 37, 3) := by decide +kernel
theorem dX9_work_166 : decode cX9_work 166 = .ok (.goto 12, 3) := by decide +kernel
theorem dX9_work_169 : decode cX9_work 169 = .ok (.aload_n 0, 1) := by decide +kernel
theorem dX9_work_170 : decode cX9_work 170 = .ok (.sipush 1000, 3) := by decide +kernel
theorem dX9_work_173 : decode cX9_work 173 = .ok (.iload_n 3, 1) := by decide +kernel
theorem dX9_work_174 : decode cX9_work 174 = .ok (.idiv, 1) := by decide +kernel
theorem dX9_work_175 : decode cX9_work 175 = .ok (.invokevirtual 45, 3) := by decide +kernel
theorem dX9_work_178 : decode cX9_work 178 = .ok (.ireturn, 1) := by decide +kernel
theorem dX9_work_179 : decode cX9_work 179 = .ok (.aload_n 0, 1) := by decide +kernel
theorem dX9_work_180 : decode cX9_work 180 = .ok (.bipush 10, 2) := by decide +kernel
theorem dX9_work_182 : decode cX9_work 182 = .ok (.invokevirtual 37, 3) := by decide +kernel
theorem dX9_work_185 : decode cX9_work 185 = .ok (.ireturn, 1) := by decide +kernel
theorem dX9_work_186 : decode cX9_work 186 = .ok (.aload_n 0, 1) := by decide +kernel
theorem dX9_work_187 : decode cX9_work 187 = .ok (.iconst 1, 1) := by decide +kernel
theorem dX9_work_188 : decode cX9_work 188 = .ok (.invokevirtual 37, 3) := by decide +kernel
theorem dX9_work_191 : decode cX9_work 191 = .ok (.ireturn, 1) := by decide +kernel
theorem dX9_isTray_0 : decode cX9_isTray 0 = .ok (.iload_n 0, 1) := by decide +kernel
theorem dX9_isTray_1 : decode cX9_isTray 1 = .ok (.ifCond .lt 13, 3) := by decide +kernel
theorem dX9_isTray_4 : decode cX9_isTray 4 = .ok (.iload_n 0, 1) := by decide +kernel
theorem dX9_isTray_5 : decode cX9_isTray 5 = .ok (.bipush 6, 2) := by decide +kernel
theorem dX9_isTray_7 : decode cX9_isTray 7 = .ok (.if_icmp .ge 7, 3) := by decide +kernel
theorem dX9_isTray_10 : decode cX9_isTray 10 = .ok (.iconst 1, 1) := by decide +kernel
theorem dX9_isTray_11 : decode cX9_isTray 11 = .ok (.goto 4, 3) := by decide +kernel
theorem dX9_isTray_14 : decode cX9_isTray 14 = .ok (.iconst 0, 1) := by decide +kernel
theorem dX9_isTray_15 : decode cX9_isTray 15 = .ok (.ireturn, 1) := by decide +kernel
theorem dX9_isThing_0 : decode cX9_isThing 0 = .ok (.iload_n 1, 1) := by decide +kernel
theorem dX9_isThing_1 : decode cX9_isThing 1 = .ok (.tableswitch 59 0 4 #[35, 37, 46, 55, 57], 35) := by decide +kernel
theorem dX9_isThing_36 : decode cX9_isThing 36 = .ok (.iconst 1, 1) := by decide +kernel
theorem dX9_isThing_37 : decode cX9_isThing 37 = .ok (.ireturn, 1) := by decide +kernel
theorem dX9_isThing_38 : decode cX9_isThing 38 = .ok (.aload_n 0, 1) := by decide +kernel
theorem dX9_isThing_39 : decode cX9_isThing 39 = .ok (.getfield 21, 3) := by decide +kernel
theorem dX9_isThing_42 : decode cX9_isThing 42 = .ok (.iload_n 2, 1) := by decide +kernel
theorem dX9_isThing_43 : decode cX9_isThing 43 = .ok (.invokevirtual 72, 3) := by decide +kernel
theorem dX9_isThing_46 : decode cX9_isThing 46 = .ok (.ireturn, 1) := by decide +kernel
theorem dX9_isThing_47 : decode cX9_isThing 47 = .ok (.aload_n 0, 1) := by decide +kernel
theorem dX9_isThing_48 : decode cX9_isThing 48 = .ok (.getfield 25, 3) := by decide +kernel
theorem dX9_isThing_51 : decode cX9_isThing 51 = .ok (.iload_n 2, 1) := by decide +kernel
theorem dX9_isThing_52 : decode cX9_isThing 52 = .ok (.invokevirtual 77, 3) := by decide +kernel
theorem dX9_isThing_55 : decode cX9_isThing 55 = .ok (.ireturn, 1) := by decide +kernel
theorem dX9_isThing_56 : decode cX9_isThing 56 = .ok (.iconst 1, 1) := by decide +kernel
theorem dX9_isThing_57 : decode cX9_isThing 57 = .ok (.ireturn, 1) := by decide +kernel
theorem dX9_isThing_58 : decode cX9_isThing 58 = .ok (.iconst 1, 1) := by decide +kernel
theorem dX9_isThing_59 : decode cX9_isThing 59 = .ok (.ireturn, 1) := by decide +kernel
theorem dX9_isThing_60 : decode cX9_isThing 60 = .ok (.iconst 0, 1) := by decide +kernel
theorem dX9_isThing_61 : decode cX9_isThing 61 = .ok (.ireturn, 1) := by decide +kernel
theorem dX9_thingFor_0 : decode cX9_thingFor 0 = .ok (.iload_n 1, 1) := by decide +kernel
theorem dX9_thingFor_1 : decode cX9_thingFor 1 = .ok (.tableswitch 81 1 4 #[31, 63, 69, 75], 31) := by decide +kernel
theorem dX9_thingFor_32 : decode cX9_thingFor 32 = .ok (.aload_n 0, 1) := by decide +kernel
theorem dX9_thingFor_33 : decode cX9_thingFor 33 = .ok (.getfield 21, 3) := by decide +kernel
theorem dX9_thingFor_36 : decode cX9_thingFor 36 = .ok (.iload_n 2, 1) := by decide +kernel
theorem dX9_thingFor_37 : decode cX9_thingFor 37 = .ok (.invokevirtual 72, 3) := by decide +kernel
theorem dX9_thingFor_40 : decode cX9_thingFor 40 = .ok (.ifCond .eq 22, 3) := by decide +kernel
theorem dX9_thingFor_43 : decode cX9_thingFor 43 = .ok (.aload_n 0, 1) := by decide +kernel
theorem dX9_thingFor_44 : decode cX9_thingFor 44 = .ok (.getfield 21, 3) := by decide +kernel
theorem dX9_thingFor_47 : decode cX9_thingFor 47 = .ok (.getfield 82, 3) := by decide +kernel
theorem dX9_thingFor_50 : decode cX9_thingFor 50 = .ok (.iload_n 2, 1) := by decide +kernel
theorem dX9_thingFor_51 : decode cX9_thingFor 51 = .ok (.invokeinterface 86 2, 5) := by decide +kernel
theorem dX9_thingFor_56 : decode cX9_thingFor 56 = .ok (.checkcast 11, 3) := by decide +kernel
theorem dX9_thingFor_59 : decode cX9_thingFor 59 = .ok (.goto 4, 3) := by decide +kernel
theorem dX9_thingFor_62 : decode cX9_thingFor 62 = .ok (.aconst_null, 1) := by decide +kernel
theorem dX9_thingFor_63 : decode cX9_thingFor 63 = .ok (.areturn, 1) := by decide +kernel
theorem dX9_thingFor_64 : decode cX9_thingFor 64 = .ok (.aload_n 0, 1) := by decide +kernel
theorem dX9_thingFor_65 : decode cX9_thingFor 65 = .ok (.iload_n 2, 1) := by decide +kernel
theorem dX9_thingFor_66 : decode cX9_thingFor 66 = .ok (.invokevirtual 92, 3) := by decide +kernel
theorem dX9_thingFor_69 : decode cX9_thingFor 69 = .ok (.areturn, 1) := by decide +kernel
theorem dX9_thingFor_70 : decode cX9_thingFor 70 = .ok (.aload_n 0, 1) := by decide +kernel
theorem dX9_thingFor_71 : decode cX9_thingFor 71 = .ok (.iconst 3, 1) := by decide +kernel
theorem dX9_thingFor_72 : decode cX9_thingFor 72 = .ok (.invokevirtual 96, 3) := by decide +kernel
theorem dX9_thingFor_75 : decode cX9_thingFor 75 = .ok (.areturn, 1) := by decide +kernel
theorem dX9_thingFor_76 : decode cX9_thingFor 76 = .ok (.aload_n 0, 1) := by decide +kernel
theorem dX9_thingFor_77 : decode cX9_thingFor 77 = .ok (.iconst 4, 1) := by decide +kernel
theorem dX9_thingFor_78 : decode cX9_thingFor 78 = .ok (.invokevirtual 96, 3) := by decide +kernel
theorem dX9_thingFor_81 : decode cX9_thingFor 81 = .ok (.areturn, 1) := by decide +kernel
theorem dX9_thingFor_82 : decode cX9_thingFor 82 = .ok (.aconst_null, 1) := by decide +kernel
theorem dX9_thingFor_83 : decode cX9_thingFor 83 = .ok (.areturn, 1) := by decide +kernel
theorem dX9_motionRow_0 : decode cX9_motionRow 0 = .ok (.new 99, 3) := by decide +kernel
theorem dX9_motionRow_3 : decode cX9_motionRow 3 = .ok (.dup, 1) := by decide +kernel
theorem dX9_motionRow_4 : decode cX9_motionRow 4 = .ok (.iconst 2, 1) := by decide +kernel
theorem dX9_motionRow_5 : decode cX9_motionRow 5 = .ok (.iconst 2, 1) := by decide +kernel
theorem dX9_motionRow_6 : decode cX9_motionRow 6 = .ok (.aload_n 0, 1) := by decide +kernel
theorem dX9_motionRow_7 : decode cX9_motionRow 7 = .ok (.getfield 21, 3) := by decide +kernel
theorem dX9_motionRow_10 : decode cX9_motionRow 10 = .ok (.getfield 101, 3) := by decide +kernel
theorem dX9_motionRow_13 : decode cX9_motionRow 13 = .ok (.invokeinterface 104 1, 5) := by decide +kernel
theorem dX9_motionRow_18 : decode cX9_motionRow 18 = .ok (.imul, 1) := by decide +kernel
theorem dX9_motionRow_19 : decode cX9_motionRow 19 = .ok (.invokespecial 108, 3) := by decide +kernel
theorem dX9_motionRow_22 : decode cX9_motionRow 22 = .ok (.astore_n 2, 1) := by decide +kernel
theorem dX9_motionRow_23 : decode cX9_motionRow 23 = .ok (.iconst 0, 1) := by decide +kernel
theorem dX9_motionRow_24 : decode cX9_motionRow 24 = .ok (.istore_n 3, 1) := by decide +kernel
theorem dX9_motionRow_25 : decode cX9_motionRow 25 = .ok (.iload_n 3, 1) := by decide +kernel
theorem dX9_motionRow_26 : decode cX9_motionRow 26 = .ok (.aload_n 2, 1) := by decide +kernel
theorem dX9_motionRow_27 : decode cX9_motionRow 27 = .ok (.getfield 111, 3) := by decide +kernel
theorem dX9_motionRow_30 : decode cX9_motionRow 30 = .ok (.arraylength, 1) := by decide +kernel
theorem dX9_motionRow_31 : decode cX9_motionRow 31 = .ok (.if_icmp .ge 44, 3) := by decide +kernel
theorem dX9_motionRow_34 : decode cX9_motionRow 34 = .ok (.aload_n 2, 1) := by decide +kernel
theorem dX9_motionRow_35 : decode cX9_motionRow 35 = .ok (.getfield 111, 3) := by decide +kernel
theorem dX9_motionRow_38 : decode cX9_motionRow 38 = .ok (.iload_n 3, 1) := by decide +kernel
theorem dX9_motionRow_39 : decode cX9_motionRow 39 = .ok (.aload_n 0, 1) := by decide +kernel
theorem dX9_motionRow_40 : decode cX9_motionRow 40 = .ok (.getfield 25, 3) := by decide +kernel
theorem dX9_motionRow_43 : decode cX9_motionRow 43 = .ok (.iload_n 1, 1) := by decide +kernel
theorem dX9_motionRow_44 : decode cX9_motionRow 44 = .ok (.aload_n 0, 1) := by decide +kernel
theorem dX9_motionRow_45 : decode cX9_motionRow 45 = .ok (.getfield 21, 3) := by decide +kernel
theorem dX9_motionRow_48 : decode cX9_motionRow 48 = .ok (.getfield 101, 3) := by decide +kernel
theorem dX9_motionRow_51 : decode cX9_motionRow 51 = .ok (.iload_n 3, 1) := by decide +kernel
theorem dX9_motionRow_52 : decode cX9_motionRow 52 = .ok (.iconst 2, 1) := by decide +kernel
theorem dX9_motionRow_53 : decode cX9_motionRow 53 = .ok (.idiv, 1) := by decide +kernel
theorem dX9_motionRow_54 : decode cX9_motionRow 54 = .ok (.invokeinterface 86 2, 5) := by decide +kernel
theorem dX9_motionRow_59 : decode cX9_motionRow 59 = .ok (.checkcast 115, 3) := by decide +kernel
theorem dX9_motionRow_62 : decode cX9_motionRow 62 = .ok (.iload_n 3, 1) := by decide +kernel
theorem dX9_motionRow_63 : decode cX9_motionRow 63 = .ok (.iconst 2, 1) := by decide +kernel
theorem dX9_motionRow_64 : decode cX9_motionRow 64 = .ok (.irem, 1) := by decide +kernel
theorem dX9_motionRow_65 : decode cX9_motionRow 65 = .ok (.invokevirtual 117, 3) := by decide +kernel
theorem dX9_motionRow_68 : decode cX9_motionRow 68 = .ok (.lastore, 1) := by decide +kernel
theorem dX9_motionRow_69 : decode cX9_motionRow 69 = .ok (.iinc 3 1, 3) := by decide +kernel
theorem dX9_motionRow_72 : decode cX9_motionRow 72 = .ok (.goto (-47), 3) := by decide +kernel
theorem dX9_motionRow_75 : decode cX9_motionRow 75 = .ok (.aload_n 2, 1) := by decide +kernel
theorem dX9_motionRow_76 : decode cX9_motionRow 76 = .ok (.areturn, 1) := by decide +kernel
theorem dX9_rodRow_0 : decode cX9_rodRow 0 = .ok (.new 99, 3) := by decide +kernel
theorem dX9_rodRow_3 : decode cX9_rodRow 3 = .ok (.dup, 1) := by decide +kernel
theorem dX9_rodRow_4 : decode cX9_rodRow 4 = .ok (.iload_n 1, 1) := by decide +kernel
theorem dX9_rodRow_5 : decode cX9_rodRow 5 = .ok (.aload_n 0, 1) := by decide +kernel
theorem dX9_rodRow_6 : decode cX9_rodRow 6 = .ok (.getfield 21, 3) := by decide +kernel
theorem dX9_rodRow_9 : decode cX9_rodRow 9 = .ok (.getfield 82, 3) := by decide +kernel
theorem dX9_rodRow_12 : decode cX9_rodRow 12 = .ok (.invokeinterface 104 1, 5) := by decide +kernel
theorem dX9_rodRow_17 : decode cX9_rodRow 17 = .ok (.invokespecial 108, 3) := by decide +kernel
theorem dX9_rodRow_20 : decode cX9_rodRow 20 = .ok (.astore_n 2, 1) := by decide +kernel
theorem dX9_rodRow_21 : decode cX9_rodRow 21 = .ok (.iconst 0, 1) := by decide +kernel
theorem dX9_rodRow_22 : decode cX9_rodRow 22 = .ok (.istore_n 3, 1) := by decide +kernel
theorem dX9_rodRow_23 : decode cX9_rodRow 23 = .ok (.iload_n 3, 1) := by decide +kernel
theorem dX9_rodRow_24 : decode cX9_rodRow 24 = .ok (.aload_n 2, 1) := by decide +kernel
theorem dX9_rodRow_25 : decode cX9_rodRow 25 = .ok (.getfield 111, 3) := by decide +kernel
theorem dX9_rodRow_28 : decode cX9_rodRow 28 = .ok (.arraylength, 1) := by decide +kernel
theorem dX9_rodRow_29 : decode cX9_rodRow 29 = .ok (.if_icmp .ge 60, 3) := by decide +kernel
theorem dX9_rodRow_32 : decode cX9_rodRow 32 = .ok (.aload_n 0, 1) := by decide +kernel
theorem dX9_rodRow_33 : decode cX9_rodRow 33 = .ok (.getfield 21, 3) := by decide +kernel
theorem dX9_rodRow_36 : decode cX9_rodRow 36 = .ok (.getfield 82, 3) := by decide +kernel
theorem dX9_rodRow_39 : decode cX9_rodRow 39 = .ok (.iload_n 3, 1) := by decide +kernel
theorem dX9_rodRow_40 : decode cX9_rodRow 40 = .ok (.invokeinterface 86 2, 5) := by decide +kernel
theorem dX9_rodRow_45 : decode cX9_rodRow 45 = .ok (.checkcast 121, 3) := by decide +kernel
theorem dX9_rodRow_48 : decode cX9_rodRow 48 = .ok (.astore 4, 2) := by decide +kernel
theorem dX9_rodRow_50 : decode cX9_rodRow 50 = .ok (.aload_n 2, 1) := by decide +kernel
theorem dX9_rodRow_51 : decode cX9_rodRow 51 = .ok (.getfield 111, 3) := by decide +kernel
theorem dX9_rodRow_54 : decode cX9_rodRow 54 = .ok (.iload_n 3, 1) := by decide +kernel
theorem dX9_rodRow_55 : decode cX9_rodRow 55 = .ok (.iload_n 1, 1) := by decide +kernel
theorem dX9_rodRow_56 : decode cX9_rodRow 56 = .ok (.iconst 3, 1) := by decide +kernel
theorem dX9_rodRow_57 : decode cX9_rodRow 57 = .ok (.if_icmp .ne 12, 3) := by decide +kernel
theorem dX9_rodRow_60 : decode cX9_rodRow 60 = .ok (.aload 4, 2) := by decide +kernel
theorem dX9_rodRow_62 : decode cX9_rodRow 62 = .ok (.getfield 123, 3) := by decide +kernel
theorem dX9_rodRow_65 : decode cX9_rodRow 65 = .ok (.i2l, 1) := by decide +kernel
theorem dX9_rodRow_66 : decode cX9_rodRow 66 = .ok (.goto 16, 3) := by decide +kernel
theorem dX9_rodRow_69 : decode cX9_rodRow 69 = .ok (.aload 4, 2) := by decide +kernel
theorem dX9_rodRow_71 : decode cX9_rodRow 71 = .ok (.getfield 126, 3) := by decide +kernel
theorem dX9_rodRow_74 : decode cX9_rodRow 74 = .ok (.ifCond .eq 7, 3) := by decide +kernel
theorem dX9_rodRow_77 : decode cX9_rodRow 77 = .ok (.lconst 1, 1) := by decide +kernel
theorem dX9_rodRow_78 : decode cX9_rodRow 78 = .ok (.goto 4, 3) := by decide +kernel
theorem dX9_rodRow_81 : decode cX9_rodRow 81 = .ok (.lconst 0, 1) := by decide +kernel
theorem dX9_rodRow_82 : decode cX9_rodRow 82 = .ok (.lastore, 1) := by decide +kernel
theorem dX9_rodRow_83 : decode cX9_rodRow 83 = .ok (.iinc 3 1, 3) := by decide +kernel
theorem dX9_rodRow_86 : decode cX9_rodRow 86 = .ok (.goto (-63), 3) := by decide +kernel
theorem dX9_rodRow_89 : decode cX9_rodRow 89 = .ok (.aload_n 2, 1) := by decide +kernel
theorem dX9_rodRow_90 : decode cX9_rodRow 90 = .ok (.areturn, 1) := by decide +kernel
theorem dX9_firstPinAs_0 : decode cX9_firstPinAs 0 = .ok (.aload_n 1, 1) := by decide +kernel
theorem dX9_firstPinAs_1 : decode cX9_firstPinAs 1 = .ok (.ifnonnull 10, 3) := by decide +kernel
theorem dX9_firstPinAs_4 : decode cX9_firstPinAs 4 = .ok (.aload_n 0, 1) := by decide +kernel
theorem dX9_firstPinAs_5 : decode cX9_firstPinAs 5 = .ok (.bipush 10, 2) := by decide +kernel
theorem dX9_firstPinAs_7 : decode cX9_firstPinAs 7 = .ok (.invokevirtual 37, 3) := by decide +kernel
theorem dX9_firstPinAs_10 : decode cX9_firstPinAs 10 = .ok (.ireturn, 1) := by decide +kernel
theorem dX9_firstPinAs_11 : decode cX9_firstPinAs 11 = .ok (.aload_n 1, 1) := by decide +kernel
theorem dX9_firstPinAs_12 : decode cX9_firstPinAs 12 = .ok (.instanceof 121, 3) := by decide +kernel
theorem dX9_firstPinAs_15 : decode cX9_firstPinAs 15 = .ok (.ifCond .eq 28, 3) := by decide +kernel
theorem dX9_firstPinAs_18 : decode cX9_firstPinAs 18 = .ok (.aload_n 1, 1) := by decide +kernel
theorem dX9_firstPinAs_19 : decode cX9_firstPinAs 19 = .ok (.checkcast 121, 3) := by decide +kernel
theorem dX9_firstPinAs_22 : decode cX9_firstPinAs 22 = .ok (.astore_n 3, 1) := by decide +kernel
theorem dX9_firstPinAs_23 : decode cX9_firstPinAs 23 = .ok (.aload_n 3, 1) := by decide +kernel
theorem dX9_firstPinAs_24 : decode cX9_firstPinAs 24 = .ok (.iload_n 2, 1) := by decide +kernel
theorem dX9_firstPinAs_25 : decode cX9_firstPinAs 25 = .ok (.invokevirtual 130, 3) := by decide +kernel
theorem dX9_firstPinAs_28 : decode cX9_firstPinAs 28 = .ok (.ifCond .eq 15, 3) := by decide +kernel
theorem dX9_firstPinAs_31 : decode cX9_firstPinAs 31 = .ok (.aload_n 0, 1) := by decide +kernel
theorem dX9_firstPinAs_32 : decode cX9_firstPinAs 32 = .ok (.aload_n 3, 1) := by decide +kernel
theorem dX9_firstPinAs_33 : decode cX9_firstPinAs 33 = .ok (.getfield 133, 3) := by decide +kernel
theorem dX9_firstPinAs_36 : decode cX9_firstPinAs 36 = .ok (.getfield 137, 3) := by decide +kernel
theorem dX9_firstPinAs_39 : decode cX9_firstPinAs 39 = .ok (.invokevirtual 45, 3) := by decide +kernel
theorem dX9_firstPinAs_42 : decode cX9_firstPinAs 42 = .ok (.ireturn, 1) := by decide +kernel
theorem dX9_firstPinAs_43 : decode cX9_firstPinAs 43 = .ok (.aload_n 0, 1) := by decide +kernel
theorem dX9_firstPinAs_44 : decode cX9_firstPinAs 44 = .ok (.bipush 11, 2) := by decide +kernel
theorem dX9_firstPinAs_46 : decode cX9_firstPinAs 46 = .ok (.invokevirtual 37, 3) := by decide +kernel
theorem dX9_firstPinAs_49 : decode cX9_firstPinAs 49 = .ok (.ireturn, 1) := by decide +kernel
theorem dX9_howManyAre_0 : decode cX9_howManyAre 0 = .ok (.aload_n 1, 1) := by decide +kernel
theorem dX9_howManyAre_1 : decode cX9_howManyAre 1 = .ok (.iconst 2, 1) := by decide +kernel
theorem dX9_howManyAre_2 : decode cX9_howManyAre 2 = .ok (.invokestatic 140, 3) := by decide +kernel
theorem dX9_howManyAre_5 : decode cX9_howManyAre 5 = .ok (.astore_n 3, 1) := by decide +kernel
theorem dX9_howManyAre_6 : decode cX9_howManyAre 6 = .ok (.aload_n 3, 1) := by decide +kernel
theorem dX9_howManyAre_7 : decode cX9_howManyAre 7 = .ok (.ifnonnull 9, 3) := by decide +kernel
theorem dX9_howManyAre_10 : decode cX9_howManyAre 10 = .ok (.aload_n 0, 1) := by decide +kernel
theorem dX9_howManyAre_11 : decode cX9_howManyAre 11 = .ok (.aload_n 1, 1) := by decide +kernel
theorem dX9_howManyAre_12 : decode cX9_howManyAre 12 = .ok (.invokevirtual 144, 3) := by decide +kernel
theorem dX9_howManyAre_15 : decode cX9_howManyAre 15 = .ok (.ireturn, 1) := by decide +kernel
theorem dX9_howManyAre_16 : decode cX9_howManyAre 16 = .ok (.iconst 0, 1) := by decide +kernel
theorem dX9_howManyAre_17 : decode cX9_howManyAre 17 = .ok (.istore 4, 2) := by decide +kernel
theorem dX9_howManyAre_19 : decode cX9_howManyAre 19 = .ok (.iconst 0, 1) := by decide +kernel
theorem dX9_howManyAre_20 : decode cX9_howManyAre 20 = .ok (.istore 5, 2) := by decide +kernel
theorem dX9_howManyAre_22 : decode cX9_howManyAre 22 = .ok (.iload 5, 2) := by decide +kernel
theorem dX9_howManyAre_24 : decode cX9_howManyAre 24 = .ok (.aload_n 3, 1) := by decide +kernel
theorem dX9_howManyAre_25 : decode cX9_howManyAre 25 = .ok (.getfield 111, 3) := by decide +kernel
theorem dX9_howManyAre_28 : decode cX9_howManyAre 28 = .ok (.arraylength, 1) := by decide +kernel
theorem dX9_howManyAre_29 : decode cX9_howManyAre 29 = .ok (.if_icmp .ge 25, 3) := by decide +kernel
theorem dX9_howManyAre_32 : decode cX9_howManyAre 32 = .ok (.aload_n 3, 1) := by decide +kernel
theorem dX9_howManyAre_33 : decode cX9_howManyAre 33 = .ok (.getfield 111, 3) := by decide +kernel
theorem dX9_howManyAre_36 : decode cX9_howManyAre 36 = .ok (.iload 5, 2) := by decide +kernel
theorem dX9_howManyAre_38 : decode cX9_howManyAre 38 = .ok (.laload, 1) := by decide +kernel
theorem dX9_howManyAre_39 : decode cX9_howManyAre 39 = .ok (.iload_n 2, 1) := by decide +kernel
theorem dX9_howManyAre_40 : decode cX9_howManyAre 40 = .ok (.i2l, 1) := by decide +kernel
theorem dX9_howManyAre_41 : decode cX9_howManyAre 41 = .ok (.lcmp, 1) := by decide +kernel
theorem dX9_howManyAre_42 : decode cX9_howManyAre 42 = .ok (.ifCond .ne 6, 3) := by decide +kernel
theorem dX9_howManyAre_45 : decode cX9_howManyAre 45 = .ok (.iinc 4 1, 3) := by decide +kernel
theorem dX9_howManyAre_48 : decode cX9_howManyAre 48 = .ok (.iinc 5 1, 3) := by decide +kernel
theorem dX9_howManyAre_51 : decode cX9_howManyAre 51 = .ok (.goto (-29), 3) := by decide +kernel
theorem dX9_howManyAre_54 : decode cX9_howManyAre 54 = .ok (.aload_n 0, 1) := by decide +kernel
theorem dX9_howManyAre_55 : decode cX9_howManyAre 55 = .ok (.iload 4, 2) := by decide +kernel
theorem dX9_howManyAre_57 : decode cX9_howManyAre 57 = .ok (.invokevirtual 45, 3) := by decide +kernel
theorem dX9_howManyAre_60 : decode cX9_howManyAre 60 = .ok (.ireturn, 1) := by decide +kernel
theorem dX9_numberAt_0 : decode cX9_numberAt 0 = .ok (.aload_n 1, 1) := by decide +kernel
theorem dX9_numberAt_1 : decode cX9_numberAt 1 = .ok (.iload_n 2, 1) := by decide +kernel
theorem dX9_numberAt_2 : decode cX9_numberAt 2 = .ok (.invokestatic 140, 3) := by decide +kernel
theorem dX9_numberAt_5 : decode cX9_numberAt 5 = .ok (.astore 4, 2) := by decide +kernel
theorem dX9_numberAt_7 : decode cX9_numberAt 7 = .ok (.aload 4, 2) := by decide +kernel
theorem dX9_numberAt_9 : decode cX9_numberAt 9 = .ok (.ifnonnull 9, 3) := by decide +kernel
theorem dX9_numberAt_12 : decode cX9_numberAt 12 = .ok (.aload_n 0, 1) := by decide +kernel
theorem dX9_numberAt_13 : decode cX9_numberAt 13 = .ok (.aload_n 1, 1) := by decide +kernel
theorem dX9_numberAt_14 : decode cX9_numberAt 14 = .ok (.invokevirtual 144, 3) := by decide +kernel
theorem dX9_numberAt_17 : decode cX9_numberAt 17 = .ok (.ireturn, 1) := by decide +kernel
theorem dX9_numberAt_18 : decode cX9_numberAt 18 = .ok (.iload_n 3, 1) := by decide +kernel
theorem dX9_numberAt_19 : decode cX9_numberAt 19 = .ok (.ifCond .lt 13, 3) := by decide +kernel
theorem dX9_numberAt_22 : decode cX9_numberAt 22 = .ok (.iload_n 3, 1) := by decide +kernel
theorem dX9_numberAt_23 : decode cX9_numberAt 23 = .ok (.aload 4, 2) := by decide +kernel
theorem dX9_numberAt_25 : decode cX9_numberAt 25 = .ok (.getfield 111, 3) := by decide +kernel
theorem dX9_numberAt_28 : decode cX9_numberAt 28 = .ok (.arraylength, 1) := by decide +kernel
theorem dX9_numberAt_29 : decode cX9_numberAt 29 = .ok (.if_icmp .lt 10, 3) := by decide +kernel
theorem dX9_numberAt_32 : decode cX9_numberAt 32 = .ok (.aload_n 0, 1) := by decide +kernel
theorem dX9_numberAt_33 : decode cX9_numberAt 33 = .ok (.bipush 12, 2) := by decide +kernel
theorem dX9_numberAt_35 : decode cX9_numberAt 35 = .ok (.invokevirtual 37, 3) := by decide +kernel
theorem dX9_numberAt_38 : decode cX9_numberAt 38 = .ok (.ireturn, 1) := by decide +kernel
theorem dX9_numberAt_39 : decode cX9_numberAt 39 = .ok (.aload_n 0, 1) := by decide +kernel
theorem dX9_numberAt_40 : decode cX9_numberAt 40 = .ok (.aload 4, 2) := by decide +kernel
theorem dX9_numberAt_42 : decode cX9_numberAt 42 = .ok (.getfield 111, 3) := by decide +kernel
theorem dX9_numberAt_45 : decode cX9_numberAt 45 = .ok (.iload_n 3, 1) := by decide +kernel
theorem dX9_numberAt_46 : decode cX9_numberAt 46 = .ok (.laload, 1) := by decide +kernel
theorem dX9_numberAt_47 : decode cX9_numberAt 47 = .ok (.l2i, 1) := by decide +kernel
theorem dX9_numberAt_48 : decode cX9_numberAt 48 = .ok (.invokevirtual 45, 3) := by decide +kernel
theorem dX9_numberAt_51 : decode cX9_numberAt 51 = .ok (.ireturn, 1) := by decide +kernel
theorem dX9_sumOfCopied_0 : decode cX9_sumOfCopied 0 = .ok (.aload_n 1, 1) := by decide +kernel
theorem dX9_sumOfCopied_1 : decode cX9_sumOfCopied 1 = .ok (.iconst 3, 1) := by decide +kernel
theorem dX9_sumOfCopied_2 : decode cX9_sumOfCopied 2 = .ok (.invokestatic 140, 3) := by decide +kernel
theorem dX9_sumOfCopied_5 : decode cX9_sumOfCopied 5 = .ok (.astore_n 3, 1) := by decide +kernel
theorem dX9_sumOfCopied_6 : decode cX9_sumOfCopied 6 = .ok (.aload_n 3, 1) := by decide +kernel
theorem dX9_sumOfCopied_7 : decode cX9_sumOfCopied 7 = .ok (.ifnonnull 9, 3) := by decide +kernel
theorem dX9_sumOfCopied_10 : decode cX9_sumOfCopied 10 = .ok (.aload_n 0, 1) := by decide +kernel
theorem dX9_sumOfCopied_11 : decode cX9_sumOfCopied 11 = .ok (.aload_n 1, 1) := by decide +kernel
theorem dX9_sumOfCopied_12 : decode cX9_sumOfCopied 12 = .ok (.invokevirtual 144, 3) := by decide +kernel
theorem dX9_sumOfCopied_15 : decode cX9_sumOfCopied 15 = .ok (.ireturn, 1) := by decide +kernel
theorem dX9_sumOfCopied_16 : decode cX9_sumOfCopied 16 = .ok (.iload_n 2, 1) := by decide +kernel
theorem dX9_sumOfCopied_17 : decode cX9_sumOfCopied 17 = .ok (.ifCond .lt 22, 3) := by decide +kernel
theorem dX9_sumOfCopied_20 : decode cX9_sumOfCopied 20 = .ok (.iconst 1, 1) := by decide +kernel
theorem dX9_sumOfCopied_21 : decode cX9_sumOfCopied 21 = .ok (.iload_n 2, 1) := by decide +kernel
theorem dX9_sumOfCopied_22 : decode cX9_sumOfCopied 22 = .ok (.iadd, 1) := by decide +kernel
theorem dX9_sumOfCopied_23 : decode cX9_sumOfCopied 23 = .ok (.aload_n 3, 1) := by decide +kernel
theorem dX9_sumOfCopied_24 : decode cX9_sumOfCopied 24 = .ok (.getfield 111, 3) := by decide +kernel
theorem dX9_sumOfCopied_27 : decode cX9_sumOfCopied 27 = .ok (.arraylength, 1) := by decide +kernel
theorem dX9_sumOfCopied_28 : decode cX9_sumOfCopied 28 = .ok (.if_icmp .gt 11, 3) := by decide +kernel
theorem dX9_sumOfCopied_31 : decode cX9_sumOfCopied 31 = .ok (.iload_n 2, 1) := by decide +kernel
theorem dX9_sumOfCopied_32 : decode cX9_sumOfCopied 32 = .ok (.iload_n 2, 1) := by decide +kernel
theorem dX9_sumOfCopied_33 : decode cX9_sumOfCopied 33 = .ok (.iadd, 1) := by decide +kernel
theorem dX9_sumOfCopied_34 : decode cX9_sumOfCopied 34 = .ok (.bipush 9, 2) := by decide +kernel
theorem dX9_sumOfCopied_36 : decode cX9_sumOfCopied 36 = .ok (.if_icmp .le 10, 3) := by decide +kernel
theorem dX9_sumOfCopied_39 : decode cX9_sumOfCopied 39 = .ok (.aload_n 0, 1) := by decide +kernel
theorem dX9_sumOfCopied_40 : decode cX9_sumOfCopied 40 = .ok (.bipush 12, 2) := by decide +kernel
theorem dX9_sumOfCopied_42 : decode cX9_sumOfCopied 42 = .ok (.invokevirtual 37, 3) := by decide +kernel
theorem dX9_sumOfCopied_45 : decode cX9_sumOfCopied 45 = .ok (.ireturn, 1) := by decide +kernel
theorem dX9_sumOfCopied_46 : decode cX9_sumOfCopied 46 = .ok (.iconst 0, 1) := by decide +kernel
theorem dX9_sumOfCopied_47 : decode cX9_sumOfCopied 47 = .ok (.istore 4, 2) := by decide +kernel
theorem dX9_sumOfCopied_49 : decode cX9_sumOfCopied 49 = .ok (.iconst 1, 1) := by decide +kernel
theorem dX9_sumOfCopied_50 : decode cX9_sumOfCopied 50 = .ok (.istore 5, 2) := by decide +kernel
theorem dX9_sumOfCopied_52 : decode cX9_sumOfCopied 52 = .ok (.iload 5, 2) := by decide +kernel
theorem dX9_sumOfCopied_54 : decode cX9_sumOfCopied 54 = .ok (.iload_n 2, 1) := by decide +kernel
theorem dX9_sumOfCopied_55 : decode cX9_sumOfCopied 55 = .ok (.if_icmp .gt 22, 3) := by decide +kernel
theorem dX9_sumOfCopied_58 : decode cX9_sumOfCopied 58 = .ok (.iload 4, 2) := by decide +kernel
theorem dX9_sumOfCopied_60 : decode cX9_sumOfCopied 60 = .ok (.aload_n 3, 1) := by decide +kernel
theorem dX9_sumOfCopied_61 : decode cX9_sumOfCopied 61 = .ok (.getfield 111, 3) := by decide +kernel
theorem dX9_sumOfCopied_64 : decode cX9_sumOfCopied 64 = .ok (.iload 5, 2) := by decide +kernel
theorem dX9_sumOfCopied_66 : decode cX9_sumOfCopied 66 = .ok (.laload, 1) := by decide +kernel
theorem dX9_sumOfCopied_67 : decode cX9_sumOfCopied 67 = .ok (.l2i, 1) := by decide +kernel
theorem dX9_sumOfCopied_68 : decode cX9_sumOfCopied 68 = .ok (.iadd, 1) := by decide +kernel
theorem dX9_sumOfCopied_69 : decode cX9_sumOfCopied 69 = .ok (.istore 4, 2) := by decide +kernel
theorem dX9_sumOfCopied_71 : decode cX9_sumOfCopied 71 = .ok (.iinc 5 1, 3) := by decide +kernel
theorem dX9_sumOfCopied_74 : decode cX9_sumOfCopied 74 = .ok (.goto (-22), 3) := by decide +kernel
theorem dX9_sumOfCopied_77 : decode cX9_sumOfCopied 77 = .ok (.aload_n 0, 1) := by decide +kernel
theorem dX9_sumOfCopied_78 : decode cX9_sumOfCopied 78 = .ok (.iload 4, 2) := by decide +kernel
theorem dX9_sumOfCopied_80 : decode cX9_sumOfCopied 80 = .ok (.invokevirtual 45, 3) := by decide +kernel
theorem dX9_sumOfCopied_83 : decode cX9_sumOfCopied 83 = .ok (.ireturn, 1) := by decide +kernel
theorem dX9_priceAsSpare_0 : decode cX9_priceAsSpare 0 = .ok (.aload_n 1, 1) := by decide +kernel
theorem dX9_priceAsSpare_1 : decode cX9_priceAsSpare 1 = .ok (.ifnonnull 9, 3) := by decide +kernel
theorem dX9_priceAsSpare_4 : decode cX9_priceAsSpare 4 = .ok (.aload_n 0, 1) := by decide +kernel
theorem dX9_priceAsSpare_5 : decode cX9_priceAsSpare 5 = .ok (.iconst 0, 1) := by decide +kernel
theorem dX9_priceAsSpare_6 : decode cX9_priceAsSpare 6 = .ok (.invokevirtual 45, 3) := by decide +kernel
theorem dX9_priceAsSpare_9 : decode cX9_priceAsSpare 9 = .ok (.ireturn, 1) := by decide +kernel
theorem dX9_priceAsSpare_10 : decode cX9_priceAsSpare 10 = .ok (.aload_n 1, 1) := by decide +kernel
theorem dX9_priceAsSpare_11 : decode cX9_priceAsSpare 11 = .ok (.instanceof 121, 3) := by decide +kernel
theorem dX9_priceAsSpare_14 : decode cX9_priceAsSpare 14 = .ok (.ifCond .eq 25, 3) := by decide +kernel
theorem dX9_priceAsSpare_17 : decode cX9_priceAsSpare 17 = .ok (.aload_n 1, 1) := by decide +kernel
theorem dX9_priceAsSpare_18 : decode cX9_priceAsSpare 18 = .ok (.checkcast 121, 3) := by decide +kernel
theorem dX9_priceAsSpare_21 : decode cX9_priceAsSpare 21 = .ok (.astore_n 2, 1) := by decide +kernel
theorem dX9_priceAsSpare_22 : decode cX9_priceAsSpare 22 = .ok (.aload_n 2, 1) := by decide +kernel
theorem dX9_priceAsSpare_23 : decode cX9_priceAsSpare 23 = .ok (.iconst 3, 1) := by decide +kernel
theorem dX9_priceAsSpare_24 : decode cX9_priceAsSpare 24 = .ok (.invokevirtual 130, 3) := by decide +kernel
theorem dX9_priceAsSpare_27 : decode cX9_priceAsSpare 27 = .ok (.ifCond .eq 12, 3) := by decide +kernel
theorem dX9_priceAsSpare_30 : decode cX9_priceAsSpare 30 = .ok (.aload_n 0, 1) := by decide +kernel
theorem dX9_priceAsSpare_31 : decode cX9_priceAsSpare 31 = .ok (.aload_n 2, 1) := by decide +kernel
theorem dX9_priceAsSpare_32 : decode cX9_priceAsSpare 32 = .ok (.getfield 123, 3) := by decide +kernel
theorem dX9_priceAsSpare_35 : decode cX9_priceAsSpare 35 = .ok (.invokevirtual 45, 3) := by decide +kernel
theorem dX9_priceAsSpare_38 : decode cX9_priceAsSpare 38 = .ok (.ireturn, 1) := by decide +kernel
theorem dX9_priceAsSpare_39 : decode cX9_priceAsSpare 39 = .ok (.aload_n 0, 1) := by decide +kernel
theorem dX9_priceAsSpare_40 : decode cX9_priceAsSpare 40 = .ok (.bipush 14, 2) := by decide +kernel
theorem dX9_priceAsSpare_42 : decode cX9_priceAsSpare 42 = .ok (.invokevirtual 37, 3) := by decide +kernel
theorem dX9_priceAsSpare_45 : decode cX9_priceAsSpare 45 = .ok (.ireturn, 1) := by decide +kernel
theorem dX9_rowOf_0 : decode cX9_rowOf 0 = .ok (.aload_n 0, 1) := by decide +kernel
theorem dX9_rowOf_1 : decode cX9_rowOf 1 = .ok (.instanceof 99, 3) := by decide +kernel
theorem dX9_rowOf_4 : decode cX9_rowOf 4 = .ok (.ifCond .eq 20, 3) := by decide +kernel
theorem dX9_rowOf_7 : decode cX9_rowOf 7 = .ok (.aload_n 0, 1) := by decide +kernel
theorem dX9_rowOf_8 : decode cX9_rowOf 8 = .ok (.checkcast 99, 3) := by decide +kernel
theorem dX9_rowOf_11 : decode cX9_rowOf 11 = .ok (.astore_n 2, 1) := by decide +kernel
theorem dX9_rowOf_12 : decode cX9_rowOf 12 = .ok (.aload_n 2, 1) := by decide +kernel
theorem dX9_rowOf_13 : decode cX9_rowOf 13 = .ok (.getfield 147, 3) := by decide +kernel
theorem dX9_rowOf_16 : decode cX9_rowOf 16 = .ok (.iload_n 1, 1) := by decide +kernel
theorem dX9_rowOf_17 : decode cX9_rowOf 17 = .ok (.if_icmp .ne 7, 3) := by decide +kernel
theorem dX9_rowOf_20 : decode cX9_rowOf 20 = .ok (.aload_n 2, 1) := by decide +kernel
theorem dX9_rowOf_21 : decode cX9_rowOf 21 = .ok (.goto 4, 3) := by decide +kernel
theorem dX9_rowOf_24 : decode cX9_rowOf 24 = .ok (.aconst_null, 1) := by decide +kernel
theorem dX9_rowOf_25 : decode cX9_rowOf 25 = .ok (.areturn, 1) := by decide +kernel
theorem dX9_refuseRow_0 : decode cX9_refuseRow 0 = .ok (.aload_n 0, 1) := by decide +kernel
theorem dX9_refuseRow_1 : decode cX9_refuseRow 1 = .ok (.aload_n 1, 1) := by decide +kernel
theorem dX9_refuseRow_2 : decode cX9_refuseRow 2 = .ok (.ifnonnull 8, 3) := by decide +kernel
theorem dX9_refuseRow_5 : decode cX9_refuseRow 5 = .ok (.bipush 10, 2) := by decide +kernel
theorem dX9_refuseRow_7 : decode cX9_refuseRow 7 = .ok (.goto 5, 3) := by decide +kernel
theorem dX9_refuseRow_10 : decode cX9_refuseRow 10 = .ok (.bipush 11, 2) := by decide +kernel
theorem dX9_refuseRow_12 : decode cX9_refuseRow 12 = .ok (.invokevirtual 37, 3) := by decide +kernel
theorem dX9_refuseRow_15 : decode cX9_refuseRow 15 = .ok (.ireturn, 1) := by decide +kernel
theorem dX9_done_0 : decode cX9_done 0 = .ok (.aload_n 0, 1) := by decide +kernel
theorem dX9_done_1 : decode cX9_done 1 = .ok (.iconst 0, 1) := by decide +kernel
theorem dX9_done_2 : decode cX9_done 2 = .ok (.putfield 17, 3) := by decide +kernel
theorem dX9_done_5 : decode cX9_done 5 = .ok (.iload_n 1, 1) := by decide +kernel
theorem dX9_done_6 : decode cX9_done 6 = .ok (.ireturn, 1) := by decide +kernel
theorem dX9_refuse_0 : decode cX9_refuse 0 = .ok (.aload_n 0, 1) := by decide +kernel
theorem dX9_refuse_1 : decode cX9_refuse 1 = .ok (.iload_n 1, 1) := by decide +kernel
theorem dX9_refuse_2 : decode cX9_refuse 2 = .ok (.putfield 17, 3) := by decide +kernel
theorem dX9_refuse_5 : decode cX9_refuse 5 = .ok (.iconst (-1), 1) := by decide +kernel
theorem dX9_refuse_6 : decode cX9_refuse 6 = .ok (.ireturn, 1) := by decide +kernel
theorem dX10_init_0 : decode cX10_init 0 = .ok (.aload_n 0, 1) := by decide +kernel
theorem dX10_init_1 : decode cX10_init 1 = .ok (.invokespecial 1, 3) := by decide +kernel
theorem dX10_init_4 : decode cX10_init 4 = .ok (.aload_n 0, 1) := by decide +kernel
theorem dX10_init_5 : decode cX10_init 5 = .ok (.new 7, 3) := by decide +kernel
theorem dX10_init_8 : decode cX10_init 8 = .ok (.dup, 1) := by decide +kernel
theorem dX10_init_9 : decode cX10_init 9 = .ok (.invokespecial 9, 3) := by decide +kernel
theorem dX10_init_12 : decode cX10_init 12 = .ok (.putfield 10, 3) := by decide +kernel
theorem dX10_init_15 : decode cX10_init 15 = .ok (.aload_n 0, 1) := by decide +kernel
theorem dX10_init_16 : decode cX10_init 16 = .ok (.new 16, 3) := by decide +kernel
theorem dX10_init_19 : decode cX10_init 19 = .ok (.dup, 1) := by decide +kernel
theorem dX10_init_20 : decode cX10_init 20 = .ok (.aload_n 0, 1) := by decide +kernel
theorem dX10_init_21 : decode cX10_init 21 = .ok (.getfield 10, 3) := by decide +kernel
theorem dX10_init_24 : decode cX10_init 24 = .ok (.invokespecial 18, 3) := by decide +kernel
theorem dX10_init_27 : decode cX10_init 27 = .ok (.putfield 21, 3) := by decide +kernel
theorem dX10_init_30 : decode cX10_init 30 = .ok (.aload_n 0, 1) := by decide +kernel
theorem dX10_init_31 : decode cX10_init 31 = .ok (.new 25, 3) := by decide +kernel
theorem dX10_init_34 : decode cX10_init 34 = .ok (.dup, 1) := by decide +kernel
theorem dX10_init_35 : decode cX10_init 35 = .ok (.aload_n 0, 1) := by decide +kernel
theorem dX10_init_36 : decode cX10_init 36 = .ok (.getfield 10, 3) := by decide +kernel
theorem dX10_init_39 : decode cX10_init 39 = .ok (.invokespecial 27, 3) := by decide +kernel
theorem dX10_init_42 : decode cX10_init 42 = .ok (.putfield 28, 3) := by decide +kernel
theorem dX10_init_45 : decode cX10_init 45 = .ok (.aload_n 0, 1) := by decide +kernel
theorem dX10_init_46 : decode cX10_init 46 = .ok (.new 32, 3) := by decide +kernel
theorem dX10_init_49 : decode cX10_init 49 = .ok (.dup, 1) := by decide +kernel
theorem dX10_init_50 : decode cX10_init 50 = .ok (.aload_n 0, 1) := by decide +kernel
theorem dX10_init_51 : decode cX10_init 51 = .ok (.getfield 10, 3) := by decide +kernel
theorem dX10_init_54 : decode cX10_init 54 = .ok (.invokespecial 34, 3) := by decide +kernel
theorem dX10_init_57 : decode cX10_init 57 = .ok (.putfield 35, 3) := by decide +kernel
theorem dX10_init_60 : decode cX10_init 60 = .ok (.aload_n 0, 1) := by decide +kernel
theorem dX10_init_61 : decode cX10_init 61 = .ok (.new 39, 3) := by decide +kernel
theorem dX10_init_64 : decode cX10_init 64 = .ok (.dup, 1) := by decide +kernel
theorem dX10_init_65 : decode cX10_init 65 = .ok (.aload_n 0, 1) := by decide +kernel
theorem dX10_init_66 : decode cX10_init 66 = .ok (.getfield 10, 3) := by decide +kernel
theorem dX10_init_69 : decode cX10_init 69 = .ok (.aload_n 0, 1) := by decide +kernel
theorem dX10_init_70 : decode cX10_init 70 = .ok (.getfield 21, 3) := by decide +kernel
theorem dX10_init_73 : decode cX10_init 73 = .ok (.invokespecial 41, 3) := by decide +kernel
theorem dX10_init_76 : decode cX10_init 76 = .ok (.putfield 44, 3) := by decide +kernel
theorem dX10_init_79 : decode cX10_init 79 = .ok (.return_, 1) := by decide +kernel
theorem dX10_pin_0 : decode cX10_pin 0 = .ok (.iload_n 1, 1) := by decide +kernel
theorem dX10_pin_1 : decode cX10_pin 1 = .ok (.iload_n 2, 1) := by decide +kernel
theorem dX10_pin_2 : decode cX10_pin 2 = .ok (.invokestatic 48, 3) := by decide +kernel
theorem dX10_pin_5 : decode cX10_pin 5 = .ok (.ifCond .ne 6, 3) := by decide +kernel
theorem dX10_pin_8 : decode cX10_pin 8 = .ok (.bipush (-2), 2) := by decide +kernel
theorem dX10_pin_10 : decode cX10_pin 10 = .ok (.ireturn, 1) := by decide +kernel
theorem dX10_pin_11 : decode cX10_pin 11 = .ok (.aload_n 0, 1) := by decide +kernel
theorem dX10_pin_12 : decode cX10_pin 12 = .ok (.getfield 10, 3) := by decide +kernel
theorem dX10_pin_15 : decode cX10_pin 15 = .ok (.iload_n 1, 1) := by decide +kernel
theorem dX10_pin_16 : decode cX10_pin 16 = .ok (.iload_n 2, 1) := by decide +kernel
theorem dX10_pin_17 : decode cX10_pin 17 = .ok (.invokevirtual 52, 3) := by decide +kernel
theorem dX10_pin_20 : decode cX10_pin 20 = .ok (.ifnull 6, 3) := by decide +kernel
theorem dX10_pin_23 : decode cX10_pin 23 = .ok (.bipush (-3), 2) := by decide +kernel
theorem dX10_pin_25 : decode cX10_pin 25 = .ok (.ireturn, 1) := by decide +kernel
theorem dX10_pin_26 : decode cX10_pin 26 = .ok (.aload_n 0, 1) := by decide +kernel
theorem dX10_pin_27 : decode cX10_pin 27 = .ok (.getfield 10, 3) := by decide +kernel
theorem dX10_pin_30 : decode cX10_pin 30 = .ok (.getfield 56, 3) := by decide +kernel
theorem dX10_pin_33 : decode cX10_pin 33 = .ok (.invokeinterface 60 1, 5) := by decide +kernel
theorem dX10_pin_38 : decode cX10_pin 38 = .ok (.bipush 6, 2) := by decide +kernel
theorem dX10_pin_40 : decode cX10_pin 40 = .ok (.if_icmp .lt 6, 3) := by decide +kernel
theorem dX10_pin_43 : decode cX10_pin 43 = .ok (.bipush (-4), 2) := by decide +kernel
theorem dX10_pin_45 : decode cX10_pin 45 = .ok (.ireturn, 1) := by decide +kernel
theorem dX10_pin_46 : decode cX10_pin 46 = .ok (.aload_n 0, 1) := by decide +kernel
theorem dX10_pin_47 : decode cX10_pin 47 = .ok (.getfield 10, 3) := by decide +kernel
theorem dX10_pin_50 : decode cX10_pin 50 = .ok (.getfield 56, 3) := by decide +kernel
theorem dX10_pin_53 : decode cX10_pin 53 = .ok (.new 66, 3) := by decide +kernel
theorem dX10_pin_56 : decode cX10_pin 56 = .ok (.dup, 1) := by decide +kernel
theorem dX10_pin_57 : decode cX10_pin 57 = .ok (.aload_n 0, 1) := by decide +kernel
theorem dX10_pin_58 : decode cX10_pin 58 = .ok (.getfield 10, 3) := by decide +kernel
theorem dX10_pin_61 : decode cX10_pin 61 = .ok (.getfield 56, 3) := by decide +kernel
theorem dX10_pin_64 : decode cX10_pin 64 = .ok (.invokeinterface 60 1, 5) := by decide +kernel
theorem dX10_pin_69 : decode cX10_pin 69 = .ok (.iload_n 1, 1) := by decide +kernel
theorem dX10_pin_70 : decode cX10_pin 70 = .ok (.iload_n 2, 1) := by decide +kernel
theorem dX10_pin_71 : decode cX10_pin 71 = .ok (.invokespecial 68, 3) := by decide +kernel
theorem dX10_pin_74 : decode cX10_pin 74 = .ok (.invokeinterface 71 2, 5) := by decide +kernel
theorem dX10_pin_79 : decode cX10_pin 79 = .ok (.pop, 1) := by decide +kernel
theorem dX10_pin_80 : decode cX10_pin 80 = .ok (.aload_n 0, 1) := by decide +kernel
theorem dX10_pin_81 : decode cX10_pin 81 = .ok (.invokevirtual 75, 3) := by decide +kernel
theorem dX10_pin_84 : decode cX10_pin 84 = .ok (.aload_n 0, 1) := by decide +kernel
theorem dX10_pin_85 : decode cX10_pin 85 = .ok (.getfield 10, 3) := by decide +kernel
theorem dX10_pin_88 : decode cX10_pin 88 = .ok (.getfield 56, 3) := by decide +kernel
theorem dX10_pin_91 : decode cX10_pin 91 = .ok (.invokeinterface 60 1, 5) := by decide +kernel
theorem dX10_pin_96 : decode cX10_pin 96 = .ok (.iconst 1, 1) := by decide +kernel
theorem dX10_pin_97 : decode cX10_pin 97 = .ok (.isub, 1) := by decide +kernel
theorem dX10_pin_98 : decode cX10_pin 98 = .ok (.ireturn, 1) := by decide +kernel
theorem dX10_move_0 : decode cX10_move 0 = .ok (.aload_n 0, 1) := by decide +kernel
theorem dX10_move_1 : decode cX10_move 1 = .ok (.getfield 10, 3) := by decide +kernel
theorem dX10_move_4 : decode cX10_move 4 = .ok (.iload_n 1, 1) := by decide +kernel
theorem dX10_move_5 : decode cX10_move 5 = .ok (.invokevirtual 78, 3) := by decide +kernel
theorem dX10_move_8 : decode cX10_move 8 = .ok (.ifCond .eq 11, 3) := by decide +kernel
theorem dX10_move_11 : decode cX10_move 11 = .ok (.iload_n 2, 1) := by decide +kernel
theorem dX10_move_12 : decode cX10_move 12 = .ok (.iload_n 3, 1) := by decide +kernel
theorem dX10_move_13 : decode cX10_move 13 = .ok (.invokestatic 48, 3) := by decide +kernel
theorem dX10_move_16 : decode cX10_move 16 = .ok (.ifCond .ne 6, 3) := by decide +kernel
theorem dX10_move_19 : decode cX10_move 19 = .ok (.bipush (-2), 2) := by decide +kernel
theorem dX10_move_21 : decode cX10_move 21 = .ok (.ireturn, 1) := by decide +kernel
theorem dX10_move_22 : decode cX10_move 22 = .ok (.aload_n 0, 1) := by decide +kernel
theorem dX10_move_23 : decode cX10_move 23 = .ok (.getfield 10, 3) := by decide +kernel
theorem dX10_move_26 : decode cX10_move 26 = .ok (.getfield 56, 3) := by decide +kernel
theorem dX10_move_29 : decode cX10_move 29 = .ok (.iload_n 1, 1) := by decide +kernel
theorem dX10_move_30 : decode cX10_move 30 = .ok (.invokeinterface 82 2, 5) := by decide +kernel
theorem dX10_move_35 : decode cX10_move 35 = .ok (.checkcast 66, 3) := by decide +kernel
theorem dX10_move_38 : decode cX10_move 38 = .ok (.astore 4, 2) := by decide +kernel
theorem dX10_move_40 : decode cX10_move 40 = .ok (.aload_n 0, 1) := by decide +kernel
theorem dX10_move_41 : decode cX10_move 41 = .ok (.getfield 10, 3) := by decide +kernel
theorem dX10_move_44 : decode cX10_move 44 = .ok (.iload_n 2, 1) := by decide +kernel
theorem dX10_move_45 : decode cX10_move 45 = .ok (.iload_n 3, 1) := by decide +kernel
theorem dX10_move_46 : decode cX10_move 46 = .ok (.invokevirtual 52, 3) := by decide +kernel
theorem dX10_move_49 : decode cX10_move 49 = .ok (.astore 5, 2) := by decide +kernel
theorem dX10_move_51 : decode cX10_move 51 = .ok (.aload 5, 2) := by decide +kernel
theorem dX10_move_53 : decode cX10_move 53 = .ok (.ifnull 13, 3) := by decide +kernel
theorem dX10_move_56 : decode cX10_move 56 = .ok (.aload 5, 2) := by decide +kernel
theorem dX10_move_58 : decode cX10_move 58 = .ok (.aload 4, 2) := by decide +kernel
theorem dX10_move_60 : decode cX10_move 60 = .ok (.if_acmp .eq 6, 3) := by decide +kernel
theorem dX10_move_63 : decode cX10_move 63 = .ok (.bipush (-3), 2) := by decide +kernel
theorem dX10_move_65 : decode cX10_move 65 = .ok (.ireturn, 1) := by decide +kernel
theorem dX10_move_66 : decode cX10_move 66 = .ok (.aload 4, 2) := by decide +kernel
theorem dX10_move_68 : decode cX10_move 68 = .ok (.iload_n 2, 1) := by decide +kernel
theorem dX10_move_69 : decode cX10_move 69 = .ok (.putfield 86, 3) := by decide +kernel
theorem dX10_move_72 : decode cX10_move 72 = .ok (.aload 4, 2) := by decide +kernel
theorem dX10_move_74 : decode cX10_move 74 = .ok (.iload_n 3, 1) := by decide +kernel
theorem dX10_move_75 : decode cX10_move 75 = .ok (.putfield 90, 3) := by decide +kernel
theorem dX10_move_78 : decode cX10_move 78 = .ok (.aload_n 0, 1) := by decide +kernel
theorem dX10_move_79 : decode cX10_move 79 = .ok (.invokevirtual 75, 3) := by decide +kernel
theorem dX10_move_82 : decode cX10_move 82 = .ok (.iconst 1, 1) := by decide +kernel
theorem dX10_move_83 : decode cX10_move 83 = .ok (.ireturn, 1) := by decide +kernel
theorem dX10_hold_0 : decode cX10_hold 0 = .ok (.aload_n 0, 1) := by decide +kernel
theorem dX10_hold_1 : decode cX10_hold 1 = .ok (.getfield 10, 3) := by decide +kernel
theorem dX10_hold_4 : decode cX10_hold 4 = .ok (.iload_n 1, 1) := by decide +kernel
theorem dX10_hold_5 : decode cX10_hold 5 = .ok (.invokevirtual 78, 3) := by decide +kernel
theorem dX10_hold_8 : decode cX10_hold 8 = .ok (.ifCond .ne 6, 3) := by decide +kernel
theorem dX10_hold_11 : decode cX10_hold 11 = .ok (.bipush (-2), 2) := by decide +kernel
theorem dX10_hold_13 : decode cX10_hold 13 = .ok (.ireturn, 1) := by decide +kernel
theorem dX10_hold_14 : decode cX10_hold 14 = .ok (.aload_n 0, 1) := by decide +kernel
theorem dX10_hold_15 : decode cX10_hold 15 = .ok (.getfield 10, 3) := by decide +kernel
theorem dX10_hold_18 : decode cX10_hold 18 = .ok (.getfield 56, 3) := by decide +kernel
theorem dX10_hold_21 : decode cX10_hold 21 = .ok (.iload_n 1, 1) := by decide +kernel
theorem dX10_hold_22 : decode cX10_hold 22 = .ok (.invokeinterface 82 2, 5) := by decide +kernel
theorem dX10_hold_27 : decode cX10_hold 27 = .ok (.checkcast 66, 3) := by decide +kernel
theorem dX10_hold_30 : decode cX10_hold 30 = .ok (.astore_n 3, 1) := by decide +kernel
theorem dX10_hold_31 : decode cX10_hold 31 = .ok (.aload_n 3, 1) := by decide +kernel
theorem dX10_hold_32 : decode cX10_hold 32 = .ok (.getfield 93, 3) := by decide +kernel
theorem dX10_hold_35 : decode cX10_hold 35 = .ok (.iload_n 2, 1) := by decide +kernel
theorem dX10_hold_36 : decode cX10_hold 36 = .ok (.if_icmp .ne 5, 3) := by decide +kernel
theorem dX10_hold_39 : decode cX10_hold 39 = .ok (.iconst 0, 1) := by decide +kernel
theorem dX10_hold_40 : decode cX10_hold 40 = .ok (.ireturn, 1) := by decide +kernel
theorem dX10_hold_41 : decode cX10_hold 41 = .ok (.aload_n 3, 1) := by decide +kernel
theorem dX10_hold_42 : decode cX10_hold 42 = .ok (.iload_n 2, 1) := by decide +kernel
theorem dX10_hold_43 : decode cX10_hold 43 = .ok (.putfield 93, 3) := by decide +kernel
theorem dX10_hold_46 : decode cX10_hold 46 = .ok (.aload_n 3, 1) := by decide +kernel
theorem dX10_hold_47 : decode cX10_hold 47 = .ok (.iconst 0, 1) := by decide +kernel
theorem dX10_hold_48 : decode cX10_hold 48 = .ok (.putfield 97, 3) := by decide +kernel
theorem dX10_hold_51 : decode cX10_hold 51 = .ok (.aload_n 3, 1) := by decide +kernel
theorem dX10_hold_52 : decode cX10_hold 52 = .ok (.iconst 0, 1) := by decide +kernel
theorem dX10_hold_53 : decode cX10_hold 53 = .ok (.putfield 100, 3) := by decide +kernel
theorem dX10_hold_56 : decode cX10_hold 56 = .ok (.aload_n 0, 1) := by decide +kernel
theorem dX10_hold_57 : decode cX10_hold 57 = .ok (.invokevirtual 75, 3) := by decide +kernel
theorem dX10_hold_60 : decode cX10_hold 60 = .ok (.iconst 1, 1) := by decide +kernel
theorem dX10_hold_61 : decode cX10_hold 61 = .ok (.ireturn, 1) := by decide +kernel
theorem dX10_rod_0 : decode cX10_rod 0 = .ok (.iload_n 1, 1) := by decide +kernel
theorem dX10_rod_1 : decode cX10_rod 1 = .ok (.ifCond .lt 17, 3) := by decide +kernel
theorem dX10_rod_4 : decode cX10_rod 4 = .ok (.iload_n 1, 1) := by decide +kernel
theorem dX10_rod_5 : decode cX10_rod 5 = .ok (.iconst 5, 1) := by decide +kernel
theorem dX10_rod_6 : decode cX10_rod 6 = .ok (.if_icmp .ge 12, 3) := by decide +kernel
theorem dX10_rod_9 : decode cX10_rod 9 = .ok (.iload_n 1, 1) := by decide +kernel
theorem dX10_rod_10 : decode cX10_rod 10 = .ok (.iload 4, 2) := by decide +kernel
theorem dX10_rod_12 : decode cX10_rod 12 = .ok (.invokestatic 103, 3) := by decide +kernel
theorem dX10_rod_15 : decode cX10_rod 15 = .ok (.ifCond .ne 6, 3) := by decide +kernel
theorem dX10_rod_18 : decode cX10_rod 18 = .ok (.bipush (-2), 2) := by decide +kernel
theorem dX10_rod_20 : decode cX10_rod 20 = .ok (.ireturn, 1) := by decide +kernel
theorem dX10_rod_21 : decode cX10_rod 21 = .ok (.aload_n 0, 1) := by decide +kernel
theorem dX10_rod_22 : decode cX10_rod 22 = .ok (.getfield 10, 3) := by decide +kernel
theorem dX10_rod_25 : decode cX10_rod 25 = .ok (.iload_n 2, 1) := by decide +kernel
theorem dX10_rod_26 : decode cX10_rod 26 = .ok (.invokevirtual 78, 3) := by decide +kernel
theorem dX10_rod_29 : decode cX10_rod 29 = .ok (.ifCond .eq 19, 3) := by decide +kernel
theorem dX10_rod_32 : decode cX10_rod 32 = .ok (.aload_n 0, 1) := by decide +kernel
theorem dX10_rod_33 : decode cX10_rod 33 = .ok (.getfield 10, 3) := by decide +kernel
theorem dX10_rod_36 : decode cX10_rod 36 = .ok (.iload_n 3, 1) := by decide +kernel
theorem dX10_rod_37 : decode cX10_rod 37 = .ok (.invokevirtual 78, 3) := by decide +kernel
theorem dX10_rod_40 : decode cX10_rod 40 = .ok (.ifCond .eq 8, 3) := by decide +kernel
theorem dX10_rod_43 : decode cX10_rod 43 = .ok (.iload_n 2, 1) := by decide +kernel
theorem dX10_rod_44 : decode cX10_rod 44 = .ok (.iload_n 3, 1) := by decide +kernel
theorem dX10_rod_45 : decode cX10_rod 45 = .ok (.if_icmp .ne 6, 3) := by decide +kernel
theorem dX10_rod_48 : decode cX10_rod 48 = .ok (.bipush (-2), 2) := by decide +kernel
theorem dX10_rod_50 : decode cX10_rod 50 = .ok (.ireturn, 1) := by decide +kernel
theorem dX10_rod_51 : decode cX10_rod 51 = .ok (.aload_n 0, 1) := by decide +kernel
theorem dX10_rod_52 : decode cX10_rod 52 = .ok (.getfield 10, 3) := by decide +kernel
theorem dX10_rod_55 : decode cX10_rod 55 = .ok (.getfield 56, 3) := by decide +kernel
theorem dX10_rod_58 : decode cX10_rod 58 = .ok (.iload_n 2, 1) := by decide +kernel
theorem dX10_rod_59 : decode cX10_rod 59 = .ok (.invokeinterface 82 2, 5) := by decide +kernel
theorem dX10_rod_64 : decode cX10_rod 64 = .ok (.checkcast 66, 3) := by decide +kernel
theorem dX10_rod_67 : decode cX10_rod 67 = .ok (.astore 5, 2) := by decide +kernel
theorem dX10_rod_69 : decode cX10_rod 69 = .ok (.aload_n 0, 1) := by decide +kernel
theorem dX10_rod_70 : decode cX10_rod 70 = .ok (.getfield 10, 3) := by decide +kernel
theorem dX10_rod_73 : decode cX10_rod 73 = .ok (.getfield 56, 3) := by decide +kernel
theorem dX10_rod_76 : decode cX10_rod 76 = .ok (.iload_n 3, 1) := by decide +kernel
theorem dX10_rod_77 : decode cX10_rod 77 = .ok (.invokeinterface 82 2, 5) := by decide +kernel
theorem dX10_rod_82 : decode cX10_rod 82 = .ok (.checkcast 66, 3) := by decide +kernel
theorem dX10_rod_85 : decode cX10_rod 85 = .ok (.astore 6, 2) := by decide +kernel
theorem dX10_rod_87 : decode cX10_rod 87 = .ok (.aload_n 0, 1) := by decide +kernel
theorem dX10_rod_88 : decode cX10_rod 88 = .ok (.getfield 10, 3) := by decide +kernel
theorem dX10_rod_91 : decode cX10_rod 91 = .ok (.aload 5, 2) := by decide +kernel
theorem dX10_rod_93 : decode cX10_rod 93 = .ok (.aload 6, 2) := by decide +kernel
theorem dX10_rod_95 : decode cX10_rod 95 = .ok (.invokevirtual 106, 3) := by decide +kernel
theorem dX10_rod_98 : decode cX10_rod 98 = .ok (.ifCond .eq 6, 3) := by decide +kernel
theorem dX10_rod_101 : decode cX10_rod 101 = .ok (.bipush (-3), 2) := by decide +kernel
theorem dX10_rod_103 : decode cX10_rod 103 = .ok (.ireturn, 1) := by decide +kernel
theorem dX10_rod_104 : decode cX10_rod 104 = .ok (.aload_n 0, 1) := by decide +kernel
theorem dX10_rod_105 : decode cX10_rod 105 = .ok (.getfield 10, 3) := by decide +kernel
theorem dX10_rod_108 : decode cX10_rod 108 = .ok (.getfield 110, 3) := by decide +kernel
theorem dX10_rod_111 : decode cX10_rod 111 = .ok (.invokeinterface 60 1, 5) := by decide +kernel
theorem dX10_rod_116 : decode cX10_rod 116 = .ok (.bipush 15, 2) := by decide +kernel
theorem dX10_rod_118 : decode cX10_rod 118 = .ok (.if_icmp .lt 6, 3) := by decide +kernel
theorem dX10_rod_121 : decode cX10_rod 121 = .ok (.bipush (-4), 2) := by decide +kernel
theorem dX10_rod_123 : decode cX10_rod 123 = .ok (.ireturn, 1) := by decide +kernel
theorem dX10_rod_124 : decode cX10_rod 124 = .ok (.aload_n 0, 1) := by decide +kernel
theorem dX10_rod_125 : decode cX10_rod 125 = .ok (.getfield 10, 3) := by decide +kernel
theorem dX10_rod_128 : decode cX10_rod 128 = .ok (.getfield 110, 3) := by decide +kernel
theorem dX10_rod_131 : decode cX10_rod 131 = .ok (.new 113, 3) := by decide +kernel
theorem dX10_rod_134 : decode cX10_rod 134 = .ok (.dup, 1) := by decide +kernel
theorem dX10_rod_135 : decode cX10_rod 135 = .ok (.aload_n 0, 1) := by decide +kernel
theorem dX10_rod_136 : decode cX10_rod 136 = .ok (.getfield 10, 3) := by decide +kernel
theorem dX10_rod_139 : decode cX10_rod 139 = .ok (.getfield 110, 3) := by decide +kernel
theorem dX10_rod_142 : decode cX10_rod 142 = .ok (.invokeinterface 60 1, 5) := by decide +kernel
theorem dX10_rod_147 : decode cX10_rod 147 = .ok (.iload_n 1, 1) := by decide +kernel
theorem dX10_rod_148 : decode cX10_rod 148 = .ok (.aload 5, 2) := by decide +kernel
theorem dX10_rod_150 : decode cX10_rod 150 = .ok (.aload 6, 2) := by decide +kernel
theorem dX10_rod_152 : decode cX10_rod 152 = .ok (.iload 4, 2) := by decide +kernel
theorem dX10_rod_154 : decode cX10_rod 154 = .ok (.invokespecial 115, 3) := by decide +kernel
theorem dX10_rod_157 : decode cX10_rod 157 = .ok (.invokeinterface 71 2, 5) := by decide +kernel
theorem dX10_rod_162 : decode cX10_rod 162 = .ok (.pop, 1) := by decide +kernel
theorem dX10_rod_163 : decode cX10_rod 163 = .ok (.aload_n 0, 1) := by decide +kernel
theorem dX10_rod_164 : decode cX10_rod 164 = .ok (.invokevirtual 75, 3) := by decide +kernel
theorem dX10_rod_167 : decode cX10_rod 167 = .ok (.aload_n 0, 1) := by decide +kernel
theorem dX10_rod_168 : decode cX10_rod 168 = .ok (.getfield 10, 3) := by decide +kernel
theorem dX10_rod_171 : decode cX10_rod 171 = .ok (.getfield 110, 3) := by decide +kernel
theorem dX10_rod_174 : decode cX10_rod 174 = .ok (.invokeinterface 60 1, 5) := by decide +kernel
theorem dX10_rod_179 : decode cX10_rod 179 = .ok (.iconst 1, 1) := by decide +kernel
theorem dX10_rod_180 : decode cX10_rod 180 = .ok (.isub, 1) := by decide +kernel
theorem dX10_rod_181 : decode cX10_rod 181 = .ok (.ireturn, 1) := by decide +kernel
theorem dX10_put_0 : decode cX10_put 0 = .ok (.aload_n 0, 1) := by decide +kernel
theorem dX10_put_1 : decode cX10_put 1 = .ok (.getfield 10, 3) := by decide +kernel
theorem dX10_put_4 : decode cX10_put 4 = .ok (.iload_n 1, 1) := by decide +kernel
theorem dX10_put_5 : decode cX10_put 5 = .ok (.invokevirtual 118, 3) := by decide +kernel
theorem dX10_put_8 : decode cX10_put 8 = .ok (.ifCond .ne 6, 3) := by decide +kernel
theorem dX10_put_11 : decode cX10_put 11 = .ok (.bipush (-2), 2) := by decide +kernel
theorem dX10_put_13 : decode cX10_put 13 = .ok (.ireturn, 1) := by decide +kernel
theorem dX10_put_14 : decode cX10_put 14 = .ok (.aload_n 0, 1) := by decide +kernel
theorem dX10_put_15 : decode cX10_put 15 = .ok (.getfield 10, 3) := by decide +kernel
theorem dX10_put_18 : decode cX10_put 18 = .ok (.getfield 110, 3) := by decide +kernel
theorem dX10_put_21 : decode cX10_put 21 = .ok (.iload_n 1, 1) := by decide +kernel
theorem dX10_put_22 : decode cX10_put 22 = .ok (.invokeinterface 82 2, 5) := by decide +kernel
theorem dX10_put_27 : decode cX10_put 27 = .ok (.checkcast 113, 3) := by decide +kernel
theorem dX10_put_30 : decode cX10_put 30 = .ok (.astore_n 3, 1) := by decide +kernel
theorem dX10_put_31 : decode cX10_put 31 = .ok (.aload_n 3, 1) := by decide +kernel
theorem dX10_put_32 : decode cX10_put 32 = .ok (.iconst 3, 1) := by decide +kernel
theorem dX10_put_33 : decode cX10_put 33 = .ok (.invokevirtual 121, 3) := by decide +kernel
theorem dX10_put_36 : decode cX10_put 36 = .ok (.ifCond .ne 6, 3) := by decide +kernel
theorem dX10_put_39 : decode cX10_put 39 = .ok (.bipush (-2), 2) := by decide +kernel
theorem dX10_put_41 : decode cX10_put 41 = .ok (.ireturn, 1) := by decide +kernel
theorem dX10_put_42 : decode cX10_put 42 = .ok (.aload_n 3, 1) := by decide +kernel
theorem dX10_put_43 : decode cX10_put 43 = .ok (.getfield 124, 3) := by decide +kernel
theorem dX10_put_46 : decode cX10_put 46 = .ok (.iload_n 2, 1) := by decide +kernel
theorem dX10_put_47 : decode cX10_put 47 = .ok (.if_icmp .ne 5, 3) := by decide +kernel
theorem dX10_put_50 : decode cX10_put 50 = .ok (.iconst 0, 1) := by decide +kernel
theorem dX10_put_51 : decode cX10_put 51 = .ok (.ireturn, 1) := by decide +kernel
theorem dX10_put_52 : decode cX10_put 52 = .ok (.aload_n 3, 1) := by decide +kernel
theorem dX10_put_53 : decode cX10_put 53 = .ok (.iload_n 2, 1) := by decide +kernel
theorem dX10_put_54 : decode cX10_put 54 = .ok (.putfield 124, 3) := by decide +kernel
theorem dX10_put_57 : decode cX10_put 57 = .ok (.aload_n 0, 1) := by decide +kernel
theorem dX10_put_58 : decode cX10_put 58 = .ok (.invokevirtual 75, 3) := by decide +kernel
theorem dX10_put_61 : decode cX10_put 61 = .ok (.iconst 1, 1) := by decide +kernel
theorem dX10_put_62 : decode cX10_put 62 = .ok (.ireturn, 1) := by decide +kernel
theorem dX10_count_0 : decode cX10_count 0 = .ok (.iload_n 1, 1) := by decide +kernel
theorem dX10_count_1 : decode cX10_count 1 = .ok (.tableswitch 167 0 9 #[55, 68, 81, 94, 107, 115, 123, 146, 154, 162], 55) := by decide +kernel
theorem dX10_count_56 : decode cX10_count 56 = .ok (.aload_n 0, 1) := by decide +kernel
theorem dX10_count_57 : decode cX10_count 57 = .ok (.getfield 10, 3) := by decide +kernel
theorem dX10_count_60 : decode cX10_count 60 = .ok (.getfield 56, 3) := by decide +kernel
theorem dX10_count_63 : decode cX10_count 63 = .ok (.invokeinterface 60 1, 5) := by decide +kernel
theorem dX10_count_68 : decode cX10_count 68 = .ok (.ireturn, 1) := by decide +kernel
theorem dX10_count_69 : decode cX10_count 69 = .ok (.aload_n 0, 1) := by decide +kernel
theorem dX10_count_70 : decode cX10_count 70 = .ok (.getfield 10, 3) := by decide +kernel
theorem dX10_count_73 : decode cX10_count 73 = .ok (.getfield 127, 3) := by decide +kernel
theorem dX10_count_76 : decode cX10_count 76 = .ok (.invokeinterface 60 1, 5) := by decide +kernel
theorem dX10_count_81 : decode cX10_count 81 = .ok (.ireturn, 1) := by decide +kernel
theorem dX10_count_82 : decode cX10_count 82 = .ok (.aload_n 0, 1) := by decide +kernel
theorem dX10_count_83 : decode cX10_count 83 = .ok (.getfield 10, 3) := by decide +kernel
theorem dX10_count_86 : decode cX10_count 86 = .ok (.getfield 110, 3) := by decide +kernel
theorem dX10_count_89 : decode cX10_count 89 = .ok (.invokeinterface 60 1, 5) := by decide +kernel
theorem dX10_count_94 : decode cX10_count 94 = .ok (.ireturn, 1) := by decide +kernel
theorem dX10_count_95 : decode cX10_count 95 = .ok (.aload_n 0, 1) := by decide +kernel
theorem dX10_count_96 : decode cX10_count 96 = .ok (.getfield 10, 3) := by decide +kernel
theorem dX10_count_99 : decode cX10_count 99 = .ok (.getfield 130, 3) := by decide +kernel
theorem dX10_count_102 : decode cX10_count 102 = .ok (.invokeinterface 60 1, 5) := by decide +kernel
theorem dX10_count_107 : decode cX10_count 107 = .ok (.ireturn, 1) := by decide +kernel
theorem dX10_count_108 : decode cX10_count 108 = .ok (.aload_n 0, 1) := by decide +kernel
theorem dX10_count_109 : decode cX10_count 109 = .ok (.getfield 21, 3) := by decide +kernel
theorem dX10_count_112 : decode cX10_count 112 = .ok (.invokevirtual 133, 3) := by decide +kernel
theorem dX10_count_115 : decode cX10_count 115 = .ok (.ireturn, 1) := by decide +kernel
theorem dX10_count_116 : decode cX10_count 116 = .ok (.aload_n 0, 1) := by decide +kernel
theorem dX10_count_117 : decode cX10_count 117 = .ok (.getfield 21, 3) := by decide +kernel
theorem dX10_count_120 : decode cX10_count 120 = .ok (.invokevirtual 136, 3) := by decide +kernel
theorem dX10_count_123 : decode cX10_count 123 = .ok (.ireturn, 1) := by decide +kernel
theorem dX10_count_124 : decode cX10_count 124 = .ok (.iconst 2, 1) := by decide +kernel
theorem dX10_count_125 : decode cX10_count 125 = .ok (.aload_n 0, 1) := by decide +kernel
theorem dX10_count_126 : decode cX10_count 126 = .ok (.getfield 10, 3) := by decide +kernel
theorem dX10_count_129 : decode cX10_count 129 = .ok (.getfield 127, 3) := by decide +kernel
theorem dX10_count_132 : decode cX10_count 132 = .ok (.invokeinterface 60 1, 5) := by decide +kernel
theorem dX10_count_137 : decode cX10_count 137 = .ok (.imul, 1) := by decide +kernel
theorem dX10_count_138 : decode cX10_count 138 = .ok (.aload_n 0, 1) := by decide +kernel
theorem dX10_count_139 : decode cX10_count 139 = .ok (.getfield 21, 3) := by decide +kernel
theorem dX10_count_142 : decode cX10_count 142 = .ok (.invokevirtual 133, 3) := by decide +kernel
theorem dX10_count_145 : decode cX10_count 145 = .ok (.isub, 1) := by decide +kernel
theorem dX10_count_146 : decode cX10_count 146 = .ok (.ireturn, 1) := by decide +kernel
theorem dX10_count_147 : decode cX10_count 147 = .ok (.aload_n 0, 1) := by decide +kernel
theorem dX10_count_148 : decode cX10_count 148 = .ok (.getfield 35, 3) := by decide +kernel
theorem dX10_count_151 : decode cX10_count 151 = .ok (.invokevirtual 139, 3) := by decide +kernel
theorem dX10_count_154 : decode cX10_count 154 = .ok (.ireturn, 1) := by decide +kernel
theorem dX10_count_155 : decode cX10_count 155 = .ok (.aload_n 0, 1) := by decide +kernel
theorem dX10_count_156 : decode cX10_count 156 = .ok (.getfield 35, 3) := by decide +kernel
theorem dX10_count_159 : decode cX10_count 159 = .ok (.invokevirtual 142, 3) := by decide +kernel
theorem dX10_count_162 : decode cX10_count 162 = .ok (.ireturn, 1) := by decide +kernel
theorem dX10_count_163 : decode cX10_count 163 = .ok (.aload_n 0, 1) := by decide +kernel
theorem dX10_count_164 : decode cX10_count 164 = .ok (.invokevirtual 145, 3) := by decide +kernel
theorem dX10_count_167 : decode cX10_count 167 = .ok (.ireturn, 1) := by decide +kernel
theorem dX10_count_168 : decode cX10_count 168 = .ok (.bipush (-2), 2) := by decide +kernel
theorem dX10_count_170 : decode cX10_count 170 = .ok (.ireturn, 1) := by decide +kernel
theorem dX10_pinTold_0 : decode cX10_pinTold 0 = .ok (.aload_n 0, 1) := by decide +kernel
theorem dX10_pinTold_1 : decode cX10_pinTold 1 = .ok (.getfield 10, 3) := by decide +kernel
theorem dX10_pinTold_4 : decode cX10_pinTold 4 = .ok (.iload_n 1, 1) := by decide +kernel
theorem dX10_pinTold_5 : decode cX10_pinTold 5 = .ok (.invokevirtual 78, 3) := by decide +kernel
theorem dX10_pinTold_8 : decode cX10_pinTold 8 = .ok (.ifCond .ne 6, 3) := by decide +kernel
theorem dX10_pinTold_11 : decode cX10_pinTold 11 = .ok (.bipush (-2), 2) := by decide +kernel
theorem dX10_pinTold_13 : decode cX10_pinTold 13 = .ok (.ireturn, 1) := by decide +kernel
theorem dX10_pinTold_14 : decode cX10_pinTold 14 = .ok (.aload_n 0, 1) := by decide +kernel
theorem dX10_pinTold_15 : decode cX10_pinTold 15 = .ok (.getfield 10, 3) := by decide +kernel
theorem dX10_pinTold_18 : decode cX10_pinTold 18 = .ok (.getfield 56, 3) := by decide +kernel
theorem dX10_pinTold_21 : decode cX10_pinTold 21 = .ok (.iload_n 1, 1) := by decide +kernel
theorem dX10_pinTold_22 : decode cX10_pinTold 22 = .ok (.invokeinterface 82 2, 5) := by decide +kernel
theorem dX10_pinTold_27 : decode cX10_pinTold 27 = .ok (.checkcast 66, 3) := by decide +kernel
theorem dX10_pinTold_30 : decode cX10_pinTold 30 = .ok (.astore_n 3, 1) := by decide +kernel
theorem dX10_pinTold_31 : decode cX10_pinTold 31 = .ok (.iload_n 2, 1) := by decide +kernel
theorem dX10_pinTold_32 : decode cX10_pinTold 32 = .ok (.tableswitch 82 0 5 #[40, 45, 50, 63, 72, 77], 40) := by decide +kernel
theorem dX10_pinTold_72 : decode cX10_pinTold 72 = .ok (.aload_n 3, 1) := by decide +kernel
theorem dX10_pinTold_73 : decode cX10_pinTold 73 = .ok (.getfield 86, 3) := by decide +kernel
theorem dX10_pinTold_76 : decode cX10_pinTold 76 = .ok (.ireturn, 1) := by decide +kernel
theorem dX10_pinTold_77 : decode cX10_pinTold 77 = .ok (.aload_n 3, 1) := by decide +kernel
theorem dX10_pinTold_78 : decode cX10_pinTold 78 = .ok (.getfield 90, 3) := by decide +kernel
theorem dX10_pinTold_81 : decode cX10_pinTold 81 = .ok (.ireturn, 1) := by decide +kernel
theorem dX10_pinTold_82 : decode cX10_pinTold 82 = .ok (.aload_n 3, 1) := by decide +kernel
theorem dX10_pinTold_83 : decode cX10_pinTold 83 = .ok (.getfield 93, 3) := by decide +kernel
theorem dX10_pinTold_86 : decode cX10_pinTold 86 = .ok (.ifCond .eq 7, 3) := by decide +kernel
theorem dX10_pinTold_89 : decode cX10_pinTold 89 = .ok (.iconst 1, 1) := by decide +kernel
theorem dX10_pinTold_90 : decode cX10_pinTold 90 = .ok (.goto 4, 3) := by decide +kernel
theorem dX10_pinTold_93 : decode cX10_pinTold 93 = .ok (.iconst 0, 1) := by decide +kernel
theorem dX10_pinTold_94 : decode cX10_pinTold 94 = .ok (.ireturn, 1) := by decide +kernel
theorem dX10_pinTold_95 : decode cX10_pinTold 95 = .ok (.aload_n 0, 1) := by decide +kernel
theorem dX10_pinTold_96 : decode cX10_pinTold 96 = .ok (.getfield 10, 3) := by decide +kernel
theorem dX10_pinTold_99 : decode cX10_pinTold 99 = .ok (.aload_n 3, 1) := by decide +kernel
theorem dX10_pinTold_100 : decode cX10_pinTold 100 = .ok (.invokevirtual 148, 3) := by decide +kernel
theorem dX10_pinTold_103 : decode cX10_pinTold 103 = .ok (.ireturn, 1) := by decide +kernel
theorem dX10_pinTold_104 : decode cX10_pinTold 104 = .ok (.aload_n 3, 1) := by decide +kernel
theorem dX10_pinTold_105 : decode cX10_pinTold 105 = .ok (.getfield 97, 3) := by decide +kernel
theorem dX10_pinTold_108 : decode cX10_pinTold 108 = .ok (.ireturn, 1) := by decide +kernel
theorem dX10_pinTold_109 : decode cX10_pinTold 109 = .ok (.aload_n 3, 1) := by decide +kernel
theorem dX10_pinTold_110 : decode cX10_pinTold 110 = .ok (.getfield 100, 3) := by decide +kernel
theorem dX10_pinTold_113 : decode cX10_pinTold 113 = .ok (.ireturn, 1) := by decide +kernel
theorem dX10_pinTold_114 : decode cX10_pinTold 114 = .ok (.bipush (-2), 2) := by decide +kernel
theorem dX10_pinTold_116 : decode cX10_pinTold 116 = .ok (.ireturn, 1) := by decide +kernel
theorem dX10_rodTold_0 : decode cX10_rodTold 0 = .ok (.aload_n 0, 1) := by decide +kernel
theorem dX10_rodTold_1 : decode cX10_rodTold 1 = .ok (.getfield 10, 3) := by decide +kernel
theorem dX10_rodTold_4 : decode cX10_rodTold 4 = .ok (.iload_n 1, 1) := by decide +kernel
theorem dX10_rodTold_5 : decode cX10_rodTold 5 = .ok (.invokevirtual 118, 3) := by decide +kernel
theorem dX10_rodTold_8 : decode cX10_rodTold 8 = .ok (.ifCond .ne 6, 3) := by decide +kernel
theorem dX10_rodTold_11 : decode cX10_rodTold 11 = .ok (.bipush (-2), 2) := by decide +kernel
theorem dX10_rodTold_13 : decode cX10_rodTold 13 = .ok (.ireturn, 1) := by decide +kernel
theorem dX10_rodTold_14 : decode cX10_rodTold 14 = .ok (.aload_n 0, 1) := by decide +kernel
theorem dX10_rodTold_15 : decode cX10_rodTold 15 = .ok (.getfield 10, 3) := by decide +kernel
theorem dX10_rodTold_18 : decode cX10_rodTold 18 = .ok (.getfield 110, 3) := by decide +kernel
theorem dX10_rodTold_21 : decode cX10_rodTold 21 = .ok (.iload_n 1, 1) := by decide +kernel
theorem dX10_rodTold_22 : decode cX10_rodTold 22 = .ok (.invokeinterface 82 2, 5) := by decide +kernel
theorem dX10_rodTold_27 : decode cX10_rodTold 27 = .ok (.checkcast 113, 3) := by decide +kernel
theorem dX10_rodTold_30 : decode cX10_rodTold 30 = .ok (.astore_n 3, 1) := by decide +kernel
theorem dX10_rodTold_31 : decode cX10_rodTold 31 = .ok (.iload_n 2, 1) := by decide +kernel
theorem dX10_rodTold_32 : decode cX10_rodTold 32 = .ok (.tableswitch 109 0 6 #[44, 49, 57, 65, 70, 83, 100], 44) := by decide +kernel
theorem dX10_rodTold_76 : decode cX10_rodTold 76 = .ok (.aload_n 3, 1) := by decide +kernel
theorem dX10_rodTold_77 : decode cX10_rodTold 77 = .ok (.getfield 152, 3) := by decide +kernel
theorem dX10_rodTold_80 : decode cX10_rodTold 80 = .ok (.ireturn, 1) := by decide +kernel
theorem dX10_rodTold_81 : decode cX10_rodTold 81 = .ok (.aload_n 3, 1) := by decide +kernel
theorem dX10_rodTold_82 : decode cX10_rodTold 82 = .ok (.getfield 155, 3) := by decide +kernel
theorem dX10_rodTold_85 : decode cX10_rodTold 85 = .ok (.getfield 159, 3) := by decide +kernel
theorem dX10_rodTold_88 : decode cX10_rodTold 88 = .ok (.ireturn, 1) := by decide +kernel
theorem dX10_rodTold_89 : decode cX10_rodTold 89 = .ok (.aload_n 3, 1) := by decide +kernel
theorem dX10_rodTold_90 : decode cX10_rodTold 90 = .ok (.getfield 162, 3) := by decide +kernel
theorem dX10_rodTold_93 : decode cX10_rodTold 93 = .ok (.getfield 159, 3) := by decide +kernel
theorem dX10_rodTold_96 : decode cX10_rodTold 96 = .ok (.ireturn, 1) := by decide +kernel
theorem dX10_rodTold_97 : decode cX10_rodTold 97 = .ok (.aload_n 3, 1) := by decide +kernel
theorem dX10_rodTold_98 : decode cX10_rodTold 98 = .ok (.getfield 165, 3) := by decide +kernel
theorem dX10_rodTold_101 : decode cX10_rodTold 101 = .ok (.ireturn, 1) := by decide +kernel
theorem dX10_rodTold_102 : decode cX10_rodTold 102 = .ok (.aload_n 3, 1) := by decide +kernel
theorem dX10_rodTold_103 : decode cX10_rodTold 103 = .ok (.getfield 124, 3) := by decide +kernel
theorem dX10_rodTold_106 : decode cX10_rodTold 106 = .ok (.ifCond .eq 7, 3) := by decide +kernel
theorem dX10_rodTold_109 : decode cX10_rodTold 109 = .ok (.iconst 1, 1) := by decide +kernel
theorem dX10_rodTold_110 : decode cX10_rodTold 110 = .ok (.goto 4, 3) := by decide +kernel
theorem dX10_rodTold_113 : decode cX10_rodTold 113 = .ok (.iconst 0, 1) := by decide +kernel
theorem dX10_rodTold_114 : decode cX10_rodTold 114 = .ok (.ireturn, 1) := by decide +kernel
theorem dX10_rodTold_115 : decode cX10_rodTold 115 = .ok (.aload_n 0, 1) := by decide +kernel
theorem dX10_rodTold_116 : decode cX10_rodTold 116 = .ok (.getfield 21, 3) := by decide +kernel
theorem dX10_rodTold_119 : decode cX10_rodTold 119 = .ok (.aload_n 3, 1) := by decide +kernel
theorem dX10_rodTold_120 : decode cX10_rodTold 120 = .ok (.invokevirtual 168, 3) := by decide +kernel
theorem dX10_rodTold_123 : decode cX10_rodTold 123 = .ok (.ifCond .eq 7, 3) := by decide +kernel
theorem dX10_rodTold_126 : decode cX10_rodTold 126 = .ok (.iconst 1, 1) := by decide +kernel
theorem dX10_rodTold_127 : decode cX10_rodTold 127 = .ok (.goto 4, 3) := by decide +kernel
theorem dX10_rodTold_130 : decode cX10_rodTold 130 = .ok (.iconst 0, 1) := by decide +kernel
theorem dX10_rodTold_131 : decode cX10_rodTold 131 = .ok (.ireturn, 1) := by decide +kernel
theorem dX10_rodTold_132 : decode cX10_rodTold 132 = .ok (.aload_n 0, 1) := by decide +kernel
theorem dX10_rodTold_133 : decode cX10_rodTold 133 = .ok (.getfield 35, 3) := by decide +kernel
theorem dX10_rodTold_136 : decode cX10_rodTold 136 = .ok (.aload_n 3, 1) := by decide +kernel
theorem dX10_rodTold_137 : decode cX10_rodTold 137 = .ok (.invokevirtual 172, 3) := by decide +kernel
theorem dX10_rodTold_140 : decode cX10_rodTold 140 = .ok (.ireturn, 1) := by decide +kernel
theorem dX10_rodTold_141 : decode cX10_rodTold 141 = .ok (.bipush (-2), 2) := by decide +kernel
theorem dX10_rodTold_143 : decode cX10_rodTold 143 = .ok (.ireturn, 1) := by decide +kernel
theorem dX10_motion_0 : decode cX10_motion 0 = .ok (.aload_n 0, 1) := by decide +kernel
theorem dX10_motion_1 : decode cX10_motion 1 = .ok (.getfield 10, 3) := by decide +kernel
theorem dX10_motion_4 : decode cX10_motion 4 = .ok (.iload_n 2, 1) := by decide +kernel
theorem dX10_motion_5 : decode cX10_motion 5 = .ok (.invokevirtual 78, 3) := by decide +kernel
theorem dX10_motion_8 : decode cX10_motion 8 = .ok (.ifCond .eq 23, 3) := by decide +kernel
theorem dX10_motion_11 : decode cX10_motion 11 = .ok (.iload_n 3, 1) := by decide +kernel
theorem dX10_motion_12 : decode cX10_motion 12 = .ok (.ifCond .lt 19, 3) := by decide +kernel
theorem dX10_motion_15 : decode cX10_motion 15 = .ok (.iload_n 3, 1) := by decide +kernel
theorem dX10_motion_16 : decode cX10_motion 16 = .ok (.iconst 1, 1) := by decide +kernel
theorem dX10_motion_17 : decode cX10_motion 17 = .ok (.if_icmp .gt 14, 3) := by decide +kernel
theorem dX10_motion_20 : decode cX10_motion 20 = .ok (.aload_n 0, 1) := by decide +kernel
theorem dX10_motion_21 : decode cX10_motion 21 = .ok (.getfield 21, 3) := by decide +kernel
theorem dX10_motion_24 : decode cX10_motion 24 = .ok (.iload_n 1, 1) := by decide +kernel
theorem dX10_motion_25 : decode cX10_motion 25 = .ok (.invokevirtual 176, 3) := by decide +kernel
theorem dX10_motion_28 : decode cX10_motion 28 = .ok (.ifCond .ne 7, 3) := by decide +kernel
theorem dX10_motion_31 : decode cX10_motion 31 = .ok (.ldc2_w 179, 3) := by decide +kernel
theorem dX10_motion_34 : decode cX10_motion 34 = .ok (.lreturn, 1) := by decide +kernel
theorem dX10_motion_35 : decode cX10_motion 35 = .ok (.aload_n 0, 1) := by decide +kernel
theorem dX10_motion_36 : decode cX10_motion 36 = .ok (.getfield 21, 3) := by decide +kernel
theorem dX10_motion_39 : decode cX10_motion 39 = .ok (.iload_n 1, 1) := by decide +kernel
theorem dX10_motion_40 : decode cX10_motion 40 = .ok (.aload_n 0, 1) := by decide +kernel
theorem dX10_motion_41 : decode cX10_motion 41 = .ok (.getfield 10, 3) := by decide +kernel
theorem dX10_motion_44 : decode cX10_motion 44 = .ok (.getfield 56, 3) := by decide +kernel
theorem dX10_motion_47 : decode cX10_motion 47 = .ok (.iload_n 2, 1) := by decide +kernel
theorem dX10_motion_48 : decode cX10_motion 48 = .ok (.invokeinterface 82 2, 5) := by decide +kernel
theorem dX10_motion_53 : decode cX10_motion 53 = .ok (.checkcast 66, 3) := by decide +kernel
theorem dX10_motion_56 : decode cX10_motion 56 = .ok (.iload_n 3, 1) := by decide +kernel
theorem dX10_motion_57 : decode cX10_motion 57 = .ok (.invokevirtual 181, 3) := by decide +kernel
theorem dX10_motion_60 : decode cX10_motion 60 = .ok (.lreturn, 1) := by decide +kernel
theorem dX10_stress_0 : decode cX10_stress 0 = .ok (.aload_n 0, 1) := by decide +kernel
theorem dX10_stress_1 : decode cX10_stress 1 = .ok (.getfield 10, 3) := by decide +kernel
theorem dX10_stress_4 : decode cX10_stress 4 = .ok (.iload_n 2, 1) := by decide +kernel
theorem dX10_stress_5 : decode cX10_stress 5 = .ok (.invokevirtual 118, 3) := by decide +kernel
theorem dX10_stress_8 : decode cX10_stress 8 = .ok (.ifCond .eq 14, 3) := by decide +kernel
theorem dX10_stress_11 : decode cX10_stress 11 = .ok (.aload_n 0, 1) := by decide +kernel
theorem dX10_stress_12 : decode cX10_stress 12 = .ok (.getfield 21, 3) := by decide +kernel
theorem dX10_stress_15 : decode cX10_stress 15 = .ok (.iload_n 1, 1) := by decide +kernel
theorem dX10_stress_16 : decode cX10_stress 16 = .ok (.invokevirtual 185, 3) := by decide +kernel
theorem dX10_stress_19 : decode cX10_stress 19 = .ok (.ifCond .ne 7, 3) := by decide +kernel
theorem dX10_stress_22 : decode cX10_stress 22 = .ok (.ldc2_w 179, 3) := by decide +kernel
theorem dX10_stress_25 : decode cX10_stress 25 = .ok (.lreturn, 1) := by decide +kernel
theorem dX10_stress_26 : decode cX10_stress 26 = .ok (.aload_n 0, 1) := by decide +kernel
theorem dX10_stress_27 : decode cX10_stress 27 = .ok (.getfield 21, 3) := by decide +kernel
theorem dX10_stress_30 : decode cX10_stress 30 = .ok (.iload_n 1, 1) := by decide +kernel
theorem dX10_stress_31 : decode cX10_stress 31 = .ok (.aload_n 0, 1) := by decide +kernel
theorem dX10_stress_32 : decode cX10_stress 32 = .ok (.getfield 10, 3) := by decide +kernel
theorem dX10_stress_35 : decode cX10_stress 35 = .ok (.getfield 110, 3) := by decide +kernel
theorem dX10_stress_38 : decode cX10_stress 38 = .ok (.iload_n 2, 1) := by decide +kernel
theorem dX10_stress_39 : decode cX10_stress 39 = .ok (.invokeinterface 82 2, 5) := by decide +kernel
theorem dX10_stress_44 : decode cX10_stress 44 = .ok (.checkcast 113, 3) := by decide +kernel
theorem dX10_stress_47 : decode cX10_stress 47 = .ok (.invokevirtual 188, 3) := by decide +kernel
theorem dX10_stress_50 : decode cX10_stress 50 = .ok (.lreturn, 1) := by decide +kernel
theorem dX10_stiff_0 : decode cX10_stiff 0 = .ok (.aload_n 0, 1) := by decide +kernel
theorem dX10_stiff_1 : decode cX10_stiff 1 = .ok (.getfield 21, 3) := by decide +kernel
theorem dX10_stiff_4 : decode cX10_stiff 4 = .ok (.invokevirtual 133, 3) := by decide +kernel
theorem dX10_stiff_7 : decode cX10_stiff 7 = .ok (.aload_n 0, 1) := by decide +kernel
theorem dX10_stiff_8 : decode cX10_stiff 8 = .ok (.getfield 10, 3) := by decide +kernel
theorem dX10_stiff_11 : decode cX10_stiff 11 = .ok (.invokevirtual 192, 3) := by decide +kernel
theorem dX10_stiff_14 : decode cX10_stiff 14 = .ok (.if_icmp .ne 7, 3) := by decide +kernel
theorem dX10_stiff_17 : decode cX10_stiff 17 = .ok (.iconst 1, 1) := by decide +kernel
theorem dX10_stiff_18 : decode cX10_stiff 18 = .ok (.goto 4, 3) := by decide +kernel
theorem dX10_stiff_21 : decode cX10_stiff 21 = .ok (.iconst 0, 1) := by decide +kernel
theorem dX10_stiff_22 : decode cX10_stiff 22 = .ok (.ireturn, 1) := by decide +kernel
theorem dX10_tight_0 : decode cX10_tight 0 = .ok (.aload_n 0, 1) := by decide +kernel
theorem dX10_tight_1 : decode cX10_tight 1 = .ok (.getfield 21, 3) := by decide +kernel
theorem dX10_tight_4 : decode cX10_tight 4 = .ok (.invokevirtual 136, 3) := by decide +kernel
theorem dX10_tight_7 : decode cX10_tight 7 = .ok (.iconst 1, 1) := by decide +kernel
theorem dX10_tight_8 : decode cX10_tight 8 = .ok (.if_icmp .eq 5, 3) := by decide +kernel
theorem dX10_tight_11 : decode cX10_tight 11 = .ok (.iconst (-1), 1) := by decide +kernel
theorem dX10_tight_12 : decode cX10_tight 12 = .ok (.ireturn, 1) := by decide +kernel
theorem dX10_tight_13 : decode cX10_tight 13 = .ok (.aload_n 0, 1) := by decide +kernel
theorem dX10_tight_14 : decode cX10_tight 14 = .ok (.iconst 1, 1) := by decide +kernel
theorem dX10_tight_15 : decode cX10_tight 15 = .ok (.invokevirtual 195, 3) := by decide +kernel
theorem dX10_tight_18 : decode cX10_tight 18 = .ok (.ifCond .ne 11, 3) := by decide +kernel
theorem dX10_tight_21 : decode cX10_tight 21 = .ok (.aload_n 0, 1) := by decide +kernel
theorem dX10_tight_22 : decode cX10_tight 22 = .ok (.iconst (-1), 1) := by decide +kernel
theorem dX10_tight_23 : decode cX10_tight 23 = .ok (.invokevirtual 195, 3) := by decide +kernel
theorem dX10_tight_26 : decode cX10_tight 26 = .ok (.ifCond .eq 7, 3) := by decide +kernel
theorem dX10_tight_29 : decode cX10_tight 29 = .ok (.iconst 1, 1) := by decide +kernel
theorem dX10_tight_30 : decode cX10_tight 30 = .ok (.goto 4, 3) := by decide +kernel
theorem dX10_tight_33 : decode cX10_tight 33 = .ok (.iconst 0, 1) := by decide +kernel
theorem dX10_tight_34 : decode cX10_tight 34 = .ok (.ireturn, 1) := by decide +kernel
theorem dX10_load_0 : decode cX10_load 0 = .ok (.aload_n 0, 1) := by decide +kernel
theorem dX10_load_1 : decode cX10_load 1 = .ok (.getfield 10, 3) := by decide +kernel
theorem dX10_load_4 : decode cX10_load 4 = .ok (.iload_n 1, 1) := by decide +kernel
theorem dX10_load_5 : decode cX10_load 5 = .ok (.invokevirtual 78, 3) := by decide +kernel
theorem dX10_load_8 : decode cX10_load 8 = .ok (.ifCond .eq 17, 3) := by decide +kernel
theorem dX10_load_11 : decode cX10_load 11 = .ok (.iload_n 2, 1) := by decide +kernel
theorem dX10_load_12 : decode cX10_load 12 = .ok (.invokestatic 198, 3) := by decide +kernel
theorem dX10_load_15 : decode cX10_load 15 = .ok (.ifCond .eq 10, 3) := by decide +kernel
theorem dX10_load_18 : decode cX10_load 18 = .ok (.iload_n 3, 1) := by decide +kernel
theorem dX10_load_19 : decode cX10_load 19 = .ok (.invokestatic 198, 3) := by decide +kernel
theorem dX10_load_22 : decode cX10_load 22 = .ok (.ifCond .ne 6, 3) := by decide +kernel
theorem dX10_load_25 : decode cX10_load 25 = .ok (.bipush (-2), 2) := by decide +kernel
theorem dX10_load_27 : decode cX10_load 27 = .ok (.ireturn, 1) := by decide +kernel
theorem dX10_load_28 : decode cX10_load 28 = .ok (.aload_n 0, 1) := by decide +kernel
theorem dX10_load_29 : decode cX10_load 29 = .ok (.getfield 10, 3) := by decide +kernel
theorem dX10_load_32 : decode cX10_load 32 = .ok (.getfield 56, 3) := by decide +kernel
theorem dX10_load_35 : decode cX10_load 35 = .ok (.iload_n 1, 1) := by decide +kernel
theorem dX10_load_36 : decode cX10_load 36 = .ok (.invokeinterface 82 2, 5) := by decide +kernel
theorem dX10_load_41 : decode cX10_load 41 = .ok (.checkcast 66, 3) := by decide +kernel
theorem dX10_load_44 : decode cX10_load 44 = .ok (.astore 4, 2) := by decide +kernel
theorem dX10_load_46 : decode cX10_load 46 = .ok (.aload 4, 2) := by decide +kernel
theorem dX10_load_48 : decode cX10_load 48 = .ok (.getfield 93, 3) := by decide +kernel
theorem dX10_load_51 : decode cX10_load 51 = .ok (.ifCond .eq 6, 3) := by decide +kernel
theorem dX10_load_54 : decode cX10_load 54 = .ok (.bipush (-3), 2) := by decide +kernel
theorem dX10_load_56 : decode cX10_load 56 = .ok (.ireturn, 1) := by decide +kernel
theorem dX10_load_57 : decode cX10_load 57 = .ok (.aload 4, 2) := by decide +kernel
theorem dX10_load_59 : decode cX10_load 59 = .ok (.iload_n 2, 1) := by decide +kernel
theorem dX10_load_60 : decode cX10_load 60 = .ok (.putfield 97, 3) := by decide +kernel
theorem dX10_load_63 : decode cX10_load 63 = .ok (.aload 4, 2) := by decide +kernel
theorem dX10_load_65 : decode cX10_load 65 = .ok (.iload_n 3, 1) := by decide +kernel
theorem dX10_load_66 : decode cX10_load 66 = .ok (.putfield 100, 3) := by decide +kernel
theorem dX10_load_69 : decode cX10_load 69 = .ok (.aload_n 0, 1) := by decide +kernel
theorem dX10_load_70 : decode cX10_load 70 = .ok (.invokevirtual 75, 3) := by decide +kernel
theorem dX10_load_73 : decode cX10_load 73 = .ok (.iconst 1, 1) := by decide +kernel
theorem dX10_load_74 : decode cX10_load 74 = .ok (.ireturn, 1) := by decide +kernel
theorem dX10_carry_0 : decode cX10_carry 0 = .ok (.aload_n 0, 1) := by decide +kernel
theorem dX10_carry_1 : decode cX10_carry 1 = .ok (.getfield 21, 3) := by decide +kernel
theorem dX10_carry_4 : decode cX10_carry 4 = .ok (.invokevirtual 201, 3) := by decide +kernel
theorem dX10_carry_7 : decode cX10_carry 7 = .ok (.ifCond .eq 7, 3) := by decide +kernel
theorem dX10_carry_10 : decode cX10_carry 10 = .ok (.iconst 1, 1) := by decide +kernel
theorem dX10_carry_11 : decode cX10_carry 11 = .ok (.goto 4, 3) := by decide +kernel
theorem dX10_carry_14 : decode cX10_carry 14 = .ok (.iconst 0, 1) := by decide +kernel
theorem dX10_carry_15 : decode cX10_carry 15 = .ok (.ireturn, 1) := by decide +kernel
theorem dX10_force_0 : decode cX10_force 0 = .ok (.aload_n 0, 1) := by decide +kernel
theorem dX10_force_1 : decode cX10_force 1 = .ok (.getfield 10, 3) := by decide +kernel
theorem dX10_force_4 : decode cX10_force 4 = .ok (.iload_n 1, 1) := by decide +kernel
theorem dX10_force_5 : decode cX10_force 5 = .ok (.invokevirtual 118, 3) := by decide +kernel
theorem dX10_force_8 : decode cX10_force 8 = .ok (.ifCond .eq 22, 3) := by decide +kernel
theorem dX10_force_11 : decode cX10_force 11 = .ok (.iload_n 2, 1) := by decide +kernel
theorem dX10_force_12 : decode cX10_force 12 = .ok (.ifCond .lt 18, 3) := by decide +kernel
theorem dX10_force_15 : decode cX10_force 15 = .ok (.iload_n 2, 1) := by decide +kernel
theorem dX10_force_16 : decode cX10_force 16 = .ok (.iconst 1, 1) := by decide +kernel
theorem dX10_force_17 : decode cX10_force 17 = .ok (.if_icmp .gt 13, 3) := by decide +kernel
theorem dX10_force_20 : decode cX10_force 20 = .ok (.aload_n 0, 1) := by decide +kernel
theorem dX10_force_21 : decode cX10_force 21 = .ok (.getfield 21, 3) := by decide +kernel
theorem dX10_force_24 : decode cX10_force 24 = .ok (.invokevirtual 201, 3) := by decide +kernel
theorem dX10_force_27 : decode cX10_force 27 = .ok (.ifCond .ne 7, 3) := by decide +kernel
theorem dX10_force_30 : decode cX10_force 30 = .ok (.ldc2_w 179, 3) := by decide +kernel
theorem dX10_force_33 : decode cX10_force 33 = .ok (.lreturn, 1) := by decide +kernel
theorem dX10_force_34 : decode cX10_force 34 = .ok (.aload_n 0, 1) := by decide +kernel
theorem dX10_force_35 : decode cX10_force 35 = .ok (.getfield 10, 3) := by decide +kernel
theorem dX10_force_38 : decode cX10_force 38 = .ok (.getfield 110, 3) := by decide +kernel
theorem dX10_force_41 : decode cX10_force 41 = .ok (.iload_n 1, 1) := by decide +kernel
theorem dX10_force_42 : decode cX10_force 42 = .ok (.invokeinterface 82 2, 5) := by decide +kernel
theorem dX10_force_47 : decode cX10_force 47 = .ok (.checkcast 113, 3) := by decide +kernel
theorem dX10_force_50 : decode cX10_force 50 = .ok (.astore_n 3, 1) := by decide +kernel
theorem dX10_force_51 : decode cX10_force 51 = .ok (.iload_n 2, 1) := by decide +kernel
theorem dX10_force_52 : decode cX10_force 52 = .ok (.ifCond .ne 14, 3) := by decide +kernel
theorem dX10_force_55 : decode cX10_force 55 = .ok (.aload_n 0, 1) := by decide +kernel
theorem dX10_force_56 : decode cX10_force 56 = .ok (.getfield 21, 3) := by decide +kernel
theorem dX10_force_59 : decode cX10_force 59 = .ok (.aload_n 3, 1) := by decide +kernel
theorem dX10_force_60 : decode cX10_force 60 = .ok (.invokevirtual 205, 3) := by decide +kernel
theorem dX10_force_63 : decode cX10_force 63 = .ok (.goto 11, 3) := by decide +kernel
theorem dX10_force_66 : decode cX10_force 66 = .ok (.aload_n 0, 1) := by decide +kernel
theorem dX10_force_67 : decode cX10_force 67 = .ok (.getfield 21, 3) := by decide +kernel
theorem dX10_force_70 : decode cX10_force 70 = .ok (.aload_n 3, 1) := by decide +kernel
theorem dX10_force_71 : decode cX10_force 71 = .ok (.invokevirtual 209, 3) := by decide +kernel
theorem dX10_force_74 : decode cX10_force 74 = .ok (.lreturn, 1) := by decide +kernel
theorem dX10_gives_0 : decode cX10_gives 0 = .ok (.iconst 0, 1) := by decide +kernel
theorem dX10_gives_1 : decode cX10_gives 1 = .ok (.istore_n 1, 1) := by decide +kernel
theorem dX10_gives_2 : decode cX10_gives 2 = .ok (.iload_n 1, 1) := by decide +kernel
theorem dX10_gives_3 : decode cX10_gives 3 = .ok (.aload_n 0, 1) := by decide +kernel
theorem dX10_gives_4 : decode cX10_gives 4 = .ok (.getfield 21, 3) := by decide +kernel
theorem dX10_gives_7 : decode cX10_gives 7 = .ok (.invokevirtual 133, 3) := by decide +kernel
theorem dX10_gives_10 : decode cX10_gives 10 = .ok (.if_icmp .ge 24, 3) := by decide +kernel
theorem dX10_gives_13 : decode cX10_gives 13 = .ok (.aload_n 0, 1) := by decide +kernel
theorem dX10_gives_14 : decode cX10_gives 14 = .ok (.getfield 21, 3) := by decide +kernel
theorem dX10_gives_17 : decode cX10_gives 17 = .ok (.iload_n 1, 1) := by decide +kernel
theorem dX10_gives_18 : decode cX10_gives 18 = .ok (.invokevirtual 212, 3) := by decide +kernel
theorem dX10_gives_21 : decode cX10_gives 21 = .ok (.lconst 0, 1) := by decide +kernel
theorem dX10_gives_22 : decode cX10_gives 22 = .ok (.lcmp, 1) := by decide +kernel
theorem dX10_gives_23 : decode cX10_gives 23 = .ok (.ifCond .eq 5, 3) := by decide +kernel
theorem dX10_gives_26 : decode cX10_gives 26 = .ok (.iload_n 1, 1) := by decide +kernel
theorem dX10_gives_27 : decode cX10_gives 27 = .ok (.ireturn, 1) := by decide +kernel
theorem dX10_gives_28 : decode cX10_gives 28 = .ok (.iinc 1 1, 3) := by decide +kernel
theorem dX10_gives_31 : decode cX10_gives 31 = .ok (.goto (-29), 3) := by decide +kernel
theorem dX10_gives_34 : decode cX10_gives 34 = .ok (.iconst (-1), 1) := by decide +kernel
theorem dX10_gives_35 : decode cX10_gives 35 = .ok (.ireturn, 1) := by decide +kernel
theorem dX10_could_0 : decode cX10_could 0 = .ok (.aload_n 0, 1) := by decide +kernel
theorem dX10_could_1 : decode cX10_could 1 = .ok (.getfield 35, 3) := by decide +kernel
theorem dX10_could_4 : decode cX10_could 4 = .ok (.invokevirtual 216, 3) := by decide +kernel
theorem dX10_could_7 : decode cX10_could 7 = .ok (.ifCond .eq 7, 3) := by decide +kernel
theorem dX10_could_10 : decode cX10_could 10 = .ok (.iconst 1, 1) := by decide +kernel
theorem dX10_could_11 : decode cX10_could 11 = .ok (.goto 4, 3) := by decide +kernel
theorem dX10_could_14 : decode cX10_could 14 = .ok (.iconst 0, 1) := by decide +kernel
theorem dX10_could_15 : decode cX10_could 15 = .ok (.ireturn, 1) := by decide +kernel
theorem dX10_body_0 : decode cX10_body 0 = .ok (.aload_n 0, 1) := by decide +kernel
theorem dX10_body_1 : decode cX10_body 1 = .ok (.getfield 35, 3) := by decide +kernel
theorem dX10_body_4 : decode cX10_body 4 = .ok (.iload_n 1, 1) := by decide +kernel
theorem dX10_body_5 : decode cX10_body 5 = .ok (.invokevirtual 219, 3) := by decide +kernel
theorem dX10_body_8 : decode cX10_body 8 = .ok (.ifCond .eq 15, 3) := by decide +kernel
theorem dX10_body_11 : decode cX10_body 11 = .ok (.aload_n 0, 1) := by decide +kernel
theorem dX10_body_12 : decode cX10_body 12 = .ok (.getfield 35, 3) := by decide +kernel
theorem dX10_body_15 : decode cX10_body 15 = .ok (.iload_n 1, 1) := by decide +kernel
theorem dX10_body_16 : decode cX10_body 16 = .ok (.iload_n 2, 1) := by decide +kernel
theorem dX10_body_17 : decode cX10_body 17 = .ok (.invokevirtual 222, 3) := by decide +kernel
theorem dX10_body_20 : decode cX10_body 20 = .ok (.goto 5, 3) := by decide +kernel
theorem dX10_body_23 : decode cX10_body 23 = .ok (.bipush (-2), 2) := by decide +kernel
theorem dX10_body_25 : decode cX10_body 25 = .ok (.ireturn, 1) := by decide +kernel
theorem dX10_plan_0 : decode cX10_plan 0 = .ok (.aload_n 0, 1) := by decide +kernel
theorem dX10_plan_1 : decode cX10_plan 1 = .ok (.getfield 28, 3) := by decide +kernel
theorem dX10_plan_4 : decode cX10_plan 4 = .ok (.iload_n 1, 1) := by decide +kernel
theorem dX10_plan_5 : decode cX10_plan 5 = .ok (.invokevirtual 226, 3) := by decide +kernel
theorem dX10_plan_8 : decode cX10_plan 8 = .ok (.ireturn, 1) := by decide +kernel
theorem dX10_cheapest_0 : decode cX10_cheapest 0 = .ok (.aload_n 0, 1) := by decide +kernel
theorem dX10_cheapest_1 : decode cX10_cheapest 1 = .ok (.getfield 28, 3) := by decide +kernel
theorem dX10_cheapest_4 : decode cX10_cheapest 4 = .ok (.invokevirtual 230, 3) := by decide +kernel
theorem dX10_cheapest_7 : decode cX10_cheapest 7 = .ok (.ifCond .eq 13, 3) := by decide +kernel
theorem dX10_cheapest_10 : decode cX10_cheapest 10 = .ok (.aload_n 0, 1) := by decide +kernel
theorem dX10_cheapest_11 : decode cX10_cheapest 11 = .ok (.getfield 28, 3) := by decide +kernel
theorem dX10_cheapest_14 : decode cX10_cheapest 14 = .ok (.invokevirtual 233, 3) := by decide +kernel
theorem dX10_cheapest_17 : decode cX10_cheapest 17 = .ok (.goto 4, 3) := by decide +kernel
theorem dX10_cheapest_20 : decode cX10_cheapest 20 = .ok (.iconst (-1), 1) := by decide +kernel
theorem dX10_cheapest_21 : decode cX10_cheapest 21 = .ok (.ireturn, 1) := by decide +kernel
theorem dX10_tray_0 : decode cX10_tray 0 = .ok (.aload_n 0, 1) := by decide +kernel
theorem dX10_tray_1 : decode cX10_tray 1 = .ok (.getfield 44, 3) := by decide +kernel
theorem dX10_tray_4 : decode cX10_tray 4 = .ok (.iload_n 1, 1) := by decide +kernel
theorem dX10_tray_5 : decode cX10_tray 5 = .ok (.iload_n 2, 1) := by decide +kernel
theorem dX10_tray_6 : decode cX10_tray 6 = .ok (.iload_n 3, 1) := by decide +kernel
theorem dX10_tray_7 : decode cX10_tray 7 = .ok (.invokevirtual 236, 3) := by decide +kernel
theorem dX10_tray_10 : decode cX10_tray 10 = .ok (.ireturn, 1) := by decide +kernel
theorem dX10_forge_0 : decode cX10_forge 0 = .ok (.aload_n 0, 1) := by decide +kernel
theorem dX10_forge_1 : decode cX10_forge 1 = .ok (.getfield 44, 3) := by decide +kernel
theorem dX10_forge_4 : decode cX10_forge 4 = .ok (.iload_n 1, 1) := by decide +kernel
theorem dX10_forge_5 : decode cX10_forge 5 = .ok (.iload_n 2, 1) := by decide +kernel
theorem dX10_forge_6 : decode cX10_forge 6 = .ok (.iload_n 3, 1) := by decide +kernel
theorem dX10_forge_7 : decode cX10_forge 7 = .ok (.invokevirtual 240, 3) := by decide +kernel
theorem dX10_forge_10 : decode cX10_forge 10 = .ok (.ireturn, 1) := by decide +kernel
theorem dX10_status_0 : decode cX10_status 0 = .ok (.aload_n 0, 1) := by decide +kernel
theorem dX10_status_1 : decode cX10_status 1 = .ok (.getfield 44, 3) := by decide +kernel
theorem dX10_status_4 : decode cX10_status 4 = .ok (.invokevirtual 243, 3) := by decide +kernel
theorem dX10_status_7 : decode cX10_status 7 = .ok (.ireturn, 1) := by decide +kernel
theorem dX10_isPlace_0 : decode cX10_isPlace 0 = .ok (.iload_n 0, 1) := by decide +kernel
theorem dX10_isPlace_1 : decode cX10_isPlace 1 = .ok (.ifCond .lt 21, 3) := by decide +kernel
theorem dX10_isPlace_4 : decode cX10_isPlace 4 = .ok (.iload_n 0, 1) := by decide +kernel
theorem dX10_isPlace_5 : decode cX10_isPlace 5 = .ok (.iconst 5, 1) := by decide +kernel
theorem dX10_isPlace_6 : decode cX10_isPlace 6 = .ok (.if_icmp .gt 16, 3) := by decide +kernel
theorem dX10_isPlace_9 : decode cX10_isPlace 9 = .ok (.iload_n 1, 1) := by decide +kernel
theorem dX10_isPlace_10 : decode cX10_isPlace 10 = .ok (.ifCond .lt 12, 3) := by decide +kernel
theorem dX10_isPlace_13 : decode cX10_isPlace 13 = .ok (.iload_n 1, 1) := by decide +kernel
theorem dX10_isPlace_14 : decode cX10_isPlace 14 = .ok (.iconst 5, 1) := by decide +kernel
theorem dX10_isPlace_15 : decode cX10_isPlace 15 = .ok (.if_icmp .gt 7, 3) := by decide +kernel
theorem dX10_isPlace_18 : decode cX10_isPlace 18 = .ok (.iconst 1, 1) := by decide +kernel
theorem dX10_isPlace_19 : decode cX10_isPlace 19 = .ok (.goto 4, 3) := by decide +kernel
theorem dX10_isPlace_22 : decode cX10_isPlace 22 = .ok (.iconst 0, 1) := by decide +kernel
theorem dX10_isPlace_23 : decode cX10_isPlace 23 = .ok (.ireturn, 1) := by decide +kernel
theorem dX10_isForce_0 : decode cX10_isForce 0 = .ok (.iload_n 0, 1) := by decide +kernel
theorem dX10_isForce_1 : decode cX10_isForce 1 = .ok (.bipush (-20), 2) := by decide +kernel
theorem dX10_isForce_3 : decode cX10_isForce 3 = .ok (.if_icmp .lt 13, 3) := by decide +kernel
theorem dX10_isForce_6 : decode cX10_isForce 6 = .ok (.iload_n 0, 1) := by decide +kernel
theorem dX10_isForce_7 : decode cX10_isForce 7 = .ok (.bipush 20, 2) := by decide +kernel
theorem dX10_isForce_9 : decode cX10_isForce 9 = .ok (.if_icmp .gt 7, 3) := by decide +kernel
theorem dX10_isForce_12 : decode cX10_isForce 12 = .ok (.iconst 1, 1) := by decide +kernel
theorem dX10_isForce_13 : decode cX10_isForce 13 = .ok (.goto 4, 3) := by decide +kernel
theorem dX10_isForce_16 : decode cX10_isForce 16 = .ok (.iconst 0, 1) := by decide +kernel
theorem dX10_isForce_17 : decode cX10_isForce 17 = .ok (.ireturn, 1) := by decide +kernel
theorem dX10_isPriceOf_0 : decode cX10_isPriceOf 0 = .ok (.iload_n 0, 1) := by decide +kernel
theorem dX10_isPriceOf_1 : decode cX10_isPriceOf 1 = .ok (.iconst 3, 1) := by decide +kernel
theorem dX10_isPriceOf_2 : decode cX10_isPriceOf 2 = .ok (.if_icmp .ne 23, 3) := by decide +kernel
theorem dX10_isPriceOf_5 : decode cX10_isPriceOf 5 = .ok (.iload_n 1, 1) := by decide +kernel
theorem dX10_isPriceOf_6 : decode cX10_isPriceOf 6 = .ok (.iconst 1, 1) := by decide +kernel
theorem dX10_isPriceOf_7 : decode cX10_isPriceOf 7 = .ok (.if_icmp .lt 14, 3) := by decide +kernel
theorem dX10_isPriceOf_10 : decode cX10_isPriceOf 10 = .ok (.iload_n 1, 1) := by decide +kernel
theorem dX10_isPriceOf_11 : decode cX10_isPriceOf 11 = .ok (.sipush 1000, 3) := by decide +kernel
theorem dX10_isPriceOf_14 : decode cX10_isPriceOf 14 = .ok (.if_icmp .gt 7, 3) := by decide +kernel
theorem dX10_isPriceOf_17 : decode cX10_isPriceOf 17 = .ok (.iconst 1, 1) := by decide +kernel
theorem dX10_isPriceOf_18 : decode cX10_isPriceOf 18 = .ok (.goto 16, 3) := by decide +kernel
theorem dX10_isPriceOf_21 : decode cX10_isPriceOf 21 = .ok (.iconst 0, 1) := by decide +kernel
theorem dX10_isPriceOf_22 : decode cX10_isPriceOf 22 = .ok (.goto 12, 3) := by decide +kernel
theorem dX10_isPriceOf_25 : decode cX10_isPriceOf 25 = .ok (.iload_n 1, 1) := by decide +kernel
theorem dX10_isPriceOf_26 : decode cX10_isPriceOf 26 = .ok (.ifCond .ne 7, 3) := by decide +kernel
theorem dX10_isPriceOf_29 : decode cX10_isPriceOf 29 = .ok (.iconst 1, 1) := by decide +kernel
theorem dX10_isPriceOf_30 : decode cX10_isPriceOf 30 = .ok (.goto 4, 3) := by decide +kernel
theorem dX10_isPriceOf_33 : decode cX10_isPriceOf 33 = .ok (.iconst 0, 1) := by decide +kernel
theorem dX10_isPriceOf_34 : decode cX10_isPriceOf 34 = .ok (.ireturn, 1) := by decide +kernel
theorem dX10_renew_0 : decode cX10_renew 0 = .ok (.aload_n 0, 1) := by decide +kernel
theorem dX10_renew_1 : decode cX10_renew 1 = .ok (.getfield 10, 3) := by decide +kernel
theorem dX10_renew_4 : decode cX10_renew 4 = .ok (.invokevirtual 246, 3) := by decide +kernel
theorem dX10_renew_7 : decode cX10_renew 7 = .ok (.aload_n 0, 1) := by decide +kernel
theorem dX10_renew_8 : decode cX10_renew 8 = .ok (.getfield 21, 3) := by decide +kernel
theorem dX10_renew_11 : decode cX10_renew 11 = .ok (.invokevirtual 247, 3) := by decide +kernel
theorem dX10_renew_14 : decode cX10_renew 14 = .ok (.aload_n 0, 1) := by decide +kernel
theorem dX10_renew_15 : decode cX10_renew 15 = .ok (.getfield 28, 3) := by decide +kernel
theorem dX10_renew_18 : decode cX10_renew 18 = .ok (.invokevirtual 248, 3) := by decide +kernel
theorem dX10_renew_21 : decode cX10_renew 21 = .ok (.aload_n 0, 1) := by decide +kernel
theorem dX10_renew_22 : decode cX10_renew 22 = .ok (.getfield 35, 3) := by decide +kernel
theorem dX10_renew_25 : decode cX10_renew 25 = .ok (.invokevirtual 249, 3) := by decide +kernel
theorem dX10_renew_28 : decode cX10_renew 28 = .ok (.return_, 1) := by decide +kernel
theorem dX10_neededCount_0 : decode cX10_neededCount 0 = .ok (.iconst 0, 1) := by decide +kernel
theorem dX10_neededCount_1 : decode cX10_neededCount 1 = .ok (.istore_n 1, 1) := by decide +kernel
theorem dX10_neededCount_2 : decode cX10_neededCount 2 = .ok (.iconst 0, 1) := by decide +kernel
theorem dX10_neededCount_3 : decode cX10_neededCount 3 = .ok (.istore_n 2, 1) := by decide +kernel
theorem dX10_neededCount_4 : decode cX10_neededCount 4 = .ok (.iload_n 2, 1) := by decide +kernel
theorem dX10_neededCount_5 : decode cX10_neededCount 5 = .ok (.aload_n 0, 1) := by decide +kernel
theorem dX10_neededCount_6 : decode cX10_neededCount 6 = .ok (.getfield 10, 3) := by decide +kernel
theorem dX10_neededCount_9 : decode cX10_neededCount 9 = .ok (.getfield 130, 3) := by decide +kernel
theorem dX10_neededCount_12 : decode cX10_neededCount 12 = .ok (.invokeinterface 60 1, 5) := by decide +kernel
theorem dX10_neededCount_17 : decode cX10_neededCount 17 = .ok (.if_icmp .ge 38, 3) := by decide +kernel
theorem dX10_neededCount_20 : decode cX10_neededCount 20 = .ok (.aload_n 0, 1) := by decide +kernel
theorem dX10_neededCount_21 : decode cX10_neededCount 21 = .ok (.getfield 21, 3) := by decide +kernel
theorem dX10_neededCount_24 : decode cX10_neededCount 24 = .ok (.aload_n 0, 1) := by decide +kernel
theorem dX10_neededCount_25 : decode cX10_neededCount 25 = .ok (.getfield 10, 3) := by decide +kernel
theorem dX10_neededCount_28 : decode cX10_neededCount 28 = .ok (.getfield 130, 3) := by decide +kernel
theorem dX10_neededCount_31 : decode cX10_neededCount 31 = .ok (.iload_n 2, 1) := by decide +kernel
theorem dX10_neededCount_32 : decode cX10_neededCount 32 = .ok (.invokeinterface 82 2, 5) := by decide +kernel
theorem dX10_neededCount_37 : decode cX10_neededCount 37 = .ok (.checkcast 113, 3) := by decide +kernel
theorem dX10_neededCount_40 : decode cX10_neededCount 40 = .ok (.invokevirtual 168, 3) := by decide +kernel
theorem dX10_neededCount_43 : decode cX10_neededCount 43 = .ok (.ifCond .eq 6, 3) := by decide +kernel
theorem dX10_neededCount_46 : decode cX10_neededCount 46 = .ok (.iinc 1 1, 3) := by decide +kernel
theorem dX10_neededCount_49 : decode cX10_neededCount 49 = .ok (.iinc 2 1, 3) := by decide +kernel
theorem dX10_neededCount_52 : decode cX10_neededCount 52 = .ok (.goto (-48), 3) := by decide +kernel
theorem dX10_neededCount_55 : decode cX10_neededCount 55 = .ok (.iload_n 1, 1) := by decide +kernel
theorem dX10_neededCount_56 : decode cX10_neededCount 56 = .ok (.ireturn, 1) := by decide +kernel
theorem dX10_isTightAs_0 : decode cX10_isTightAs 0 = .ok (.iconst 0, 1) := by decide +kernel
theorem dX10_isTightAs_1 : decode cX10_isTightAs 1 = .ok (.istore_n 2, 1) := by decide +kernel
theorem dX10_isTightAs_2 : decode cX10_isTightAs 2 = .ok (.iload_n 2, 1) := by decide +kernel
theorem dX10_isTightAs_3 : decode cX10_isTightAs 3 = .ok (.aload_n 0, 1) := by decide +kernel
theorem dX10_isTightAs_4 : decode cX10_isTightAs 4 = .ok (.getfield 10, 3) := by decide +kernel
theorem dX10_isTightAs_7 : decode cX10_isTightAs 7 = .ok (.getfield 130, 3) := by decide +kernel
theorem dX10_isTightAs_10 : decode cX10_isTightAs 10 = .ok (.invokeinterface 60 1, 5) := by decide +kernel
theorem dX10_isTightAs_15 : decode cX10_isTightAs 15 = .ok (.if_icmp .ge 72, 3) := by decide +kernel
theorem dX10_isTightAs_18 : decode cX10_isTightAs 18 = .ok (.aload_n 0, 1) := by decide +kernel
theorem dX10_isTightAs_19 : decode cX10_isTightAs 19 = .ok (.getfield 10, 3) := by decide +kernel
theorem dX10_isTightAs_22 : decode cX10_isTightAs 22 = .ok (.getfield 130, 3) := by decide +kernel
theorem dX10_isTightAs_25 : decode cX10_isTightAs 25 = .ok (.iload_n 2, 1) := by decide +kernel
theorem dX10_isTightAs_26 : decode cX10_isTightAs 26 = .ok (.invokeinterface 82 2, 5) := by decide +kernel
theorem dX10_isTightAs_31 : decode cX10_isTightAs 31 = .ok (.checkcast 113, 3) := by decide +kernel
theorem dX10_isTightAs_34 : decode cX10_isTightAs 34 = .ok (.astore_n 3, 1) := by decide +kernel
theorem dX10_isTightAs_35 : decode cX10_isTightAs 35 = .ok (.iload_n 1, 1) := by decide +kernel
theorem dX10_isTightAs_36 : decode cX10_isTightAs 36 = .ok (.i2l, 1) := by decide +kernel
theorem dX10_isTightAs_37 : decode cX10_isTightAs 37 = .ok (.aload_n 0, 1) := by decide +kernel
theorem dX10_isTightAs_38 : decode cX10_isTightAs 38 = .ok (.getfield 21, 3) := by decide +kernel
theorem dX10_isTightAs_41 : decode cX10_isTightAs 41 = .ok (.iconst 0, 1) := by decide +kernel
theorem dX10_isTightAs_42 : decode cX10_isTightAs 42 = .ok (.aload_n 3, 1) := by decide +kernel
theorem dX10_isTightAs_43 : decode cX10_isTightAs 43 = .ok (.invokevirtual 188, 3) := by decide +kernel
theorem dX10_isTightAs_46 : decode cX10_isTightAs 46 = .ok (.lmul, 1) := by decide +kernel
theorem dX10_isTightAs_47 : decode cX10_isTightAs 47 = .ok (.lstore 4, 2) := by decide +kernel
theorem dX10_isTightAs_49 : decode cX10_isTightAs 49 = .ok (.aload_n 3, 1) := by decide +kernel
theorem dX10_isTightAs_50 : decode cX10_isTightAs 50 = .ok (.getfield 152, 3) := by decide +kernel
theorem dX10_isTightAs_53 : decode cX10_isTightAs 53 = .ok (.iconst 1, 1) := by decide +kernel
theorem dX10_isTightAs_54 : decode cX10_isTightAs 54 = .ok (.if_icmp .ne 10, 3) := by decide +kernel
theorem dX10_isTightAs_57 : decode cX10_isTightAs 57 = .ok (.lload 4, 2) := by decide +kernel
theorem dX10_isTightAs_59 : decode cX10_isTightAs 59 = .ok (.lconst 0, 1) := by decide +kernel
theorem dX10_isTightAs_60 : decode cX10_isTightAs 60 = .ok (.lcmp, 1) := by decide +kernel
theorem dX10_isTightAs_61 : decode cX10_isTightAs 61 = .ok (.ifCond .le 18, 3) := by decide +kernel
theorem dX10_isTightAs_64 : decode cX10_isTightAs 64 = .ok (.aload_n 3, 1) := by decide +kernel
theorem dX10_isTightAs_65 : decode cX10_isTightAs 65 = .ok (.getfield 152, 3) := by decide +kernel
theorem dX10_isTightAs_68 : decode cX10_isTightAs 68 = .ok (.iconst 2, 1) := by decide +kernel
theorem dX10_isTightAs_69 : decode cX10_isTightAs 69 = .ok (.if_icmp .ne 12, 3) := by decide +kernel
theorem dX10_isTightAs_72 : decode cX10_isTightAs 72 = .ok (.lload 4, 2) := by decide +kernel
theorem dX10_isTightAs_74 : decode cX10_isTightAs 74 = .ok (.lconst 0, 1) := by decide +kernel
theorem dX10_isTightAs_75 : decode cX10_isTightAs 75 = .ok (.lcmp, 1) := by decide +kernel
theorem dX10_isTightAs_76 : decode cX10_isTightAs 76 = .ok (.ifCond .lt 5, 3) := by decide +kernel
theorem dX10_isTightAs_79 : decode cX10_isTightAs 79 = .ok (.iconst 0, 1) := by decide +kernel
theorem dX10_isTightAs_80 : decode cX10_isTightAs 80 = .ok (.ireturn, 1) := by decide +kernel
theorem dX10_isTightAs_81 : decode cX10_isTightAs 81 = .ok (.iinc 2 1, 3) := by decide +kernel
theorem dX10_isTightAs_84 : decode cX10_isTightAs 84 = .ok (.goto (-82), 3) := by decide +kernel
theorem dX10_isTightAs_87 : decode cX10_isTightAs 87 = .ok (.iconst 1, 1) := by decide +kernel
theorem dX10_isTightAs_88 : decode cX10_isTightAs 88 = .ok (.ireturn, 1) := by decide +kernel
theorem dX11_init_0 : decode cX11_init 0 = .ok (.aload_n 0, 1) := by decide +kernel
theorem dX11_init_1 : decode cX11_init 1 = .ok (.invokespecial 1, 3) := by decide +kernel
theorem dX11_init_4 : decode cX11_init 4 = .ok (.aload_n 0, 1) := by decide +kernel
theorem dX11_init_5 : decode cX11_init 5 = .ok (.bipush 6, 2) := by decide +kernel
theorem dX11_init_7 : decode cX11_init 7 = .ok (.newarray .int, 2) := by decide +kernel
theorem dX11_init_9 : decode cX11_init 9 = .ok (.putfield 7, 3) := by decide +kernel
theorem dX11_init_12 : decode cX11_init 12 = .ok (.aload_n 0, 1) := by decide +kernel
theorem dX11_init_13 : decode cX11_init 13 = .ok (.bipush 6, 2) := by decide +kernel
theorem dX11_init_15 : decode cX11_init 15 = .ok (.newarray .int, 2) := by decide +kernel
theorem dX11_init_17 : decode cX11_init 17 = .ok (.putfield 13, 3) := by decide +kernel
theorem dX11_init_20 : decode cX11_init 20 = .ok (.aload_n 0, 1) := by decide +kernel
theorem dX11_init_21 : decode cX11_init 21 = .ok (.bipush 6, 2) := by decide +kernel
theorem dX11_init_23 : decode cX11_init 23 = .ok (.newarray .int, 2) := by decide +kernel
theorem dX11_init_25 : decode cX11_init 25 = .ok (.putfield 16, 3) := by decide +kernel
theorem dX11_init_28 : decode cX11_init 28 = .ok (.aload_n 0, 1) := by decide +kernel
theorem dX11_init_29 : decode cX11_init 29 = .ok (.bipush 6, 2) := by decide +kernel
theorem dX11_init_31 : decode cX11_init 31 = .ok (.newarray .int, 2) := by decide +kernel
theorem dX11_init_33 : decode cX11_init 33 = .ok (.putfield 19, 3) := by decide +kernel
theorem dX11_init_36 : decode cX11_init 36 = .ok (.aload_n 0, 1) := by decide +kernel
theorem dX11_init_37 : decode cX11_init 37 = .ok (.bipush 6, 2) := by decide +kernel
theorem dX11_init_39 : decode cX11_init 39 = .ok (.newarray .boolean, 2) := by decide +kernel
theorem dX11_init_41 : decode cX11_init 41 = .ok (.putfield 22, 3) := by decide +kernel
theorem dX11_init_44 : decode cX11_init 44 = .ok (.aload_n 0, 1) := by decide +kernel
theorem dX11_init_45 : decode cX11_init 45 = .ok (.bipush 15, 2) := by decide +kernel
theorem dX11_init_47 : decode cX11_init 47 = .ok (.newarray .int, 2) := by decide +kernel
theorem dX11_init_49 : decode cX11_init 49 = .ok (.putfield 26, 3) := by decide +kernel
theorem dX11_init_52 : decode cX11_init 52 = .ok (.aload_n 0, 1) := by decide +kernel
theorem dX11_init_53 : decode cX11_init 53 = .ok (.bipush 15, 2) := by decide +kernel
theorem dX11_init_55 : decode cX11_init 55 = .ok (.newarray .int, 2) := by decide +kernel
theorem dX11_init_57 : decode cX11_init 57 = .ok (.putfield 29, 3) := by decide +kernel
theorem dX11_init_60 : decode cX11_init 60 = .ok (.aload_n 0, 1) := by decide +kernel
theorem dX11_init_61 : decode cX11_init 61 = .ok (.bipush 15, 2) := by decide +kernel
theorem dX11_init_63 : decode cX11_init 63 = .ok (.newarray .int, 2) := by decide +kernel
theorem dX11_init_65 : decode cX11_init 65 = .ok (.putfield 32, 3) := by decide +kernel
theorem dX11_init_68 : decode cX11_init 68 = .ok (.aload_n 0, 1) := by decide +kernel
theorem dX11_init_69 : decode cX11_init 69 = .ok (.bipush 15, 2) := by decide +kernel
theorem dX11_init_71 : decode cX11_init 71 = .ok (.newarray .int, 2) := by decide +kernel
theorem dX11_init_73 : decode cX11_init 73 = .ok (.putfield 35, 3) := by decide +kernel
theorem dX11_init_76 : decode cX11_init 76 = .ok (.aload_n 0, 1) := by decide +kernel
theorem dX11_init_77 : decode cX11_init 77 = .ok (.bipush 15, 2) := by decide +kernel
theorem dX11_init_79 : decode cX11_init 79 = .ok (.newarray .boolean, 2) := by decide +kernel
theorem dX11_init_81 : decode cX11_init 81 = .ok (.putfield 38, 3) := by decide +kernel
theorem dX11_init_84 : decode cX11_init 84 = .ok (.aload_n 0, 1) := by decide +kernel
theorem dX11_init_85 : decode cX11_init 85 = .ok (.sipush 256, 3) := by decide +kernel
theorem dX11_init_88 : decode cX11_init 88 = .ok (.newarray .long, 2) := by decide +kernel
theorem dX11_init_90 : decode cX11_init 90 = .ok (.putfield 41, 3) := by decide +kernel
theorem dX11_init_93 : decode cX11_init 93 = .ok (.aload_n 0, 1) := by decide +kernel
theorem dX11_init_94 : decode cX11_init 94 = .ok (.bipush 16, 2) := by decide +kernel
theorem dX11_init_96 : decode cX11_init 96 = .ok (.newarray .int, 2) := by decide +kernel
theorem dX11_init_98 : decode cX11_init 98 = .ok (.putfield 45, 3) := by decide +kernel
theorem dX11_init_101 : decode cX11_init 101 = .ok (.aload_n 0, 1) := by decide +kernel
theorem dX11_init_102 : decode cX11_init 102 = .ok (.bipush 16, 2) := by decide +kernel
theorem dX11_init_104 : decode cX11_init 104 = .ok (.newarray .long, 2) := by decide +kernel
theorem dX11_init_106 : decode cX11_init 106 = .ok (.putfield 48, 3) := by decide +kernel
theorem dX11_init_109 : decode cX11_init 109 = .ok (.aload_n 0, 1) := by decide +kernel
theorem dX11_init_110 : decode cX11_init 110 = .ok (.bipush 15, 2) := by decide +kernel
theorem dX11_init_112 : decode cX11_init 112 = .ok (.newarray .int, 2) := by decide +kernel
theorem dX11_init_114 : decode cX11_init 114 = .ok (.putfield 51, 3) := by decide +kernel
theorem dX11_init_117 : decode cX11_init 117 = .ok (.aload_n 0, 1) := by decide +kernel
theorem dX11_init_118 : decode cX11_init 118 = .ok (.bipush 64, 2) := by decide +kernel
theorem dX11_init_120 : decode cX11_init 120 = .ok (.newarray .int, 2) := by decide +kernel
theorem dX11_init_122 : decode cX11_init 122 = .ok (.putfield 54, 3) := by decide +kernel
theorem dX11_init_125 : decode cX11_init 125 = .ok (.aload_n 0, 1) := by decide +kernel
theorem dX11_init_126 : decode cX11_init 126 = .ok (.bipush 15, 2) := by decide +kernel
theorem dX11_init_128 : decode cX11_init 128 = .ok (.newarray .boolean, 2) := by decide +kernel
theorem dX11_init_130 : decode cX11_init 130 = .ok (.putfield 57, 3) := by decide +kernel
theorem dX11_init_133 : decode cX11_init 133 = .ok (.aload_n 0, 1) := by decide +kernel
theorem dX11_init_134 : decode cX11_init 134 = .ok (.bipush 15, 2) := by decide +kernel
theorem dX11_init_136 : decode cX11_init 136 = .ok (.newarray .boolean, 2) := by decide +kernel
theorem dX11_init_138 : decode cX11_init 138 = .ok (.putfield 60, 3) := by decide +kernel
theorem dX11_init_141 : decode cX11_init 141 = .ok (.aload_n 0, 1) := by decide +kernel
theorem dX11_init_142 : decode cX11_init 142 = .ok (.bipush 15, 2) := by decide +kernel
theorem dX11_init_144 : decode cX11_init 144 = .ok (.newarray .boolean, 2) := by decide +kernel
theorem dX11_init_146 : decode cX11_init 146 = .ok (.putfield 63, 3) := by decide +kernel
theorem dX11_init_149 : decode cX11_init 149 = .ok (.aload_n 0, 1) := by decide +kernel
theorem dX11_init_150 : decode cX11_init 150 = .ok (.bipush 15, 2) := by decide +kernel
theorem dX11_init_152 : decode cX11_init 152 = .ok (.newarray .int, 2) := by decide +kernel
theorem dX11_init_154 : decode cX11_init 154 = .ok (.putfield 66, 3) := by decide +kernel
theorem dX11_init_157 : decode cX11_init 157 = .ok (.aload_n 0, 1) := by decide +kernel
theorem dX11_init_158 : decode cX11_init 158 = .ok (.bipush 6, 2) := by decide +kernel
theorem dX11_init_160 : decode cX11_init 160 = .ok (.newarray .int, 2) := by decide +kernel
theorem dX11_init_162 : decode cX11_init 162 = .ok (.putfield 69, 3) := by decide +kernel
theorem dX11_init_165 : decode cX11_init 165 = .ok (.aload_n 0, 1) := by decide +kernel
theorem dX11_init_166 : decode cX11_init 166 = .ok (.bipush 6, 2) := by decide +kernel
theorem dX11_init_168 : decode cX11_init 168 = .ok (.newarray .int, 2) := by decide +kernel
theorem dX11_init_170 : decode cX11_init 170 = .ok (.putfield 72, 3) := by decide +kernel
theorem dX11_init_173 : decode cX11_init 173 = .ok (.aload_n 0, 1) := by decide +kernel
theorem dX11_init_174 : decode cX11_init 174 = .ok (.bipush 6, 2) := by decide +kernel
theorem dX11_init_176 : decode cX11_init 176 = .ok (.newarray .int, 2) := by decide +kernel
theorem dX11_init_178 : decode cX11_init 178 = .ok (.putfield 75, 3) := by decide +kernel
theorem dX11_init_181 : decode cX11_init 181 = .ok (.aload_n 0, 1) := by decide +kernel
theorem dX11_init_182 : decode cX11_init 182 = .ok (.bipush 6, 2) := by decide +kernel
theorem dX11_init_184 : decode cX11_init 184 = .ok (.newarray .int, 2) := by decide +kernel
theorem dX11_init_186 : decode cX11_init 186 = .ok (.putfield 78, 3) := by decide +kernel
theorem dX11_init_189 : decode cX11_init 189 = .ok (.aload_n 0, 1) := by decide +kernel
theorem dX11_init_190 : decode cX11_init 190 = .ok (.bipush 96, 2) := by decide +kernel
theorem dX11_init_192 : decode cX11_init 192 = .ok (.newarray .long, 2) := by decide +kernel
theorem dX11_init_194 : decode cX11_init 194 = .ok (.putfield 81, 3) := by decide +kernel
theorem dX11_init_197 : decode cX11_init 197 = .ok (.aload_n 0, 1) := by decide +kernel
theorem dX11_init_198 : decode cX11_init 198 = .ok (.bipush 65, 2) := by decide +kernel
theorem dX11_init_200 : decode cX11_init 200 = .ok (.newarray .int, 2) := by decide +kernel
theorem dX11_init_202 : decode cX11_init 202 = .ok (.putfield 84, 3) := by decide +kernel
theorem dX11_init_205 : decode cX11_init 205 = .ok (.return_, 1) := by decide +kernel
theorem dX11_isPin_0 : decode cX11_isPin 0 = .ok (.iload_n 1, 1) := by decide +kernel
theorem dX11_isPin_1 : decode cX11_isPin 1 = .ok (.ifCond .lt 15, 3) := by decide +kernel
theorem dX11_isPin_4 : decode cX11_isPin 4 = .ok (.iload_n 1, 1) := by decide +kernel
theorem dX11_isPin_5 : decode cX11_isPin 5 = .ok (.aload_n 0, 1) := by decide +kernel
theorem dX11_isPin_6 : decode cX11_isPin 6 = .ok (.getfield 87, 3) := by decide +kernel
theorem dX11_isPin_9 : decode cX11_isPin 9 = .ok (.if_icmp .ge 7, 3) := by decide +kernel
theorem dX11_isPin_12 : decode cX11_isPin 12 = .ok (.iconst 1, 1) := by decide +kernel
theorem dX11_isPin_13 : decode cX11_isPin 13 = .ok (.goto 4, 3) := by decide +kernel
theorem dX11_isPin_16 : decode cX11_isPin 16 = .ok (.iconst 0, 1) := by decide +kernel
theorem dX11_isPin_17 : decode cX11_isPin 17 = .ok (.ireturn, 1) := by decide +kernel
theorem dX11_isRod_0 : decode cX11_isRod 0 = .ok (.iload_n 1, 1) := by decide +kernel
theorem dX11_isRod_1 : decode cX11_isRod 1 = .ok (.ifCond .lt 15, 3) := by decide +kernel
theorem dX11_isRod_4 : decode cX11_isRod 4 = .ok (.iload_n 1, 1) := by decide +kernel
theorem dX11_isRod_5 : decode cX11_isRod 5 = .ok (.aload_n 0, 1) := by decide +kernel
theorem dX11_isRod_6 : decode cX11_isRod 6 = .ok (.getfield 91, 3) := by decide +kernel
theorem dX11_isRod_9 : decode cX11_isRod 9 = .ok (.if_icmp .ge 7, 3) := by decide +kernel
theorem dX11_isRod_12 : decode cX11_isRod 12 = .ok (.iconst 1, 1) := by decide +kernel
theorem dX11_isRod_13 : decode cX11_isRod 13 = .ok (.goto 4, 3) := by decide +kernel
theorem dX11_isRod_16 : decode cX11_isRod 16 = .ok (.iconst 0, 1) := by decide +kernel
theorem dX11_isRod_17 : decode cX11_isRod 17 = .ok (.ireturn, 1) := by decide +kernel
theorem dX11_isPlace_0 : decode cX11_isPlace 0 = .ok (.iload_n 0, 1) := by decide +kernel
theorem dX11_isPlace_1 : decode cX11_isPlace 1 = .ok (.ifCond .lt 12, 3) := by decide +kernel
theorem dX11_isPlace_4 : decode cX11_isPlace 4 = .ok (.iload_n 0, 1) := by decide +kernel
theorem dX11_isPlace_5 : decode cX11_isPlace 5 = .ok (.iconst 5, 1) := by decide +kernel
theorem dX11_isPlace_6 : decode cX11_isPlace 6 = .ok (.if_icmp .gt 7, 3) := by decide +kernel
theorem dX11_isPlace_9 : decode cX11_isPlace 9 = .ok (.iconst 1, 1) := by decide +kernel
theorem dX11_isPlace_10 : decode cX11_isPlace 10 = .ok (.goto 4, 3) := by decide +kernel
theorem dX11_isPlace_13 : decode cX11_isPlace 13 = .ok (.iconst 0, 1) := by decide +kernel
theorem dX11_isPlace_14 : decode cX11_isPlace 14 = .ok (.ireturn, 1) := by decide +kernel
theorem dX11_pinAt_0 : decode cX11_pinAt 0 = .ok (.iconst 0, 1) := by decide +kernel
theorem dX11_pinAt_1 : decode cX11_pinAt 1 = .ok (.istore_n 3, 1) := by decide +kernel
theorem dX11_pinAt_2 : decode cX11_pinAt 2 = .ok (.iload_n 3, 1) := by decide +kernel
theorem dX11_pinAt_3 : decode cX11_pinAt 3 = .ok (.aload_n 0, 1) := by decide +kernel
theorem dX11_pinAt_4 : decode cX11_pinAt 4 = .ok (.getfield 87, 3) := by decide +kernel
theorem dX11_pinAt_7 : decode cX11_pinAt 7 = .ok (.if_icmp .ge 31, 3) := by decide +kernel
theorem dX11_pinAt_10 : decode cX11_pinAt 10 = .ok (.aload_n 0, 1) := by decide +kernel
theorem dX11_pinAt_11 : decode cX11_pinAt 11 = .ok (.getfield 7, 3) := by decide +kernel
theorem dX11_pinAt_14 : decode cX11_pinAt 14 = .ok (.iload_n 3, 1) := by decide +kernel
theorem dX11_pinAt_15 : decode cX11_pinAt 15 = .ok (.iaload, 1) := by decide +kernel
theorem dX11_pinAt_16 : decode cX11_pinAt 16 = .ok (.iload_n 1, 1) := by decide +kernel
theorem dX11_pinAt_17 : decode cX11_pinAt 17 = .ok (.if_icmp .ne 15, 3) := by decide +kernel
theorem dX11_pinAt_20 : decode cX11_pinAt 20 = .ok (.aload_n 0, 1) := by decide +kernel
theorem dX11_pinAt_21 : decode cX11_pinAt 21 = .ok (.getfield 13, 3) := by decide +kernel
theorem dX11_pinAt_24 : decode cX11_pinAt 24 = .ok (.iload_n 3, 1) := by decide +kernel
theorem dX11_pinAt_25 : decode cX11_pinAt 25 = .ok (.iaload, 1) := by decide +kernel
theorem dX11_pinAt_26 : decode cX11_pinAt 26 = .ok (.iload_n 2, 1) := by decide +kernel
theorem dX11_pinAt_27 : decode cX11_pinAt 27 = .ok (.if_icmp .ne 5, 3) := by decide +kernel
theorem dX11_pinAt_30 : decode cX11_pinAt 30 = .ok (.iload_n 3, 1) := by decide +kernel
theorem dX11_pinAt_31 : decode cX11_pinAt 31 = .ok (.ireturn, 1) := by decide +kernel
theorem dX11_pinAt_32 : decode cX11_pinAt 32 = .ok (.iinc 3 1, 3) := by decide +kernel
theorem dX11_pinAt_35 : decode cX11_pinAt 35 = .ok (.goto (-33), 3) := by decide +kernel
theorem dX11_pinAt_38 : decode cX11_pinAt 38 = .ok (.iconst (-1), 1) := by decide +kernel
theorem dX11_pinAt_39 : decode cX11_pinAt 39 = .ok (.ireturn, 1) := by decide +kernel
theorem dX11_gcd_0 : decode cX11_gcd 0 = .ok (.lload_n 0, 1) := by decide +kernel
theorem dX11_gcd_1 : decode cX11_gcd 1 = .ok (.lconst 0, 1) := by decide +kernel
theorem dX11_gcd_2 : decode cX11_gcd 2 = .ok (.lcmp, 1) := by decide +kernel
theorem dX11_gcd_3 : decode cX11_gcd 3 = .ok (.ifCond .ge 8, 3) := by decide +kernel
theorem dX11_gcd_6 : decode cX11_gcd 6 = .ok (.lload_n 0, 1) := by decide +kernel
theorem dX11_gcd_7 : decode cX11_gcd 7 = .ok (.lneg, 1) := by decide +kernel
theorem dX11_gcd_8 : decode cX11_gcd 8 = .ok (.goto 4, 3) := by decide +kernel
theorem dX11_gcd_11 : decode cX11_gcd 11 = .ok (.lload_n 0, 1) := by decide +kernel
theorem dX11_gcd_12 : decode cX11_gcd 12 = .ok (.lstore 4, 2) := by decide +kernel
theorem dX11_gcd_14 : decode cX11_gcd 14 = .ok (.lload_n 2, 1) := by decide +kernel
theorem dX11_gcd_15 : decode cX11_gcd 15 = .ok (.lconst 0, 1) := by decide +kernel
theorem dX11_gcd_16 : decode cX11_gcd 16 = .ok (.lcmp, 1) := by decide +kernel
theorem dX11_gcd_17 : decode cX11_gcd 17 = .ok (.ifCond .ge 8, 3) := by decide +kernel
theorem dX11_gcd_20 : decode cX11_gcd 20 = .ok (.lload_n 2, 1) := by decide +kernel
theorem dX11_gcd_21 : decode cX11_gcd 21 = .ok (.lneg, 1) := by decide +kernel
theorem dX11_gcd_22 : decode cX11_gcd 22 = .ok (.goto 4, 3) := by decide +kernel
theorem dX11_gcd_25 : decode cX11_gcd 25 = .ok (.lload_n 2, 1) := by decide +kernel
theorem dX11_gcd_26 : decode cX11_gcd 26 = .ok (.lstore 6, 2) := by decide +kernel
theorem dX11_gcd_28 : decode cX11_gcd 28 = .ok (.lload 6, 2) := by decide +kernel
theorem dX11_gcd_30 : decode cX11_gcd 30 = .ok (.lconst 0, 1) := by decide +kernel
theorem dX11_gcd_31 : decode cX11_gcd 31 = .ok (.lcmp, 1) := by decide +kernel
theorem dX11_gcd_32 : decode cX11_gcd 32 = .ok (.ifCond .eq 21, 3) := by decide +kernel
theorem dX11_gcd_35 : decode cX11_gcd 35 = .ok (.lload 4, 2) := by decide +kernel
theorem dX11_gcd_37 : decode cX11_gcd 37 = .ok (.lload 6, 2) := by decide +kernel
theorem dX11_gcd_39 : decode cX11_gcd 39 = .ok (.lrem, 1) := by decide +kernel
theorem dX11_gcd_40 : decode cX11_gcd 40 = .ok (.lstore 8, 2) := by decide +kernel
theorem dX11_gcd_42 : decode cX11_gcd 42 = .ok (.lload 6, 2) := by decide +kernel
theorem dX11_gcd_44 : decode cX11_gcd 44 = .ok (.lstore 4, 2) := by decide +kernel
theorem dX11_gcd_46 : decode cX11_gcd 46 = .ok (.lload 8, 2) := by decide +kernel
theorem dX11_gcd_48 : decode cX11_gcd 48 = .ok (.lstore 6, 2) := by decide +kernel
theorem dX11_gcd_50 : decode cX11_gcd 50 = .ok (.goto (-22), 3) := by decide +kernel
theorem dX11_gcd_53 : decode cX11_gcd 53 = .ok (.lload 4, 2) := by decide +kernel
theorem dX11_gcd_55 : decode cX11_gcd 55 = .ok (.lreturn, 1) := by decide +kernel
theorem dX11_lower_0 : decode cX11_lower 0 = .ok (.lconst 0, 1) := by decide +kernel
theorem dX11_lower_1 : decode cX11_lower 1 = .ok (.lstore_n 3, 1) := by decide +kernel
theorem dX11_lower_2 : decode cX11_lower 2 = .ok (.iconst 0, 1) := by decide +kernel
theorem dX11_lower_3 : decode cX11_lower 3 = .ok (.istore 5, 2) := by decide +kernel
theorem dX11_lower_5 : decode cX11_lower 5 = .ok (.iload 5, 2) := by decide +kernel
theorem dX11_lower_7 : decode cX11_lower 7 = .ok (.iload_n 2, 1) := by decide +kernel
theorem dX11_lower_8 : decode cX11_lower 8 = .ok (.if_icmp .ge 26, 3) := by decide +kernel
theorem dX11_lower_11 : decode cX11_lower 11 = .ok (.lload_n 3, 1) := by decide +kernel
theorem dX11_lower_12 : decode cX11_lower 12 = .ok (.aload_n 0, 1) := by decide +kernel
theorem dX11_lower_13 : decode cX11_lower 13 = .ok (.getfield 41, 3) := by decide +kernel
theorem dX11_lower_16 : decode cX11_lower 16 = .ok (.bipush 16, 2) := by decide +kernel
theorem dX11_lower_18 : decode cX11_lower 18 = .ok (.iload_n 1, 1) := by decide +kernel
theorem dX11_lower_19 : decode cX11_lower 19 = .ok (.imul, 1) := by decide +kernel
theorem dX11_lower_20 : decode cX11_lower 20 = .ok (.iload 5, 2) := by decide +kernel
theorem dX11_lower_22 : decode cX11_lower 22 = .ok (.iadd, 1) := by decide +kernel
theorem dX11_lower_23 : decode cX11_lower 23 = .ok (.laload, 1) := by decide +kernel
theorem dX11_lower_24 : decode cX11_lower 24 = .ok (.invokestatic 94, 3) := by decide +kernel
theorem dX11_lower_27 : decode cX11_lower 27 = .ok (.lstore_n 3, 1) := by decide +kernel
theorem dX11_lower_28 : decode cX11_lower 28 = .ok (.iinc 5 1, 3) := by decide +kernel
theorem dX11_lower_31 : decode cX11_lower 31 = .ok (.goto (-26), 3) := by decide +kernel
theorem dX11_lower_34 : decode cX11_lower 34 = .ok (.lload_n 3, 1) := by decide +kernel
theorem dX11_lower_35 : decode cX11_lower 35 = .ok (.lconst 1, 1) := by decide +kernel
theorem dX11_lower_36 : decode cX11_lower 36 = .ok (.lcmp, 1) := by decide +kernel
theorem dX11_lower_37 : decode cX11_lower 37 = .ok (.ifCond .le 34, 3) := by decide +kernel
theorem dX11_lower_40 : decode cX11_lower 40 = .ok (.iconst 0, 1) := by decide +kernel
theorem dX11_lower_41 : decode cX11_lower 41 = .ok (.istore 5, 2) := by decide +kernel
theorem dX11_lower_43 : decode cX11_lower 43 = .ok (.iload 5, 2) := by decide +kernel
theorem dX11_lower_45 : decode cX11_lower 45 = .ok (.iload_n 2, 1) := by decide +kernel
theorem dX11_lower_46 : decode cX11_lower 46 = .ok (.if_icmp .ge 25, 3) := by decide +kernel
theorem dX11_lower_49 : decode cX11_lower 49 = .ok (.aload_n 0, 1) := by decide +kernel
theorem dX11_lower_50 : decode cX11_lower 50 = .ok (.getfield 41, 3) := by decide +kernel
theorem dX11_lower_53 : decode cX11_lower 53 = .ok (.bipush 16, 2) := by decide +kernel
theorem dX11_lower_55 : decode cX11_lower 55 = .ok (.iload_n 1, 1) := by decide +kernel
theorem dX11_lower_56 : decode cX11_lower 56 = .ok (.imul, 1) := by decide +kernel
theorem dX11_lower_57 : decode cX11_lower 57 = .ok (.iload 5, 2) := by decide +kernel
theorem dX11_lower_59 : decode cX11_lower 59 = .ok (.iadd, 1) := by decide +kernel
theorem dX11_lower_60 : decode cX11_lower 60 = .ok (.dup2, 1) := by decide +kernel
theorem dX11_lower_61 : decode cX11_lower 61 = .ok (.laload, 1) := by decide +kernel
theorem dX11_lower_62 : decode cX11_lower 62 = .ok (.lload_n 3, 1) := by decide +kernel
theorem dX11_lower_63 : decode cX11_lower 63 = .ok (.ldiv, 1) := by decide +kernel
theorem dX11_lower_64 : decode cX11_lower 64 = .ok (.lastore, 1) := by decide +kernel
theorem dX11_lower_65 : decode cX11_lower 65 = .ok (.iinc 5 1, 3) := by decide +kernel
theorem dX11_lower_68 : decode cX11_lower 68 = .ok (.goto (-25), 3) := by decide +kernel
theorem dX11_lower_71 : decode cX11_lower 71 = .ok (.return_, 1) := by decide +kernel
theorem dX11_steps_0 : decode cX11_steps 0 = .ok (.iconst 0, 1) := by decide +kernel
theorem dX11_steps_1 : decode cX11_steps 1 = .ok (.istore_n 2, 1) := by decide +kernel
theorem dX11_steps_2 : decode cX11_steps 2 = .ok (.iconst 0, 1) := by decide +kernel
theorem dX11_steps_3 : decode cX11_steps 3 = .ok (.istore_n 3, 1) := by decide +kernel
theorem dX11_steps_4 : decode cX11_steps 4 = .ok (.iload_n 3, 1) := by decide +kernel
theorem dX11_steps_5 : decode cX11_steps 5 = .ok (.aload_n 0, 1) := by decide +kernel
theorem dX11_steps_6 : decode cX11_steps 6 = .ok (.getfield 98, 3) := by decide +kernel
theorem dX11_steps_9 : decode cX11_steps 9 = .ok (.if_icmp .ge 15, 3) := by decide +kernel
theorem dX11_steps_12 : decode cX11_steps 12 = .ok (.aload_n 0, 1) := by decide +kernel
theorem dX11_steps_13 : decode cX11_steps 13 = .ok (.iload_n 3, 1) := by decide +kernel
theorem dX11_steps_14 : decode cX11_steps 14 = .ok (.iload_n 1, 1) := by decide +kernel
theorem dX11_steps_15 : decode cX11_steps 15 = .ok (.invokevirtual 101, 3) := by decide +kernel
theorem dX11_steps_18 : decode cX11_steps 18 = .ok (.iinc 3 1, 3) := by decide +kernel
theorem dX11_steps_21 : decode cX11_steps 21 = .ok (.goto (-17), 3) := by decide +kernel
theorem dX11_steps_24 : decode cX11_steps 24 = .ok (.iconst 0, 1) := by decide +kernel
theorem dX11_steps_25 : decode cX11_steps 25 = .ok (.istore_n 3, 1) := by decide +kernel
theorem dX11_steps_26 : decode cX11_steps 26 = .ok (.iload_n 3, 1) := by decide +kernel
theorem dX11_steps_27 : decode cX11_steps 27 = .ok (.aload_n 0, 1) := by decide +kernel
theorem dX11_steps_28 : decode cX11_steps 28 = .ok (.getfield 105, 3) := by decide +kernel
theorem dX11_steps_31 : decode cX11_steps 31 = .ok (.if_icmp .ge 314, 3) := by decide +kernel
theorem dX11_steps_34 : decode cX11_steps 34 = .ok (.aload_n 0, 1) := by decide +kernel
theorem dX11_steps_35 : decode cX11_steps 35 = .ok (.getfield 45, 3) := by decide +kernel
theorem dX11_steps_38 : decode cX11_steps 38 = .ok (.iload_n 3, 1) := by decide +kernel
theorem dX11_steps_39 : decode cX11_steps 39 = .ok (.iconst (-1), 1) := by decide +kernel
theorem dX11_steps_40 : decode cX11_steps 40 = .ok (.iastore, 1) := by decide +kernel
theorem dX11_steps_41 : decode cX11_steps 41 = .ok (.iload_n 2, 1) := by decide +kernel
theorem dX11_steps_42 : decode cX11_steps 42 = .ok (.istore 4, 2) := by decide +kernel
theorem dX11_steps_44 : decode cX11_steps 44 = .ok (.iload 4, 2) := by decide +kernel
theorem dX11_steps_46 : decode cX11_steps 46 = .ok (.aload_n 0, 1) := by decide +kernel
theorem dX11_steps_47 : decode cX11_steps 47 = .ok (.getfield 98, 3) := by decide +kernel
theorem dX11_steps_50 : decode cX11_steps 50 = .ok (.if_icmp .ge 26, 3) := by decide +kernel
theorem dX11_steps_53 : decode cX11_steps 53 = .ok (.aload_n 0, 1) := by decide +kernel
theorem dX11_steps_54 : decode cX11_steps 54 = .ok (.getfield 41, 3) := by decide +kernel
theorem dX11_steps_57 : decode cX11_steps 57 = .ok (.bipush 16, 2) := by decide +kernel
theorem dX11_steps_59 : decode cX11_steps 59 = .ok (.iload 4, 2) := by decide +kernel
theorem dX11_steps_61 : decode cX11_steps 61 = .ok (.imul, 1) := by decide +kernel
theorem dX11_steps_62 : decode cX11_steps 62 = .ok (.iload_n 3, 1) := by decide +kernel
theorem dX11_steps_63 : decode cX11_steps 63 = .ok (.iadd, 1) := by decide +kernel
theorem dX11_steps_64 : decode cX11_steps 64 = .ok (.laload, 1) := by decide +kernel
theorem dX11_steps_65 : decode cX11_steps 65 = .ok (.lconst 0, 1) := by decide +kernel
theorem dX11_steps_66 : decode cX11_steps 66 = .ok (.lcmp, 1) := by decide +kernel
theorem dX11_steps_67 : decode cX11_steps 67 = .ok (.ifCond .ne 9, 3) := by decide +kernel
theorem dX11_steps_70 : decode cX11_steps 70 = .ok (.iinc 4 1, 3) := by decide +kernel
theorem dX11_steps_73 : decode cX11_steps 73 = .ok (.goto (-29), 3) := by decide +kernel
theorem dX11_steps_76 : decode cX11_steps 76 = .ok (.iload 4, 2) := by decide +kernel
theorem dX11_steps_78 : decode cX11_steps 78 = .ok (.aload_n 0, 1) := by decide +kernel
theorem dX11_steps_79 : decode cX11_steps 79 = .ok (.getfield 98, 3) := by decide +kernel
theorem dX11_steps_82 : decode cX11_steps 82 = .ok (.if_icmp .lt 6, 3) := by decide +kernel
theorem dX11_steps_85 : decode cX11_steps 85 = .ok (.goto 254, 3) := by decide +kernel
theorem dX11_steps_88 : decode cX11_steps 88 = .ok (.iconst 0, 1) := by decide +kernel
theorem dX11_steps_89 : decode cX11_steps 89 = .ok (.istore 5, 2) := by decide +kernel
theorem dX11_steps_91 : decode cX11_steps 91 = .ok (.iload 5, 2) := by decide +kernel
theorem dX11_steps_93 : decode cX11_steps 93 = .ok (.iload_n 1, 1) := by decide +kernel
theorem dX11_steps_94 : decode cX11_steps 94 = .ok (.if_icmp .ge 63, 3) := by decide +kernel
theorem dX11_steps_97 : decode cX11_steps 97 = .ok (.aload_n 0, 1) := by decide +kernel
theorem dX11_steps_98 : decode cX11_steps 98 = .ok (.getfield 41, 3) := by decide +kernel
theorem dX11_steps_101 : decode cX11_steps 101 = .ok (.bipush 16, 2) := by decide +kernel
theorem dX11_steps_103 : decode cX11_steps 103 = .ok (.iload 4, 2) := by decide +kernel
theorem dX11_steps_105 : decode cX11_steps 105 = .ok (.imul, 1) := by decide +kernel
theorem dX11_steps_106 : decode cX11_steps 106 = .ok (.iload 5, 2) := by decide +kernel
theorem dX11_steps_108 : decode cX11_steps 108 = .ok (.iadd, 1) := by decide +kernel
theorem dX11_steps_109 : decode cX11_steps 109 = .ok (.laload, 1) := by decide +kernel
theorem dX11_steps_110 : decode cX11_steps 110 = .ok (.lstore 6, 2) := by decide +kernel
theorem dX11_steps_112 : decode cX11_steps 112 = .ok (.aload_n 0, 1) := by decide +kernel
theorem dX11_steps_113 : decode cX11_steps 113 = .ok (.getfield 41, 3) := by decide +kernel
theorem dX11_steps_116 : decode cX11_steps 116 = .ok (.bipush 16, 2) := by decide +kernel
theorem dX11_steps_118 : decode cX11_steps 118 = .ok (.iload 4, 2) := by decide +kernel
theorem dX11_steps_120 : decode cX11_steps 120 = .ok (.imul, 1) := by decide +kernel
theorem dX11_steps_121 : decode cX11_steps 121 = .ok (.iload 5, 2) := by decide +kernel
theorem dX11_steps_123 : decode cX11_steps 123 = .ok (.iadd, 1) := by decide +kernel
theorem dX11_steps_124 : decode cX11_steps 124 = .ok (.aload_n 0, 1) := by decide +kernel
theorem dX11_steps_125 : decode cX11_steps 125 = .ok (.getfield 41, 3) := by decide +kernel
theorem dX11_steps_128 : decode cX11_steps 128 = .ok (.bipush 16, 2) := by decide +kernel
theorem dX11_steps_130 : decode cX11_steps 130 = .ok (.iload_n 2, 1) := by decide +kernel
theorem dX11_steps_131 : decode cX11_steps 131 = .ok (.imul, 1) := by decide +kernel
theorem dX11_steps_132 : decode cX11_steps 132 = .ok (.iload 5, 2) := by decide +kernel
theorem dX11_steps_134 : decode cX11_steps 134 = .ok (.iadd, 1) := by decide +kernel
theorem dX11_steps_135 : decode cX11_steps 135 = .ok (.laload, 1) := by decide +kernel
theorem dX11_steps_136 : decode cX11_steps 136 = .ok (.lastore, 1) := by decide +kernel
theorem dX11_steps_137 : decode cX11_steps 137 = .ok (.aload_n 0, 1) := by decide +kernel
theorem dX11_steps_138 : decode cX11_steps 138 = .ok (.getfield 41, 3) := by decide +kernel
theorem dX11_steps_141 : decode cX11_steps 141 = .ok (.bipush 16, 2) := by decide +kernel
theorem dX11_steps_143 : decode cX11_steps 143 = .ok (.iload_n 2, 1) := by decide +kernel
theorem dX11_steps_144 : decode cX11_steps 144 = .ok (.imul, 1) := by decide +kernel
theorem dX11_steps_145 : decode cX11_steps 145 = .ok (.iload 5, 2) := by decide +kernel
theorem dX11_steps_147 : decode cX11_steps 147 = .ok (.iadd, 1) := by decide +kernel
theorem dX11_steps_148 : decode cX11_steps 148 = .ok (.lload 6, 2) := by decide +kernel
theorem dX11_steps_150 : decode cX11_steps 150 = .ok (.lastore, 1) := by decide +kernel
theorem dX11_steps_151 : decode cX11_steps 151 = .ok (.iinc 5 1, 3) := by decide +kernel
theorem dX11_steps_154 : decode cX11_steps 154 = .ok (.goto (-63), 3) := by decide +kernel
theorem dX11_steps_157 : decode cX11_steps 157 = .ok (.iconst 0, 1) := by decide +kernel
theorem dX11_steps_158 : decode cX11_steps 158 = .ok (.istore 5, 2) := by decide +kernel
theorem dX11_steps_160 : decode cX11_steps 160 = .ok (.iload 5, 2) := by decide +kernel
theorem dX11_steps_162 : decode cX11_steps 162 = .ok (.aload_n 0, 1) := by decide +kernel
theorem dX11_steps_163 : decode cX11_steps 163 = .ok (.getfield 98, 3) := by decide +kernel
theorem dX11_steps_166 : decode cX11_steps 166 = .ok (.if_icmp .ge 163, 3) := by decide +kernel
theorem dX11_steps_169 : decode cX11_steps 169 = .ok (.iload 5, 2) := by decide +kernel
theorem dX11_steps_171 : decode cX11_steps 171 = .ok (.iload_n 2, 1) := by decide +kernel
theorem dX11_steps_172 : decode cX11_steps 172 = .ok (.if_icmp .eq 151, 3) := by decide +kernel
theorem dX11_steps_175 : decode cX11_steps 175 = .ok (.aload_n 0, 1) := by decide +kernel
theorem dX11_steps_176 : decode cX11_steps 176 = .ok (.getfield 41, 3) := by decide +kernel
theorem dX11_steps_179 : decode cX11_steps 179 = .ok (.bipush 16, 2) := by decide +kernel
theorem dX11_steps_181 : decode cX11_steps 181 = .ok (.iload 5, 2) := by decide +kernel
theorem dX11_steps_183 : decode cX11_steps 183 = .ok (.imul, 1) := by decide +kernel
theorem dX11_steps_184 : decode cX11_steps 184 = .ok (.iload_n 3, 1) := by decide +kernel
theorem dX11_steps_185 : decode cX11_steps 185 = .ok (.iadd, 1) := by decide +kernel
theorem dX11_steps_186 : decode cX11_steps 186 = .ok (.laload, 1) := by decide +kernel
theorem dX11_steps_187 : decode cX11_steps 187 = .ok (.lconst 0, 1) := by decide +kernel
theorem dX11_steps_188 : decode cX11_steps 188 = .ok (.lcmp, 1) := by decide +kernel
theorem dX11_steps_189 : decode cX11_steps 189 = .ok (.ifCond .ne 6, 3) := by decide +kernel
theorem dX11_steps_192 : decode cX11_steps 192 = .ok (.goto 131, 3) := by decide +kernel
theorem dX11_steps_195 : decode cX11_steps 195 = .ok (.aload_n 0, 1) := by decide +kernel
theorem dX11_steps_196 : decode cX11_steps 196 = .ok (.getfield 41, 3) := by decide +kernel
theorem dX11_steps_199 : decode cX11_steps 199 = .ok (.bipush 16, 2) := by decide +kernel
theorem dX11_steps_201 : decode cX11_steps 201 = .ok (.iload 5, 2) := by decide +kernel
theorem dX11_steps_203 : decode cX11_steps 203 = .ok (.imul, 1) := by decide +kernel
theorem dX11_steps_204 : decode cX11_steps 204 = .ok (.iload_n 3, 1) := by decide +kernel
theorem dX11_steps_205 : decode cX11_steps 205 = .ok (.iadd, 1) := by decide +kernel
theorem dX11_steps_206 : decode cX11_steps 206 = .ok (.laload, 1) := by decide +kernel
theorem dX11_steps_207 : decode cX11_steps 207 = .ok (.aload_n 0, 1) := by decide +kernel
theorem dX11_steps_208 : decode cX11_steps 208 = .ok (.getfield 41, 3) := by decide +kernel
theorem dX11_steps_211 : decode cX11_steps 211 = .ok (.bipush 16, 2) := by decide +kernel
theorem dX11_steps_213 : decode cX11_steps 213 = .ok (.iload_n 2, 1) := by decide +kernel
theorem dX11_steps_214 : decode cX11_steps 214 = .ok (.imul, 1) := by decide +kernel
theorem dX11_steps_215 : decode cX11_steps 215 = .ok (.iload_n 3, 1) := by decide +kernel
theorem dX11_steps_216 : decode cX11_steps 216 = .ok (.iadd, 1) := by decide +kernel
theorem dX11_steps_217 : decode cX11_steps 217 = .ok (.laload, 1) := by decide +kernel
theorem dX11_steps_218 : decode cX11_steps 218 = .ok (.invokestatic 94, 3) := by decide +kernel
theorem dX11_steps_221 : decode cX11_steps 221 = .ok (.lstore 6, 2) := by decide +kernel
theorem dX11_steps_223 : decode cX11_steps 223 = .ok (.aload_n 0, 1) := by decide +kernel
theorem dX11_steps_224 : decode cX11_steps 224 = .ok (.getfield 41, 3) := by decide +kernel
theorem dX11_steps_227 : decode cX11_steps 227 = .ok (.bipush 16, 2) := by decide +kernel
theorem dX11_steps_229 : decode cX11_steps 229 = .ok (.iload_n 2, 1) := by decide +kernel
theorem dX11_steps_230 : decode cX11_steps 230 = .ok (.imul, 1) := by decide +kernel
theorem dX11_steps_231 : decode cX11_steps 231 = .ok (.iload_n 3, 1) := by decide +kernel
theorem dX11_steps_232 : decode cX11_steps 232 = .ok (.iadd, 1) := by decide +kernel
theorem dX11_steps_233 : decode cX11_steps 233 = .ok (.laload, 1) := by decide +kernel
theorem dX11_steps_234 : decode cX11_steps 234 = .ok (.lload 6, 2) := by decide +kernel
theorem dX11_steps_236 : decode cX11_steps 236 = .ok (.ldiv, 1) := by decide +kernel
theorem dX11_steps_237 : decode cX11_steps 237 = .ok (.lstore 8, 2) := by decide +kernel
theorem dX11_steps_239 : decode cX11_steps 239 = .ok (.aload_n 0, 1) := by decide +kernel
theorem dX11_steps_240 : decode cX11_steps 240 = .ok (.getfield 41, 3) := by decide +kernel
theorem dX11_steps_243 : decode cX11_steps 243 = .ok (.bipush 16, 2) := by decide +kernel
theorem dX11_steps_245 : decode cX11_steps 245 = .ok (.iload 5, 2) := by decide +kernel
theorem dX11_steps_247 : decode cX11_steps 247 = .ok (.imul, 1) := by decide +kernel
theorem dX11_steps_248 : decode cX11_steps 248 = .ok (.iload_n 3, 1) := by decide +kernel
theorem dX11_steps_249 : decode cX11_steps 249 = .ok (.iadd, 1) := by decide +kernel
theorem dX11_steps_250 : decode cX11_steps 250 = .ok (.laload, 1) := by decide +kernel
theorem dX11_steps_251 : decode cX11_steps 251 = .ok (.lload 6, 2) := by decide +kernel
theorem dX11_steps_253 : decode cX11_steps 253 = .ok (.ldiv, 1) := by decide +kernel
theorem dX11_steps_254 : decode cX11_steps 254 = .ok (.lstore 10, 2) := by decide +kernel
theorem dX11_steps_256 : decode cX11_steps 256 = .ok (.iconst 0, 1) := by decide +kernel
theorem dX11_steps_257 : decode cX11_steps 257 = .ok (.istore 12, 2) := by decide +kernel
theorem dX11_steps_259 : decode cX11_steps 259 = .ok (.iload 12, 2) := by decide +kernel
theorem dX11_steps_261 : decode cX11_steps 261 = .ok (.iload_n 1, 1) := by decide +kernel
theorem dX11_steps_262 : decode cX11_steps 262 = .ok (.if_icmp .ge 54, 3) := by decide +kernel
theorem dX11_steps_265 : decode cX11_steps 265 = .ok (.aload_n 0, 1) := by decide +kernel
theorem dX11_steps_266 : decode cX11_steps 266 = .ok (.getfield 41, 3) := by decide +kernel
theorem dX11_steps_269 : decode cX11_steps 269 = .ok (.bipush 16, 2) := by decide +kernel
theorem dX11_steps_271 : decode cX11_steps 271 = .ok (.iload 5, 2) := by decide +kernel
theorem dX11_steps_273 : decode cX11_steps 273 = .ok (.imul, 1) := by decide +kernel
theorem dX11_steps_274 : decode cX11_steps 274 = .ok (.iload 12, 2) := by decide +kernel
theorem dX11_steps_276 : decode cX11_steps 276 = .ok (.iadd, 1) := by decide +kernel
theorem dX11_steps_277 : decode cX11_steps 277 = .ok (.aload_n 0, 1) := by decide +kernel
theorem dX11_steps_278 : decode cX11_steps 278 = .ok (.getfield 41, 3) := by decide +kernel
theorem dX11_steps_281 : decode cX11_steps 281 = .ok (.bipush 16, 2) := by decide +kernel
theorem dX11_steps_283 : decode cX11_steps 283 = .ok (.iload 5, 2) := by decide +kernel
theorem dX11_steps_285 : decode cX11_steps 285 = .ok (.imul, 1) := by decide +kernel
theorem dX11_steps_286 : decode cX11_steps 286 = .ok (.iload 12, 2) := by decide +kernel
theorem dX11_steps_288 : decode cX11_steps 288 = .ok (.iadd, 1) := by decide +kernel
theorem dX11_steps_289 : decode cX11_steps 289 = .ok (.laload, 1) := by decide +kernel
theorem dX11_steps_290 : decode cX11_steps 290 = .ok (.lload 8, 2) := by decide +kernel
theorem dX11_steps_292 : decode cX11_steps 292 = .ok (.lmul, 1) := by decide +kernel
theorem dX11_steps_293 : decode cX11_steps 293 = .ok (.aload_n 0, 1) := by decide +kernel
theorem dX11_steps_294 : decode cX11_steps 294 = .ok (.getfield 41, 3) := by decide +kernel
theorem dX11_steps_297 : decode cX11_steps 297 = .ok (.bipush 16, 2) := by decide +kernel
theorem dX11_steps_299 : decode cX11_steps 299 = .ok (.iload_n 2, 1) := by decide +kernel
theorem dX11_steps_300 : decode cX11_steps 300 = .ok (.imul, 1) := by decide +kernel
theorem dX11_steps_301 : decode cX11_steps 301 = .ok (.iload 12, 2) := by decide +kernel
theorem dX11_steps_303 : decode cX11_steps 303 = .ok (.iadd, 1) := by decide +kernel
theorem dX11_steps_304 : decode cX11_steps 304 = .ok (.laload, 1) := by decide +kernel
theorem dX11_steps_305 : decode cX11_steps 305 = .ok (.lload 10, 2) := by decide +kernel
theorem dX11_steps_307 : decode cX11_steps 307 = .ok (.lmul, 1) := by decide +kernel
theorem dX11_steps_308 : decode cX11_steps 308 = .ok (.lsub, 1) := by decide +kernel
theorem dX11_steps_309 : decode cX11_steps 309 = .ok (.lastore, 1) := by decide +kernel
theorem dX11_steps_310 : decode cX11_steps 310 = .ok (.iinc 12 1, 3) := by decide +kernel
theorem dX11_steps_313 : decode cX11_steps 313 = .ok (.goto (-54), 3) := by decide +kernel
theorem dX11_steps_316 : decode cX11_steps 316 = .ok (.aload_n 0, 1) := by decide +kernel
theorem dX11_steps_317 : decode cX11_steps 317 = .ok (.iload 5, 2) := by decide +kernel
theorem dX11_steps_319 : decode cX11_steps 319 = .ok (.iload_n 1, 1) := by decide +kernel
theorem dX11_steps_320 : decode cX11_steps 320 = .ok (.invokevirtual 101, 3) := by decide +kernel
theorem dX11_steps_323 : decode cX11_steps 323 = .ok (.iinc 5 1, 3) := by decide +kernel
theorem dX11_steps_326 : decode cX11_steps 326 = .ok (.goto (-166), 3) := by decide +kernel
theorem dX11_steps_329 : decode cX11_steps 329 = .ok (.aload_n 0, 1) := by decide +kernel
theorem dX11_steps_330 : decode cX11_steps 330 = .ok (.getfield 45, 3) := by decide +kernel
theorem dX11_steps_333 : decode cX11_steps 333 = .ok (.iload_n 3, 1) := by decide +kernel
theorem dX11_steps_334 : decode cX11_steps 334 = .ok (.iload_n 2, 1) := by decide +kernel
theorem dX11_steps_335 : decode cX11_steps 335 = .ok (.iinc 2 1, 3) := by decide +kernel
theorem dX11_steps_338 : decode cX11_steps 338 = .ok (.iastore, 1) := by decide +kernel
theorem dX11_steps_339 : decode cX11_steps 339 = .ok (.iinc 3 1, 3) := by decide +kernel
theorem dX11_steps_342 : decode cX11_steps 342 = .ok (.goto (-316), 3) := by decide +kernel
theorem dX11_steps_345 : decode cX11_steps 345 = .ok (.iload_n 2, 1) := by decide +kernel
theorem dX11_steps_346 : decode cX11_steps 346 = .ok (.ireturn, 1) := by decide +kernel
theorem dX11_loose_0 : decode cX11_loose 0 = .ok (.iload_n 1, 1) := by decide +kernel
theorem dX11_loose_1 : decode cX11_loose 1 = .ok (.ifCond .ge 5, 3) := by decide +kernel
theorem dX11_loose_4 : decode cX11_loose 4 = .ok (.iconst (-1), 1) := by decide +kernel
theorem dX11_loose_5 : decode cX11_loose 5 = .ok (.ireturn, 1) := by decide +kernel
theorem dX11_loose_6 : decode cX11_loose 6 = .ok (.iload_n 1, 1) := by decide +kernel
theorem dX11_loose_7 : decode cX11_loose 7 = .ok (.istore_n 2, 1) := by decide +kernel
theorem dX11_loose_8 : decode cX11_loose 8 = .ok (.iconst 0, 1) := by decide +kernel
theorem dX11_loose_9 : decode cX11_loose 9 = .ok (.istore_n 3, 1) := by decide +kernel
theorem dX11_loose_10 : decode cX11_loose 10 = .ok (.iload_n 3, 1) := by decide +kernel
theorem dX11_loose_11 : decode cX11_loose 11 = .ok (.aload_n 0, 1) := by decide +kernel
theorem dX11_loose_12 : decode cX11_loose 12 = .ok (.getfield 105, 3) := by decide +kernel
theorem dX11_loose_15 : decode cX11_loose 15 = .ok (.if_icmp .ge 28, 3) := by decide +kernel
theorem dX11_loose_18 : decode cX11_loose 18 = .ok (.aload_n 0, 1) := by decide +kernel
theorem dX11_loose_19 : decode cX11_loose 19 = .ok (.getfield 45, 3) := by decide +kernel
theorem dX11_loose_22 : decode cX11_loose 22 = .ok (.iload_n 3, 1) := by decide +kernel
theorem dX11_loose_23 : decode cX11_loose 23 = .ok (.iaload, 1) := by decide +kernel
theorem dX11_loose_24 : decode cX11_loose 24 = .ok (.iconst (-1), 1) := by decide +kernel
theorem dX11_loose_25 : decode cX11_loose 25 = .ok (.if_icmp .ne 12, 3) := by decide +kernel
theorem dX11_loose_28 : decode cX11_loose 28 = .ok (.iload_n 2, 1) := by decide +kernel
theorem dX11_loose_29 : decode cX11_loose 29 = .ok (.iinc 2 (-1), 3) := by decide +kernel
theorem dX11_loose_32 : decode cX11_loose 32 = .ok (.ifCond .ne 5, 3) := by decide +kernel
theorem dX11_loose_35 : decode cX11_loose 35 = .ok (.iload_n 3, 1) := by decide +kernel
theorem dX11_loose_36 : decode cX11_loose 36 = .ok (.ireturn, 1) := by decide +kernel
theorem dX11_loose_37 : decode cX11_loose 37 = .ok (.iinc 3 1, 3) := by decide +kernel
theorem dX11_loose_40 : decode cX11_loose 40 = .ok (.goto (-30), 3) := by decide +kernel
theorem dX11_loose_43 : decode cX11_loose 43 = .ok (.iconst (-1), 1) := by decide +kernel
theorem dX11_loose_44 : decode cX11_loose 44 = .ok (.ireturn, 1) := by decide +kernel
theorem dX11_nulOf_0 : decode cX11_nulOf 0 = .ok (.lconst 1, 1) := by decide +kernel
theorem dX11_nulOf_1 : decode cX11_nulOf 1 = .ok (.lstore_n 2, 1) := by decide +kernel
theorem dX11_nulOf_2 : decode cX11_nulOf 2 = .ok (.iconst 0, 1) := by decide +kernel
theorem dX11_nulOf_3 : decode cX11_nulOf 3 = .ok (.istore 4, 2) := by decide +kernel
theorem dX11_nulOf_5 : decode cX11_nulOf 5 = .ok (.iload 4, 2) := by decide +kernel
theorem dX11_nulOf_7 : decode cX11_nulOf 7 = .ok (.aload_n 0, 1) := by decide +kernel
theorem dX11_nulOf_8 : decode cX11_nulOf 8 = .ok (.getfield 105, 3) := by decide +kernel
theorem dX11_nulOf_11 : decode cX11_nulOf 11 = .ok (.if_icmp .ge 94, 3) := by decide +kernel
theorem dX11_nulOf_14 : decode cX11_nulOf 14 = .ok (.aload_n 0, 1) := by decide +kernel
theorem dX11_nulOf_15 : decode cX11_nulOf 15 = .ok (.getfield 45, 3) := by decide +kernel
theorem dX11_nulOf_18 : decode cX11_nulOf 18 = .ok (.iload 4, 2) := by decide +kernel
theorem dX11_nulOf_20 : decode cX11_nulOf 20 = .ok (.iaload, 1) := by decide +kernel
theorem dX11_nulOf_21 : decode cX11_nulOf 21 = .ok (.iconst (-1), 1) := by decide +kernel
theorem dX11_nulOf_22 : decode cX11_nulOf 22 = .ok (.if_icmp .ne 6, 3) := by decide +kernel
theorem dX11_nulOf_25 : decode cX11_nulOf 25 = .ok (.goto 74, 3) := by decide +kernel
theorem dX11_nulOf_28 : decode cX11_nulOf 28 = .ok (.aload_n 0, 1) := by decide +kernel
theorem dX11_nulOf_29 : decode cX11_nulOf 29 = .ok (.getfield 41, 3) := by decide +kernel
