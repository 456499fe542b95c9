theorem dX0_init_0 : decode cX0_init 0 = .ok (.aload_n 0, 1) := by decide +kernel
theorem dX0_init_1 : decode cX0_init 1 = .ok (.invokespecial 1, 3) := by decide +kernel
theorem dX0_init_4 : decode cX0_init 4 = .ok (.return_, 1) := by decide +kernel
theorem dX1_init_0 : decode cX1_init 0 = .ok (.aload_n 0, 1) := by decide +kernel
theorem dX1_init_1 : decode cX1_init 1 = .ok (.invokespecial 3, 3) := by decide +kernel
theorem dX1_init_4 : decode cX1_init 4 = .ok (.aload_n 0, 1) := by decide +kernel
theorem dX1_init_5 : decode cX1_init 5 = .ok (.iconst (-1), 1) := by decide +kernel
theorem dX1_init_6 : decode cX1_init 6 = .ok (.putfield 9, 3) := by decide +kernel
theorem dX1_init_9 : decode cX1_init 9 = .ok (.aload_n 0, 1) := by decide +kernel
theorem dX1_init_10 : decode cX1_init 10 = .ok (.iload_n 1, 1) := by decide +kernel
theorem dX1_init_11 : decode cX1_init 11 = .ok (.newarray .int, 2) := by decide +kernel
theorem dX1_init_13 : decode cX1_init 13 = .ok (.putfield 15, 3) := by decide +kernel
theorem dX1_init_16 : decode cX1_init 16 = .ok (.return_, 1) := by decide +kernel
theorem dX1_isMissing_0 : decode cX1_isMissing 0 = .ok (.aload_n 0, 1) := by decide +kernel
theorem dX1_isMissing_1 : decode cX1_isMissing 1 = .ok (.getfield 9, 3) := by decide +kernel
theorem dX1_isMissing_4 : decode cX1_isMissing 4 = .ok (.ifCond .ge 7, 3) := by decide +kernel
theorem dX1_isMissing_7 : decode cX1_isMissing 7 = .ok (.iconst 1, 1) := by decide +kernel
theorem dX1_isMissing_8 : decode cX1_isMissing 8 = .ok (.goto 4, 3) := by decide +kernel
theorem dX1_isMissing_11 : decode cX1_isMissing 11 = .ok (.iconst 0, 1) := by decide +kernel
theorem dX1_isMissing_12 : decode cX1_isMissing 12 = .ok (.ireturn, 1) := by decide +kernel
theorem dX1_make_0 : decode cX1_make 0 = .ok (.aload_n 0, 1) := by decide +kernel
theorem dX1_make_1 : decode cX1_make 1 = .ok (.iload_n 1, 1) := by decide +kernel
theorem dX1_make_2 : decode cX1_make 2 = .ok (.putfield 9, 3) := by decide +kernel
theorem dX1_make_5 : decode cX1_make 5 = .ok (.aload_n 0, 1) := by decide +kernel
theorem dX1_make_6 : decode cX1_make 6 = .ok (.getfield 15, 3) := by decide +kernel
theorem dX1_make_9 : decode cX1_make 9 = .ok (.iconst 0, 1) := by decide +kernel
theorem dX1_make_10 : decode cX1_make 10 = .ok (.iload_n 1, 1) := by decide +kernel
theorem dX1_make_11 : decode cX1_make 11 = .ok (.iload_n 2, 1) := by decide +kernel
theorem dX1_make_12 : decode cX1_make 12 = .ok (.invokestatic 19, 3) := by decide +kernel
theorem dX1_make_15 : decode cX1_make 15 = .ok (.return_, 1) := by decide +kernel
theorem dX1_faultAt_0 : decode cX1_faultAt 0 = .ok (.aload_n 0, 1) := by decide +kernel
theorem dX1_faultAt_1 : decode cX1_faultAt 1 = .ok (.invokevirtual 25, 3) := by decide +kernel
theorem dX1_faultAt_4 : decode cX1_faultAt 4 = .ok (.ifCond .eq 5, 3) := by decide +kernel
theorem dX1_faultAt_7 : decode cX1_faultAt 7 = .ok (.iconst 1, 1) := by decide +kernel
theorem dX1_faultAt_8 : decode cX1_faultAt 8 = .ok (.ireturn, 1) := by decide +kernel
theorem dX1_faultAt_9 : decode cX1_faultAt 9 = .ok (.iload_n 1, 1) := by decide +kernel
theorem dX1_faultAt_10 : decode cX1_faultAt 10 = .ok (.ifCond .lt 11, 3) := by decide +kernel
theorem dX1_faultAt_13 : decode cX1_faultAt 13 = .ok (.iload_n 1, 1) := by decide +kernel
theorem dX1_faultAt_14 : decode cX1_faultAt 14 = .ok (.aload_n 0, 1) := by decide +kernel
theorem dX1_faultAt_15 : decode cX1_faultAt 15 = .ok (.getfield 9, 3) := by decide +kernel
theorem dX1_faultAt_18 : decode cX1_faultAt 18 = .ok (.if_icmp .lt 7, 3) := by decide +kernel
theorem dX1_faultAt_21 : decode cX1_faultAt 21 = .ok (.iconst 2, 1) := by decide +kernel
theorem dX1_faultAt_22 : decode cX1_faultAt 22 = .ok (.goto 4, 3) := by decide +kernel
theorem dX1_faultAt_25 : decode cX1_faultAt 25 = .ok (.iconst 0, 1) := by decide +kernel
theorem dX1_faultAt_26 : decode cX1_faultAt 26 = .ok (.ireturn, 1) := by decide +kernel
theorem dX1_holdsRun_0 : decode cX1_holdsRun 0 = .ok (.iload_n 1, 1) := by decide +kernel
theorem dX1_holdsRun_1 : decode cX1_holdsRun 1 = .ok (.ifCond .lt 17, 3) := by decide +kernel
theorem dX1_holdsRun_4 : decode cX1_holdsRun 4 = .ok (.iload_n 1, 1) := by decide +kernel
theorem dX1_holdsRun_5 : decode cX1_holdsRun 5 = .ok (.aload_n 0, 1) := by decide +kernel
theorem dX1_holdsRun_6 : decode cX1_holdsRun 6 = .ok (.getfield 9, 3) := by decide +kernel
theorem dX1_holdsRun_9 : decode cX1_holdsRun 9 = .ok (.iload_n 2, 1) := by decide +kernel
theorem dX1_holdsRun_10 : decode cX1_holdsRun 10 = .ok (.isub, 1) := by decide +kernel
theorem dX1_holdsRun_11 : decode cX1_holdsRun 11 = .ok (.if_icmp .gt 7, 3) := by decide +kernel
theorem dX1_holdsRun_14 : decode cX1_holdsRun 14 = .ok (.iconst 1, 1) := by decide +kernel
theorem dX1_holdsRun_15 : decode cX1_holdsRun 15 = .ok (.goto 4, 3) := by decide +kernel
theorem dX1_holdsRun_18 : decode cX1_holdsRun 18 = .ok (.iconst 0, 1) := by decide +kernel
theorem dX1_holdsRun_19 : decode cX1_holdsRun 19 = .ok (.ireturn, 1) := by decide +kernel
theorem dX2_init_0 : decode cX2_init 0 = .ok (.aload_n 0, 1) := by decide +kernel
theorem dX2_init_1 : decode cX2_init 1 = .ok (.invokespecial 3, 3) := by decide +kernel
theorem dX2_init_4 : decode cX2_init 4 = .ok (.aload_n 0, 1) := by decide +kernel
theorem dX2_init_5 : decode cX2_init 5 = .ok (.new 9, 3) := by decide +kernel
theorem dX2_init_8 : decode cX2_init 8 = .ok (.dup, 1) := by decide +kernel
theorem dX2_init_9 : decode cX2_init 9 = .ok (.invokespecial 11, 3) := by decide +kernel
theorem dX2_init_12 : decode cX2_init 12 = .ok (.putfield 12, 3) := by decide +kernel
theorem dX2_init_15 : decode cX2_init 15 = .ok (.aload_n 0, 1) := by decide +kernel
theorem dX2_init_16 : decode cX2_init 16 = .ok (.aload_n 0, 1) := by decide +kernel
theorem dX2_init_17 : decode cX2_init 17 = .ok (.getfield 12, 3) := by decide +kernel
theorem dX2_init_20 : decode cX2_init 20 = .ok (.getfield 18, 3) := by decide +kernel
theorem dX2_init_23 : decode cX2_init 23 = .ok (.putfield 22, 3) := by decide +kernel
theorem dX2_init_26 : decode cX2_init 26 = .ok (.aload_n 0, 1) := by decide +kernel
theorem dX2_init_27 : decode cX2_init 27 = .ok (.ldc 23, 2) := by decide +kernel
theorem dX2_init_29 : decode cX2_init 29 = .ok (.newarray .int, 2) := by decide +kernel
theorem dX2_init_31 : decode cX2_init 31 = .ok (.putfield 24, 3) := by decide +kernel
theorem dX2_init_34 : decode cX2_init 34 = .ok (.aload_n 0, 1) := by decide +kernel
theorem dX2_init_35 : decode cX2_init 35 = .ok (.iconst 0, 1) := by decide +kernel
theorem dX2_init_36 : decode cX2_init 36 = .ok (.putfield 28, 3) := by decide +kernel
theorem dX2_init_39 : decode cX2_init 39 = .ok (.aload_n 0, 1) := by decide +kernel
theorem dX2_init_40 : decode cX2_init 40 = .ok (.iconst 0, 1) := by decide +kernel
theorem dX2_init_41 : decode cX2_init 41 = .ok (.putfield 32, 3) := by decide +kernel
theorem dX2_init_44 : decode cX2_init 44 = .ok (.aload_n 0, 1) := by decide +kernel
theorem dX2_init_45 : decode cX2_init 45 = .ok (.iconst 0, 1) := by decide +kernel
theorem dX2_init_46 : decode cX2_init 46 = .ok (.putfield 35, 3) := by decide +kernel
theorem dX2_init_49 : decode cX2_init 49 = .ok (.aload_n 0, 1) := by decide +kernel
theorem dX2_init_50 : decode cX2_init 50 = .ok (.iconst 0, 1) := by decide +kernel
theorem dX2_init_51 : decode cX2_init 51 = .ok (.putfield 38, 3) := by decide +kernel
theorem dX2_init_54 : decode cX2_init 54 = .ok (.aload_n 0, 1) := by decide +kernel
theorem dX2_init_55 : decode cX2_init 55 = .ok (.bipush 10, 2) := by decide +kernel
theorem dX2_init_57 : decode cX2_init 57 = .ok (.newarray .int, 2) := by decide +kernel
theorem dX2_init_59 : decode cX2_init 59 = .ok (.putfield 41, 3) := by decide +kernel
theorem dX2_init_62 : decode cX2_init 62 = .ok (.aload_n 0, 1) := by decide +kernel
theorem dX2_init_63 : decode cX2_init 63 = .ok (.bipush 10, 2) := by decide +kernel
theorem dX2_init_65 : decode cX2_init 65 = .ok (.newarray .int, 2) := by decide +kernel
theorem dX2_init_67 : decode cX2_init 67 = .ok (.putfield 44, 3) := by decide +kernel
theorem dX2_init_70 : decode cX2_init 70 = .ok (.return_, 1) := by decide +kernel
theorem dX2_go_0 : decode cX2_go 0 = .ok (.aload_n 0, 1) := by decide +kernel
theorem dX2_go_1 : decode cX2_go 1 = .ok (.iconst 0, 1) := by decide +kernel
theorem dX2_go_2 : decode cX2_go 2 = .ok (.putfield 28, 3) := by decide +kernel
theorem dX2_go_5 : decode cX2_go 5 = .ok (.aload_n 0, 1) := by decide +kernel
theorem dX2_go_6 : decode cX2_go 6 = .ok (.ldc 47, 2) := by decide +kernel
theorem dX2_go_8 : decode cX2_go 8 = .ok (.putfield 32, 3) := by decide +kernel
theorem dX2_go_11 : decode cX2_go 11 = .ok (.aload_n 0, 1) := by decide +kernel
theorem dX2_go_12 : decode cX2_go 12 = .ok (.iconst 0, 1) := by decide +kernel
theorem dX2_go_13 : decode cX2_go 13 = .ok (.iconst 0, 1) := by decide +kernel
theorem dX2_go_14 : decode cX2_go 14 = .ok (.iconst 0, 1) := by decide +kernel
theorem dX2_go_15 : decode cX2_go 15 = .ok (.iconst 0, 1) := by decide +kernel
theorem dX2_go_16 : decode cX2_go 16 = .ok (.iconst 0, 1) := by decide +kernel
theorem dX2_go_17 : decode cX2_go 17 = .ok (.invokevirtual 48, 3) := by decide +kernel
theorem dX2_go_20 : decode cX2_go 20 = .ok (.return_, 1) := by decide +kernel
theorem dX2_step_0 : decode cX2_step 0 = .ok (.iload_n 1, 1) := by decide +kernel
theorem dX2_step_1 : decode cX2_step 1 = .ok (.aload_n 0, 1) := by decide +kernel
theorem dX2_step_2 : decode cX2_step 2 = .ok (.getfield 22, 3) := by decide +kernel
theorem dX2_step_5 : decode cX2_step 5 = .ok (.getfield 52, 3) := by decide +kernel
theorem dX2_step_8 : decode cX2_step 8 = .ok (.if_icmp .ge 9, 3) := by decide +kernel
theorem dX2_step_11 : decode cX2_step 11 = .ok (.iload_n 1, 1) := by decide +kernel
theorem dX2_step_12 : decode cX2_step 12 = .ok (.bipush 8, 2) := by decide +kernel
theorem dX2_step_14 : decode cX2_step 14 = .ok (.if_icmp .lt 12, 3) := by decide +kernel
theorem dX2_step_17 : decode cX2_step 17 = .ok (.aload_n 0, 1) := by decide +kernel
theorem dX2_step_18 : decode cX2_step 18 = .ok (.iload 4, 2) := by decide +kernel
theorem dX2_step_20 : decode cX2_step 20 = .ok (.iload 5, 2) := by decide +kernel
theorem dX2_step_22 : decode cX2_step 22 = .ok (.invokevirtual 57, 3) := by decide +kernel
theorem dX2_step_25 : decode cX2_step 25 = .ok (.return_, 1) := by decide +kernel
theorem dX2_step_26 : decode cX2_step 26 = .ok (.aload_n 0, 1) := by decide +kernel
theorem dX2_step_27 : decode cX2_step 27 = .ok (.getfield 12, 3) := by decide +kernel
theorem dX2_step_30 : decode cX2_step 30 = .ok (.iload_n 2, 1) := by decide +kernel
theorem dX2_step_31 : decode cX2_step 31 = .ok (.iload_n 3, 1) := by decide +kernel
theorem dX2_step_32 : decode cX2_step 32 = .ok (.invokevirtual 61, 3) := by decide +kernel
theorem dX2_step_35 : decode cX2_step 35 = .ok (.istore 6, 2) := by decide +kernel
theorem dX2_step_37 : decode cX2_step 37 = .ok (.iconst 0, 1) := by decide +kernel
theorem dX2_step_38 : decode cX2_step 38 = .ok (.istore 7, 2) := by decide +kernel
theorem dX2_step_40 : decode cX2_step 40 = .ok (.iload 7, 2) := by decide +kernel
theorem dX2_step_42 : decode cX2_step 42 = .ok (.aload_n 0, 1) := by decide +kernel
theorem dX2_step_43 : decode cX2_step 43 = .ok (.getfield 22, 3) := by decide +kernel
theorem dX2_step_46 : decode cX2_step 46 = .ok (.getfield 52, 3) := by decide +kernel
theorem dX2_step_49 : decode cX2_step 49 = .ok (.if_icmp .ge 81, 3) := by decide +kernel
theorem dX2_step_52 : decode cX2_step 52 = .ok (.iload 6, 2) := by decide +kernel
theorem dX2_step_54 : decode cX2_step 54 = .ok (.iload 7, 2) := by decide +kernel
theorem dX2_step_56 : decode cX2_step 56 = .ok (.ishr, 1) := by decide +kernel
theorem dX2_step_57 : decode cX2_step 57 = .ok (.iconst 1, 1) := by decide +kernel
theorem dX2_step_58 : decode cX2_step 58 = .ok (.iand, 1) := by decide +kernel
theorem dX2_step_59 : decode cX2_step 59 = .ok (.ifCond .ne 6, 3) := by decide +kernel
theorem dX2_step_62 : decode cX2_step 62 = .ok (.goto 62, 3) := by decide +kernel
theorem dX2_step_65 : decode cX2_step 65 = .ok (.aload_n 0, 1) := by decide +kernel
theorem dX2_step_66 : decode cX2_step 66 = .ok (.getfield 41, 3) := by decide +kernel
theorem dX2_step_69 : decode cX2_step 69 = .ok (.iload 7, 2) := by decide +kernel
theorem dX2_step_71 : decode cX2_step 71 = .ok (.iload_n 1, 1) := by decide +kernel
theorem dX2_step_72 : decode cX2_step 72 = .ok (.iastore, 1) := by decide +kernel
theorem dX2_step_73 : decode cX2_step 73 = .ok (.iload 4, 2) := by decide +kernel
theorem dX2_step_75 : decode cX2_step 75 = .ok (.aload_n 0, 1) := by decide +kernel
theorem dX2_step_76 : decode cX2_step 76 = .ok (.iload_n 2, 1) := by decide +kernel
theorem dX2_step_77 : decode cX2_step 77 = .ok (.iconst 1, 1) := by decide +kernel
theorem dX2_step_78 : decode cX2_step 78 = .ok (.iload 7, 2) := by decide +kernel
theorem dX2_step_80 : decode cX2_step 80 = .ok (.ishl, 1) := by decide +kernel
theorem dX2_step_81 : decode cX2_step 81 = .ok (.ior, 1) := by decide +kernel
theorem dX2_step_82 : decode cX2_step 82 = .ok (.iload_n 1, 1) := by decide +kernel
theorem dX2_step_83 : decode cX2_step 83 = .ok (.invokevirtual 65, 3) := by decide +kernel
theorem dX2_step_86 : decode cX2_step 86 = .ok (.invokestatic 68, 3) := by decide +kernel
theorem dX2_step_89 : decode cX2_step 89 = .ok (.istore 8, 2) := by decide +kernel
theorem dX2_step_91 : decode cX2_step 91 = .ok (.iload 8, 2) := by decide +kernel
theorem dX2_step_93 : decode cX2_step 93 = .ok (.aload_n 0, 1) := by decide +kernel
theorem dX2_step_94 : decode cX2_step 94 = .ok (.getfield 32, 3) := by decide +kernel
theorem dX2_step_97 : decode cX2_step 97 = .ok (.if_icmp .gt 27, 3) := by decide +kernel
theorem dX2_step_100 : decode cX2_step 100 = .ok (.aload_n 0, 1) := by decide +kernel
theorem dX2_step_101 : decode cX2_step 101 = .ok (.iload_n 1, 1) := by decide +kernel
theorem dX2_step_102 : decode cX2_step 102 = .ok (.iconst 1, 1) := by decide +kernel
theorem dX2_step_103 : decode cX2_step 103 = .ok (.iadd, 1) := by decide +kernel
theorem dX2_step_104 : decode cX2_step 104 = .ok (.iload_n 2, 1) := by decide +kernel
theorem dX2_step_105 : decode cX2_step 105 = .ok (.iconst 1, 1) := by decide +kernel
theorem dX2_step_106 : decode cX2_step 106 = .ok (.iload 7, 2) := by decide +kernel
theorem dX2_step_108 : decode cX2_step 108 = .ok (.ishl, 1) := by decide +kernel
theorem dX2_step_109 : decode cX2_step 109 = .ok (.ior, 1) := by decide +kernel
theorem dX2_step_110 : decode cX2_step 110 = .ok (.iload 7, 2) := by decide +kernel
theorem dX2_step_112 : decode cX2_step 112 = .ok (.iload 8, 2) := by decide +kernel
theorem dX2_step_114 : decode cX2_step 114 = .ok (.iload 5, 2) := by decide +kernel
theorem dX2_step_116 : decode cX2_step 116 = .ok (.iconst 3, 1) := by decide +kernel
theorem dX2_step_117 : decode cX2_step 117 = .ok (.ishl, 1) := by decide +kernel
theorem dX2_step_118 : decode cX2_step 118 = .ok (.iload 7, 2) := by decide +kernel
theorem dX2_step_120 : decode cX2_step 120 = .ok (.ior, 1) := by decide +kernel
theorem dX2_step_121 : decode cX2_step 121 = .ok (.invokevirtual 48, 3) := by decide +kernel
theorem dX2_step_124 : decode cX2_step 124 = .ok (.iinc 7 1, 3) := by decide +kernel
theorem dX2_step_127 : decode cX2_step 127 = .ok (.goto (-87), 3) := by decide +kernel
theorem dX2_step_130 : decode cX2_step 130 = .ok (.return_, 1) := by decide +kernel
theorem dX2_keep_0 : decode cX2_keep 0 = .ok (.iload_n 1, 1) := by decide +kernel
theorem dX2_keep_1 : decode cX2_keep 1 = .ok (.aload_n 0, 1) := by decide +kernel
theorem dX2_keep_2 : decode cX2_keep 2 = .ok (.getfield 32, 3) := by decide +kernel
theorem dX2_keep_5 : decode cX2_keep 5 = .ok (.if_icmp .ge 13, 3) := by decide +kernel
theorem dX2_keep_8 : decode cX2_keep 8 = .ok (.aload_n 0, 1) := by decide +kernel
theorem dX2_keep_9 : decode cX2_keep 9 = .ok (.iload_n 1, 1) := by decide +kernel
theorem dX2_keep_10 : decode cX2_keep 10 = .ok (.putfield 32, 3) := by decide +kernel
theorem dX2_keep_13 : decode cX2_keep 13 = .ok (.aload_n 0, 1) := by decide +kernel
theorem dX2_keep_14 : decode cX2_keep 14 = .ok (.iconst 0, 1) := by decide +kernel
theorem dX2_keep_15 : decode cX2_keep 15 = .ok (.putfield 28, 3) := by decide +kernel
theorem dX2_keep_18 : decode cX2_keep 18 = .ok (.iload_n 1, 1) := by decide +kernel
theorem dX2_keep_19 : decode cX2_keep 19 = .ok (.aload_n 0, 1) := by decide +kernel
theorem dX2_keep_20 : decode cX2_keep 20 = .ok (.getfield 32, 3) := by decide +kernel
theorem dX2_keep_23 : decode cX2_keep 23 = .ok (.if_icmp .ne 32, 3) := by decide +kernel
theorem dX2_keep_26 : decode cX2_keep 26 = .ok (.aload_n 0, 1) := by decide +kernel
theorem dX2_keep_27 : decode cX2_keep 27 = .ok (.getfield 28, 3) := by decide +kernel
theorem dX2_keep_30 : decode cX2_keep 30 = .ok (.ldc 23, 2) := by decide +kernel
theorem dX2_keep_32 : decode cX2_keep 32 = .ok (.if_icmp .ge 23, 3) := by decide +kernel
theorem dX2_keep_35 : decode cX2_keep 35 = .ok (.aload_n 0, 1) := by decide +kernel
theorem dX2_keep_36 : decode cX2_keep 36 = .ok (.getfield 24, 3) := by decide +kernel
theorem dX2_keep_39 : decode cX2_keep 39 = .ok (.aload_n 0, 1) := by decide +kernel
theorem dX2_keep_40 : decode cX2_keep 40 = .ok (.getfield 28, 3) := by decide +kernel
theorem dX2_keep_43 : decode cX2_keep 43 = .ok (.iload_n 2, 1) := by decide +kernel
theorem dX2_keep_44 : decode cX2_keep 44 = .ok (.iastore, 1) := by decide +kernel
theorem dX2_keep_45 : decode cX2_keep 45 = .ok (.aload_n 0, 1) := by decide +kernel
theorem dX2_keep_46 : decode cX2_keep 46 = .ok (.dup, 1) := by decide +kernel
theorem dX2_keep_47 : decode cX2_keep 47 = .ok (.getfield 28, 3) := by decide +kernel
theorem dX2_keep_50 : decode cX2_keep 50 = .ok (.iconst 1, 1) := by decide +kernel
theorem dX2_keep_51 : decode cX2_keep 51 = .ok (.iadd, 1) := by decide +kernel
theorem dX2_keep_52 : decode cX2_keep 52 = .ok (.putfield 28, 3) := by decide +kernel
theorem dX2_keep_55 : decode cX2_keep 55 = .ok (.return_, 1) := by decide +kernel
theorem dX2_reachAtLeast_0 : decode cX2_reachAtLeast 0 = .ok (.iconst 0, 1) := by decide +kernel
theorem dX2_reachAtLeast_1 : decode cX2_reachAtLeast 1 = .ok (.istore_n 3, 1) := by decide +kernel
theorem dX2_reachAtLeast_2 : decode cX2_reachAtLeast 2 = .ok (.iconst 0, 1) := by decide +kernel
theorem dX2_reachAtLeast_3 : decode cX2_reachAtLeast 3 = .ok (.istore 4, 2) := by decide +kernel
theorem dX2_reachAtLeast_5 : decode cX2_reachAtLeast 5 = .ok (.iload 4, 2) := by decide +kernel
theorem dX2_reachAtLeast_7 : decode cX2_reachAtLeast 7 = .ok (.aload_n 0, 1) := by decide +kernel
theorem dX2_reachAtLeast_8 : decode cX2_reachAtLeast 8 = .ok (.getfield 22, 3) := by decide +kernel
theorem dX2_reachAtLeast_11 : decode cX2_reachAtLeast 11 = .ok (.getfield 52, 3) := by decide +kernel
theorem dX2_reachAtLeast_14 : decode cX2_reachAtLeast 14 = .ok (.if_icmp .ge 59, 3) := by decide +kernel
theorem dX2_reachAtLeast_17 : decode cX2_reachAtLeast 17 = .ok (.aload_n 0, 1) := by decide +kernel
theorem dX2_reachAtLeast_18 : decode cX2_reachAtLeast 18 = .ok (.getfield 22, 3) := by decide +kernel
theorem dX2_reachAtLeast_21 : decode cX2_reachAtLeast 21 = .ok (.getfield 73, 3) := by decide +kernel
theorem dX2_reachAtLeast_24 : decode cX2_reachAtLeast 24 = .ok (.iload 4, 2) := by decide +kernel
theorem dX2_reachAtLeast_26 : decode cX2_reachAtLeast 26 = .ok (.iaload, 1) := by decide +kernel
theorem dX2_reachAtLeast_27 : decode cX2_reachAtLeast 27 = .ok (.iload_n 1, 1) := by decide +kernel
theorem dX2_reachAtLeast_28 : decode cX2_reachAtLeast 28 = .ok (.iconst (-1), 1) := by decide +kernel
theorem dX2_reachAtLeast_29 : decode cX2_reachAtLeast 29 = .ok (.ixor, 1) := by decide +kernel
theorem dX2_reachAtLeast_30 : decode cX2_reachAtLeast 30 = .ok (.iand, 1) := by decide +kernel
theorem dX2_reachAtLeast_31 : decode cX2_reachAtLeast 31 = .ok (.istore 5, 2) := by decide +kernel
theorem dX2_reachAtLeast_33 : decode cX2_reachAtLeast 33 = .ok (.iload_n 1, 1) := by decide +kernel
theorem dX2_reachAtLeast_34 : decode cX2_reachAtLeast 34 = .ok (.iload 4, 2) := by decide +kernel
theorem dX2_reachAtLeast_36 : decode cX2_reachAtLeast 36 = .ok (.ishr, 1) := by decide +kernel
theorem dX2_reachAtLeast_37 : decode cX2_reachAtLeast 37 = .ok (.iconst 1, 1) := by decide +kernel
theorem dX2_reachAtLeast_38 : decode cX2_reachAtLeast 38 = .ok (.iand, 1) := by decide +kernel
theorem dX2_reachAtLeast_39 : decode cX2_reachAtLeast 39 = .ok (.ifCond .eq 28, 3) := by decide +kernel
theorem dX2_reachAtLeast_42 : decode cX2_reachAtLeast 42 = .ok (.iload 5, 2) := by decide +kernel
theorem dX2_reachAtLeast_44 : decode cX2_reachAtLeast 44 = .ok (.ifCond .eq 23, 3) := by decide +kernel
theorem dX2_reachAtLeast_47 : decode cX2_reachAtLeast 47 = .ok (.iload_n 3, 1) := by decide +kernel
theorem dX2_reachAtLeast_48 : decode cX2_reachAtLeast 48 = .ok (.iload_n 2, 1) := by decide +kernel
theorem dX2_reachAtLeast_49 : decode cX2_reachAtLeast 49 = .ok (.iload 5, 2) := by decide +kernel
theorem dX2_reachAtLeast_51 : decode cX2_reachAtLeast 51 = .ok (.invokestatic 76, 3) := by decide +kernel
theorem dX2_reachAtLeast_54 : decode cX2_reachAtLeast 54 = .ok (.iadd, 1) := by decide +kernel
theorem dX2_reachAtLeast_55 : decode cX2_reachAtLeast 55 = .ok (.aload_n 0, 1) := by decide +kernel
theorem dX2_reachAtLeast_56 : decode cX2_reachAtLeast 56 = .ok (.getfield 41, 3) := by decide +kernel
theorem dX2_reachAtLeast_59 : decode cX2_reachAtLeast 59 = .ok (.iload 4, 2) := by decide +kernel
theorem dX2_reachAtLeast_61 : decode cX2_reachAtLeast 61 = .ok (.iaload, 1) := by decide +kernel
theorem dX2_reachAtLeast_62 : decode cX2_reachAtLeast 62 = .ok (.isub, 1) := by decide +kernel
theorem dX2_reachAtLeast_63 : decode cX2_reachAtLeast 63 = .ok (.invokestatic 68, 3) := by decide +kernel
theorem dX2_reachAtLeast_66 : decode cX2_reachAtLeast 66 = .ok (.istore_n 3, 1) := by decide +kernel
theorem dX2_reachAtLeast_67 : decode cX2_reachAtLeast 67 = .ok (.iinc 4 1, 3) := by decide +kernel
theorem dX2_reachAtLeast_70 : decode cX2_reachAtLeast 70 = .ok (.goto (-65), 3) := by decide +kernel
theorem dX2_reachAtLeast_73 : decode cX2_reachAtLeast 73 = .ok (.iload_n 3, 1) := by decide +kernel
theorem dX2_reachAtLeast_74 : decode cX2_reachAtLeast 74 = .ok (.ireturn, 1) := by decide +kernel
theorem dX2_unpack_0 : decode cX2_unpack 0 = .ok (.aload_n 0, 1) := by decide +kernel
theorem dX2_unpack_1 : decode cX2_unpack 1 = .ok (.getfield 24, 3) := by decide +kernel
theorem dX2_unpack_4 : decode cX2_unpack 4 = .ok (.iload_n 1, 1) := by decide +kernel
theorem dX2_unpack_5 : decode cX2_unpack 5 = .ok (.iaload, 1) := by decide +kernel
theorem dX2_unpack_6 : decode cX2_unpack 6 = .ok (.istore_n 2, 1) := by decide +kernel
theorem dX2_unpack_7 : decode cX2_unpack 7 = .ok (.aload_n 0, 1) := by decide +kernel
theorem dX2_unpack_8 : decode cX2_unpack 8 = .ok (.getfield 22, 3) := by decide +kernel
theorem dX2_unpack_11 : decode cX2_unpack 11 = .ok (.getfield 52, 3) := by decide +kernel
theorem dX2_unpack_14 : decode cX2_unpack 14 = .ok (.iconst 1, 1) := by decide +kernel
theorem dX2_unpack_15 : decode cX2_unpack 15 = .ok (.isub, 1) := by decide +kernel
theorem dX2_unpack_16 : decode cX2_unpack 16 = .ok (.istore_n 3, 1) := by decide +kernel
theorem dX2_unpack_17 : decode cX2_unpack 17 = .ok (.iload_n 3, 1) := by decide +kernel
theorem dX2_unpack_18 : decode cX2_unpack 18 = .ok (.ifCond .lt 23, 3) := by decide +kernel
theorem dX2_unpack_21 : decode cX2_unpack 21 = .ok (.aload_n 0, 1) := by decide +kernel
theorem dX2_unpack_22 : decode cX2_unpack 22 = .ok (.getfield 44, 3) := by decide +kernel
theorem dX2_unpack_25 : decode cX2_unpack 25 = .ok (.iload_n 3, 1) := by decide +kernel
theorem dX2_unpack_26 : decode cX2_unpack 26 = .ok (.iload_n 2, 1) := by decide +kernel
theorem dX2_unpack_27 : decode cX2_unpack 27 = .ok (.bipush 7, 2) := by decide +kernel
theorem dX2_unpack_29 : decode cX2_unpack 29 = .ok (.iand, 1) := by decide +kernel
theorem dX2_unpack_30 : decode cX2_unpack 30 = .ok (.iastore, 1) := by decide +kernel
theorem dX2_unpack_31 : decode cX2_unpack 31 = .ok (.iload_n 2, 1) := by decide +kernel
theorem dX2_unpack_32 : decode cX2_unpack 32 = .ok (.iconst 3, 1) := by decide +kernel
theorem dX2_unpack_33 : decode cX2_unpack 33 = .ok (.ishr, 1) := by decide +kernel
theorem dX2_unpack_34 : decode cX2_unpack 34 = .ok (.istore_n 2, 1) := by decide +kernel
theorem dX2_unpack_35 : decode cX2_unpack 35 = .ok (.iinc 3 (-1), 3) := by decide +kernel
theorem dX2_unpack_38 : decode cX2_unpack 38 = .ok (.goto (-21), 3) := by decide +kernel
theorem dX2_unpack_41 : decode cX2_unpack 41 = .ok (.return_, 1) := by decide +kernel
theorem dX2_value_0 : decode cX2_value 0 = .ok (.aload_n 0, 1) := by decide +kernel
theorem dX2_value_1 : decode cX2_value 1 = .ok (.getfield 32, 3) := by decide +kernel
theorem dX2_value_4 : decode cX2_value 4 = .ok (.ireturn, 1) := by decide +kernel
theorem dX2_number_0 : decode cX2_number 0 = .ok (.aload_n 0, 1) := by decide +kernel
theorem dX2_number_1 : decode cX2_number 1 = .ok (.getfield 28, 3) := by decide +kernel
theorem dX2_number_4 : decode cX2_number 4 = .ok (.ireturn, 1) := by decide +kernel
theorem dX2_pick_0 : decode cX2_pick 0 = .ok (.aload_n 0, 1) := by decide +kernel
theorem dX2_pick_1 : decode cX2_pick 1 = .ok (.iload_n 1, 1) := by decide +kernel
theorem dX2_pick_2 : decode cX2_pick 2 = .ok (.invokevirtual 82, 3) := by decide +kernel
theorem dX2_pick_5 : decode cX2_pick 5 = .ok (.aload_n 0, 1) := by decide +kernel
theorem dX2_pick_6 : decode cX2_pick 6 = .ok (.getfield 44, 3) := by decide +kernel
theorem dX2_pick_9 : decode cX2_pick 9 = .ok (.iconst 0, 1) := by decide +kernel
theorem dX2_pick_10 : decode cX2_pick 10 = .ok (.aload_n 2, 1) := by decide +kernel
theorem dX2_pick_11 : decode cX2_pick 11 = .ok (.iconst 0, 1) := by decide +kernel
theorem dX2_pick_12 : decode cX2_pick 12 = .ok (.aload_n 0, 1) := by decide +kernel
theorem dX2_pick_13 : decode cX2_pick 13 = .ok (.getfield 22, 3) := by decide +kernel
theorem dX2_pick_16 : decode cX2_pick 16 = .ok (.getfield 52, 3) := by decide +kernel
theorem dX2_pick_19 : decode cX2_pick 19 = .ok (.invokestatic 86, 3) := by decide +kernel
theorem dX2_pick_22 : decode cX2_pick 22 = .ok (.return_, 1) := by decide +kernel
theorem dX2_indexOf_0 : decode cX2_indexOf 0 = .ok (.iconst 0, 1) := by decide +kernel
theorem dX2_indexOf_1 : decode cX2_indexOf 1 = .ok (.istore_n 2, 1) := by decide +kernel
theorem dX2_indexOf_2 : decode cX2_indexOf 2 = .ok (.iconst 0, 1) := by decide +kernel
theorem dX2_indexOf_3 : decode cX2_indexOf 3 = .ok (.istore_n 3, 1) := by decide +kernel
theorem dX2_indexOf_4 : decode cX2_indexOf 4 = .ok (.iload_n 3, 1) := by decide +kernel
theorem dX2_indexOf_5 : decode cX2_indexOf 5 = .ok (.aload_n 0, 1) := by decide +kernel
theorem dX2_indexOf_6 : decode cX2_indexOf 6 = .ok (.getfield 22, 3) := by decide +kernel
theorem dX2_indexOf_9 : decode cX2_indexOf 9 = .ok (.getfield 52, 3) := by decide +kernel
theorem dX2_indexOf_12 : decode cX2_indexOf 12 = .ok (.if_icmp .ge 17, 3) := by decide +kernel
theorem dX2_indexOf_15 : decode cX2_indexOf 15 = .ok (.iload_n 2, 1) := by decide +kernel
theorem dX2_indexOf_16 : decode cX2_indexOf 16 = .ok (.iconst 3, 1) := by decide +kernel
theorem dX2_indexOf_17 : decode cX2_indexOf 17 = .ok (.ishl, 1) := by decide +kernel
theorem dX2_indexOf_18 : decode cX2_indexOf 18 = .ok (.aload_n 1, 1) := by decide +kernel
theorem dX2_indexOf_19 : decode cX2_indexOf 19 = .ok (.iload_n 3, 1) := by decide +kernel
theorem dX2_indexOf_20 : decode cX2_indexOf 20 = .ok (.iaload, 1) := by decide +kernel
theorem dX2_indexOf_21 : decode cX2_indexOf 21 = .ok (.ior, 1) := by decide +kernel
theorem dX2_indexOf_22 : decode cX2_indexOf 22 = .ok (.istore_n 2, 1) := by decide +kernel
theorem dX2_indexOf_23 : decode cX2_indexOf 23 = .ok (.iinc 3 1, 3) := by decide +kernel
theorem dX2_indexOf_26 : decode cX2_indexOf 26 = .ok (.goto (-22), 3) := by decide +kernel
theorem dX2_indexOf_29 : decode cX2_indexOf 29 = .ok (.iconst 0, 1) := by decide +kernel
theorem dX2_indexOf_30 : decode cX2_indexOf 30 = .ok (.istore_n 3, 1) := by decide +kernel
theorem dX2_indexOf_31 : decode cX2_indexOf 31 = .ok (.iload_n 3, 1) := by decide +kernel
theorem dX2_indexOf_32 : decode cX2_indexOf 32 = .ok (.aload_n 0, 1) := by decide +kernel
theorem dX2_indexOf_33 : decode cX2_indexOf 33 = .ok (.getfield 28, 3) := by decide +kernel
theorem dX2_indexOf_36 : decode cX2_indexOf 36 = .ok (.if_icmp .ge 21, 3) := by decide +kernel
theorem dX2_indexOf_39 : decode cX2_indexOf 39 = .ok (.aload_n 0, 1) := by decide +kernel
theorem dX2_indexOf_40 : decode cX2_indexOf 40 = .ok (.getfield 24, 3) := by decide +kernel
theorem dX2_indexOf_43 : decode cX2_indexOf 43 = .ok (.iload_n 3, 1) := by decide +kernel
theorem dX2_indexOf_44 : decode cX2_indexOf 44 = .ok (.iaload, 1) := by decide +kernel
theorem dX2_indexOf_45 : decode cX2_indexOf 45 = .ok (.iload_n 2, 1) := by decide +kernel
theorem dX2_indexOf_46 : decode cX2_indexOf 46 = .ok (.if_icmp .ne 5, 3) := by decide +kernel
theorem dX2_indexOf_49 : decode cX2_indexOf 49 = .ok (.iload_n 3, 1) := by decide +kernel
theorem dX2_indexOf_50 : decode cX2_indexOf 50 = .ok (.ireturn, 1) := by decide +kernel
theorem dX2_indexOf_51 : decode cX2_indexOf 51 = .ok (.iinc 3 1, 3) := by decide +kernel
theorem dX2_indexOf_54 : decode cX2_indexOf 54 = .ok (.goto (-23), 3) := by decide +kernel
theorem dX2_indexOf_57 : decode cX2_indexOf 57 = .ok (.bipush (-9), 2) := by decide +kernel
theorem dX2_indexOf_59 : decode cX2_indexOf 59 = .ok (.ireturn, 1) := by decide +kernel
theorem dX2_spreadOf_0 : decode cX2_spreadOf 0 = .ok (.aload_n 2, 1) := by decide +kernel
theorem dX2_spreadOf_1 : decode cX2_spreadOf 1 = .ok (.iconst 0, 1) := by decide +kernel
theorem dX2_spreadOf_2 : decode cX2_spreadOf 2 = .ok (.invokestatic 92, 3) := by decide +kernel
theorem dX2_spreadOf_5 : decode cX2_spreadOf 5 = .ok (.iconst 0, 1) := by decide +kernel
theorem dX2_spreadOf_6 : decode cX2_spreadOf 6 = .ok (.istore_n 3, 1) := by decide +kernel
theorem dX2_spreadOf_7 : decode cX2_spreadOf 7 = .ok (.iload_n 3, 1) := by decide +kernel
theorem dX2_spreadOf_8 : decode cX2_spreadOf 8 = .ok (.aload_n 0, 1) := by decide +kernel
theorem dX2_spreadOf_9 : decode cX2_spreadOf 9 = .ok (.getfield 28, 3) := by decide +kernel
theorem dX2_spreadOf_12 : decode cX2_spreadOf 12 = .ok (.if_icmp .ge 41, 3) := by decide +kernel
theorem dX2_spreadOf_15 : decode cX2_spreadOf 15 = .ok (.aload_n 0, 1) := by decide +kernel
theorem dX2_spreadOf_16 : decode cX2_spreadOf 16 = .ok (.iload_n 3, 1) := by decide +kernel
theorem dX2_spreadOf_17 : decode cX2_spreadOf 17 = .ok (.invokevirtual 82, 3) := by decide +kernel
theorem dX2_spreadOf_20 : decode cX2_spreadOf 20 = .ok (.aload_n 0, 1) := by decide +kernel
theorem dX2_spreadOf_21 : decode cX2_spreadOf 21 = .ok (.getfield 22, 3) := by decide +kernel
theorem dX2_spreadOf_24 : decode cX2_spreadOf 24 = .ok (.aload_n 0, 1) := by decide +kernel
theorem dX2_spreadOf_25 : decode cX2_spreadOf 25 = .ok (.getfield 44, 3) := by decide +kernel
theorem dX2_spreadOf_28 : decode cX2_spreadOf 28 = .ok (.aload_n 0, 1) := by decide +kernel
theorem dX2_spreadOf_29 : decode cX2_spreadOf 29 = .ok (.getfield 41, 3) := by decide +kernel
theorem dX2_spreadOf_32 : decode cX2_spreadOf 32 = .ok (.invokevirtual 98, 3) := by decide +kernel
theorem dX2_spreadOf_35 : decode cX2_spreadOf 35 = .ok (.aload_n 2, 1) := by decide +kernel
theorem dX2_spreadOf_36 : decode cX2_spreadOf 36 = .ok (.aload_n 0, 1) := by decide +kernel
theorem dX2_spreadOf_37 : decode cX2_spreadOf 37 = .ok (.getfield 41, 3) := by decide +kernel
theorem dX2_spreadOf_40 : decode cX2_spreadOf 40 = .ok (.iload_n 1, 1) := by decide +kernel
theorem dX2_spreadOf_41 : decode cX2_spreadOf 41 = .ok (.iaload, 1) := by decide +kernel
theorem dX2_spreadOf_42 : decode cX2_spreadOf 42 = .ok (.dup2, 1) := by decide +kernel
theorem dX2_spreadOf_43 : decode cX2_spreadOf 43 = .ok (.iaload, 1) := by decide +kernel
theorem dX2_spreadOf_44 : decode cX2_spreadOf 44 = .ok (.iconst 1, 1) := by decide +kernel
theorem dX2_spreadOf_45 : decode cX2_spreadOf 45 = .ok (.iadd, 1) := by decide +kernel
theorem dX2_spreadOf_46 : decode cX2_spreadOf 46 = .ok (.iastore, 1) := by decide +kernel
theorem dX2_spreadOf_47 : decode cX2_spreadOf 47 = .ok (.iinc 3 1, 3) := by decide +kernel
theorem dX2_spreadOf_50 : decode cX2_spreadOf 50 = .ok (.goto (-43), 3) := by decide +kernel
theorem dX2_spreadOf_53 : decode cX2_spreadOf 53 = .ok (.return_, 1) := by decide +kernel
theorem dX2_numberAhead_0 : decode cX2_numberAhead 0 = .ok (.iconst 0, 1) := by decide +kernel
theorem dX2_numberAhead_1 : decode cX2_numberAhead 1 = .ok (.istore_n 3, 1) := by decide +kernel
theorem dX2_numberAhead_2 : decode cX2_numberAhead 2 = .ok (.iconst 0, 1) := by decide +kernel
theorem dX2_numberAhead_3 : decode cX2_numberAhead 3 = .ok (.istore 4, 2) := by decide +kernel
theorem dX2_numberAhead_5 : decode cX2_numberAhead 5 = .ok (.iload 4, 2) := by decide +kernel
theorem dX2_numberAhead_7 : decode cX2_numberAhead 7 = .ok (.aload_n 0, 1) := by decide +kernel
theorem dX2_numberAhead_8 : decode cX2_numberAhead 8 = .ok (.getfield 28, 3) := by decide +kernel
theorem dX2_numberAhead_11 : decode cX2_numberAhead 11 = .ok (.if_icmp .ge 48, 3) := by decide +kernel
theorem dX2_numberAhead_14 : decode cX2_numberAhead 14 = .ok (.aload_n 0, 1) := by decide +kernel
theorem dX2_numberAhead_15 : decode cX2_numberAhead 15 = .ok (.iload 4, 2) := by decide +kernel
theorem dX2_numberAhead_17 : decode cX2_numberAhead 17 = .ok (.invokevirtual 82, 3) := by decide +kernel
theorem dX2_numberAhead_20 : decode cX2_numberAhead 20 = .ok (.aload_n 0, 1) := by decide +kernel
theorem dX2_numberAhead_21 : decode cX2_numberAhead 21 = .ok (.getfield 22, 3) := by decide +kernel
theorem dX2_numberAhead_24 : decode cX2_numberAhead 24 = .ok (.aload_n 0, 1) := by decide +kernel
theorem dX2_numberAhead_25 : decode cX2_numberAhead 25 = .ok (.getfield 44, 3) := by decide +kernel
theorem dX2_numberAhead_28 : decode cX2_numberAhead 28 = .ok (.aload_n 0, 1) := by decide +kernel
theorem dX2_numberAhead_29 : decode cX2_numberAhead 29 = .ok (.getfield 41, 3) := by decide +kernel
theorem dX2_numberAhead_32 : decode cX2_numberAhead 32 = .ok (.invokevirtual 98, 3) := by decide +kernel
theorem dX2_numberAhead_35 : decode cX2_numberAhead 35 = .ok (.aload_n 0, 1) := by decide +kernel
theorem dX2_numberAhead_36 : decode cX2_numberAhead 36 = .ok (.getfield 41, 3) := by decide +kernel
theorem dX2_numberAhead_39 : decode cX2_numberAhead 39 = .ok (.iload_n 1, 1) := by decide +kernel
theorem dX2_numberAhead_40 : decode cX2_numberAhead 40 = .ok (.iaload, 1) := by decide +kernel
theorem dX2_numberAhead_41 : decode cX2_numberAhead 41 = .ok (.aload_n 0, 1) := by decide +kernel
theorem dX2_numberAhead_42 : decode cX2_numberAhead 42 = .ok (.getfield 41, 3) := by decide +kernel
theorem dX2_numberAhead_45 : decode cX2_numberAhead 45 = .ok (.iload_n 2, 1) := by decide +kernel
theorem dX2_numberAhead_46 : decode cX2_numberAhead 46 = .ok (.iaload, 1) := by decide +kernel
theorem dX2_numberAhead_47 : decode cX2_numberAhead 47 = .ok (.if_icmp .ge 6, 3) := by decide +kernel
theorem dX2_numberAhead_50 : decode cX2_numberAhead 50 = .ok (.iinc 3 1, 3) := by decide +kernel
theorem dX2_numberAhead_53 : decode cX2_numberAhead 53 = .ok (.iinc 4 1, 3) := by decide +kernel
theorem dX2_numberAhead_56 : decode cX2_numberAhead 56 = .ok (.goto (-51), 3) := by decide +kernel
theorem dX2_numberAhead_59 : decode cX2_numberAhead 59 = .ok (.iload_n 3, 1) := by decide +kernel
theorem dX2_numberAhead_60 : decode cX2_numberAhead 60 = .ok (.ireturn, 1) := by decide +kernel
theorem dX2_compare_0 : decode cX2_compare 0 = .ok (.aload_n 0, 1) := by decide +kernel
theorem dX2_compare_1 : decode cX2_compare 1 = .ok (.ldc 47, 2) := by decide +kernel
theorem dX2_compare_3 : decode cX2_compare 3 = .ok (.putfield 35, 3) := by decide +kernel
theorem dX2_compare_6 : decode cX2_compare 6 = .ok (.aload_n 0, 1) := by decide +kernel
theorem dX2_compare_7 : decode cX2_compare 7 = .ok (.iconst 0, 1) := by decide +kernel
theorem dX2_compare_8 : decode cX2_compare 8 = .ok (.putfield 38, 3) := by decide +kernel
theorem dX2_compare_11 : decode cX2_compare 11 = .ok (.iconst 0, 1) := by decide +kernel
theorem dX2_compare_12 : decode cX2_compare 12 = .ok (.istore_n 2, 1) := by decide +kernel
theorem dX2_compare_13 : decode cX2_compare 13 = .ok (.iload_n 2, 1) := by decide +kernel
theorem dX2_compare_14 : decode cX2_compare 14 = .ok (.aload_n 0, 1) := by decide +kernel
theorem dX2_compare_15 : decode cX2_compare 15 = .ok (.getfield 28, 3) := by decide +kernel
theorem dX2_compare_18 : decode cX2_compare 18 = .ok (.if_icmp .ge 63, 3) := by decide +kernel
theorem dX2_compare_21 : decode cX2_compare 21 = .ok (.aload_n 0, 1) := by decide +kernel
theorem dX2_compare_22 : decode cX2_compare 22 = .ok (.iload_n 2, 1) := by decide +kernel
theorem dX2_compare_23 : decode cX2_compare 23 = .ok (.invokevirtual 82, 3) := by decide +kernel
theorem dX2_compare_26 : decode cX2_compare 26 = .ok (.aload_n 0, 1) := by decide +kernel
theorem dX2_compare_27 : decode cX2_compare 27 = .ok (.getfield 22, 3) := by decide +kernel
theorem dX2_compare_30 : decode cX2_compare 30 = .ok (.iload_n 1, 1) := by decide +kernel
theorem dX2_compare_31 : decode cX2_compare 31 = .ok (.aload_n 0, 1) := by decide +kernel
theorem dX2_compare_32 : decode cX2_compare 32 = .ok (.getfield 44, 3) := by decide +kernel
theorem dX2_compare_35 : decode cX2_compare 35 = .ok (.invokevirtual 102, 3) := by decide +kernel
theorem dX2_compare_38 : decode cX2_compare 38 = .ok (.istore_n 3, 1) := by decide +kernel
theorem dX2_compare_39 : decode cX2_compare 39 = .ok (.iload_n 3, 1) := by decide +kernel
theorem dX2_compare_40 : decode cX2_compare 40 = .ok (.aload_n 0, 1) := by decide +kernel
theorem dX2_compare_41 : decode cX2_compare 41 = .ok (.getfield 35, 3) := by decide +kernel
theorem dX2_compare_44 : decode cX2_compare 44 = .ok (.if_icmp .ge 13, 3) := by decide +kernel
theorem dX2_compare_47 : decode cX2_compare 47 = .ok (.aload_n 0, 1) := by decide +kernel
theorem dX2_compare_48 : decode cX2_compare 48 = .ok (.iload_n 3, 1) := by decide +kernel
theorem dX2_compare_49 : decode cX2_compare 49 = .ok (.putfield 35, 3) := by decide +kernel
theorem dX2_compare_52 : decode cX2_compare 52 = .ok (.aload_n 0, 1) := by decide +kernel
theorem dX2_compare_53 : decode cX2_compare 53 = .ok (.iconst 0, 1) := by decide +kernel
theorem dX2_compare_54 : decode cX2_compare 54 = .ok (.putfield 38, 3) := by decide +kernel
theorem dX2_compare_57 : decode cX2_compare 57 = .ok (.iload_n 3, 1) := by decide +kernel
theorem dX2_compare_58 : decode cX2_compare 58 = .ok (.aload_n 0, 1) := by decide +kernel
theorem dX2_compare_59 : decode cX2_compare 59 = .ok (.getfield 35, 3) := by decide +kernel
theorem dX2_compare_62 : decode cX2_compare 62 = .ok (.if_icmp .ne 13, 3) := by decide +kernel
theorem dX2_compare_65 : decode cX2_compare 65 = .ok (.aload_n 0, 1) := by decide +kernel
theorem dX2_compare_66 : decode cX2_compare 66 = .ok (.dup, 1) := by decide +kernel
theorem dX2_compare_67 : decode cX2_compare 67 = .ok (.getfield 38, 3) := by decide +kernel
theorem dX2_compare_70 : decode cX2_compare 70 = .ok (.iconst 1, 1) := by decide +kernel
theorem dX2_compare_71 : decode cX2_compare 71 = .ok (.iadd, 1) := by decide +kernel
theorem dX2_compare_72 : decode cX2_compare 72 = .ok (.putfield 38, 3) := by decide +kernel
theorem dX2_compare_75 : decode cX2_compare 75 = .ok (.iinc 2 1, 3) := by decide +kernel
theorem dX2_compare_78 : decode cX2_compare 78 = .ok (.goto (-65), 3) := by decide +kernel
theorem dX2_compare_81 : decode cX2_compare 81 = .ok (.return_, 1) := by decide +kernel
theorem dX3_init_0 : decode cX3_init 0 = .ok (.aload_n 0, 1) := by decide +kernel
theorem dX3_init_1 : decode cX3_init 1 = .ok (.invokespecial 3, 3) := by decide +kernel
theorem dX3_init_4 : decode cX3_init 4 = .ok (.aload_n 0, 1) := by decide +kernel
theorem dX3_init_5 : decode cX3_init 5 = .ok (.new 9, 3) := by decide +kernel
theorem dX3_init_8 : decode cX3_init 8 = .ok (.dup, 1) := by decide +kernel
theorem dX3_init_9 : decode cX3_init 9 = .ok (.invokespecial 11, 3) := by decide +kernel
theorem dX3_init_12 : decode cX3_init 12 = .ok (.putfield 12, 3) := by decide +kernel
theorem dX3_init_15 : decode cX3_init 15 = .ok (.aload_n 0, 1) := by decide +kernel
theorem dX3_init_16 : decode cX3_init 16 = .ok (.aconst_null, 1) := by decide +kernel
theorem dX3_init_17 : decode cX3_init 17 = .ok (.putfield 18, 3) := by decide +kernel
theorem dX3_init_20 : decode cX3_init 20 = .ok (.aload_n 0, 1) := by decide +kernel
theorem dX3_init_21 : decode cX3_init 21 = .ok (.iconst 0, 1) := by decide +kernel
theorem dX3_init_22 : decode cX3_init 22 = .ok (.putfield 22, 3) := by decide +kernel
theorem dX3_init_25 : decode cX3_init 25 = .ok (.return_, 1) := by decide +kernel
theorem dX3_read_0 : decode cX3_read 0 = .ok (.aload_n 0, 1) := by decide +kernel
theorem dX3_read_1 : decode cX3_read 1 = .ok (.aload_n 1, 1) := by decide +kernel
theorem dX3_read_2 : decode cX3_read 2 = .ok (.putfield 18, 3) := by decide +kernel
theorem dX3_read_5 : decode cX3_read 5 = .ok (.aload_n 0, 1) := by decide +kernel
theorem dX3_read_6 : decode cX3_read 6 = .ok (.iconst 0, 1) := by decide +kernel
theorem dX3_read_7 : decode cX3_read 7 = .ok (.putfield 22, 3) := by decide +kernel
theorem dX3_read_10 : decode cX3_read 10 = .ok (.aload_n 0, 1) := by decide +kernel
theorem dX3_read_11 : decode cX3_read 11 = .ok (.getfield 12, 3) := by decide +kernel
theorem dX3_read_14 : decode cX3_read 14 = .ok (.iconst 0, 1) := by decide +kernel
theorem dX3_read_15 : decode cX3_read 15 = .ok (.invokevirtual 26, 3) := by decide +kernel
theorem dX3_read_18 : decode cX3_read 18 = .ok (.aload_n 0, 1) := by decide +kernel
theorem dX3_read_19 : decode cX3_read 19 = .ok (.invokevirtual 30, 3) := by decide +kernel
theorem dX3_read_22 : decode cX3_read 22 = .ok (.aload_n 0, 1) := by decide +kernel
theorem dX3_read_23 : decode cX3_read 23 = .ok (.invokevirtual 33, 3) := by decide +kernel
theorem dX3_read_26 : decode cX3_read 26 = .ok (.ifCond .ne 8, 3) := by decide +kernel
theorem dX3_read_29 : decode cX3_read 29 = .ok (.aload_n 0, 1) := by decide +kernel
theorem dX3_read_30 : decode cX3_read 30 = .ok (.getfield 22, 3) := by decide +kernel
theorem dX3_read_33 : decode cX3_read 33 = .ok (.ireturn, 1) := by decide +kernel
theorem dX3_read_34 : decode cX3_read 34 = .ok (.iconst 0, 1) := by decide +kernel
theorem dX3_read_35 : decode cX3_read 35 = .ok (.istore_n 2, 1) := by decide +kernel
theorem dX3_read_36 : decode cX3_read 36 = .ok (.iload_n 2, 1) := by decide +kernel
theorem dX3_read_37 : decode cX3_read 37 = .ok (.bipush 120, 2) := by decide +kernel
theorem dX3_read_39 : decode cX3_read 39 = .ok (.if_icmp .gt 42, 3) := by decide +kernel
theorem dX3_read_42 : decode cX3_read 42 = .ok (.aload_n 0, 1) := by decide +kernel
theorem dX3_read_43 : decode cX3_read 43 = .ok (.invokevirtual 30, 3) := by decide +kernel
theorem dX3_read_46 : decode cX3_read 46 = .ok (.aload_n 0, 1) := by decide +kernel
theorem dX3_read_47 : decode cX3_read 47 = .ok (.getfield 22, 3) := by decide +kernel
theorem dX3_read_50 : decode cX3_read 50 = .ok (.aload_n 0, 1) := by decide +kernel
theorem dX3_read_51 : decode cX3_read 51 = .ok (.getfield 18, 3) := by decide +kernel
theorem dX3_read_54 : decode cX3_read 54 = .ok (.getfield 37, 3) := by decide +kernel
theorem dX3_read_57 : decode cX3_read 57 = .ok (.if_icmp .lt 6, 3) := by decide +kernel
theorem dX3_read_60 : decode cX3_read 60 = .ok (.bipush (-9), 2) := by decide +kernel
theorem dX3_read_62 : decode cX3_read 62 = .ok (.ireturn, 1) := by decide +kernel
theorem dX3_read_63 : decode cX3_read 63 = .ok (.aload_n 0, 1) := by decide +kernel
theorem dX3_read_64 : decode cX3_read 64 = .ok (.invokevirtual 42, 3) := by decide +kernel
theorem dX3_read_67 : decode cX3_read 67 = .ok (.ifCond .ne 8, 3) := by decide +kernel
theorem dX3_read_70 : decode cX3_read 70 = .ok (.aload_n 0, 1) := by decide +kernel
theorem dX3_read_71 : decode cX3_read 71 = .ok (.getfield 22, 3) := by decide +kernel
theorem dX3_read_74 : decode cX3_read 74 = .ok (.ireturn, 1) := by decide +kernel
theorem dX3_read_75 : decode cX3_read 75 = .ok (.iinc 2 1, 3) := by decide +kernel
theorem dX3_read_78 : decode cX3_read 78 = .ok (.goto (-42), 3) := by decide +kernel
theorem dX3_read_81 : decode cX3_read 81 = .ok (.bipush (-9), 2) := by decide +kernel
theorem dX3_read_83 : decode cX3_read 83 = .ok (.ireturn, 1) := by decide +kernel
theorem dX3_sign_0 : decode cX3_sign 0 = .ok (.aload_n 0, 1) := by decide +kernel
theorem dX3_sign_1 : decode cX3_sign 1 = .ok (.getfield 22, 3) := by decide +kernel
theorem dX3_sign_4 : decode cX3_sign 4 = .ok (.aload_n 0, 1) := by decide +kernel
theorem dX3_sign_5 : decode cX3_sign 5 = .ok (.getfield 18, 3) := by decide +kernel
theorem dX3_sign_8 : decode cX3_sign 8 = .ok (.getfield 37, 3) := by decide +kernel
theorem dX3_sign_11 : decode cX3_sign 11 = .ok (.if_icmp .ge 18, 3) := by decide +kernel
theorem dX3_sign_14 : decode cX3_sign 14 = .ok (.aload_n 0, 1) := by decide +kernel
theorem dX3_sign_15 : decode cX3_sign 15 = .ok (.getfield 18, 3) := by decide +kernel
theorem dX3_sign_18 : decode cX3_sign 18 = .ok (.getfield 45, 3) := by decide +kernel
theorem dX3_sign_21 : decode cX3_sign 21 = .ok (.aload_n 0, 1) := by decide +kernel
theorem dX3_sign_22 : decode cX3_sign 22 = .ok (.getfield 22, 3) := by decide +kernel
theorem dX3_sign_25 : decode cX3_sign 25 = .ok (.iaload, 1) := by decide +kernel
theorem dX3_sign_26 : decode cX3_sign 26 = .ok (.goto 5, 3) := by decide +kernel
theorem dX3_sign_29 : decode cX3_sign 29 = .ok (.bipush (-9), 2) := by decide +kernel
theorem dX3_sign_31 : decode cX3_sign 31 = .ok (.ireturn, 1) := by decide +kernel
theorem dX3_skipBlanks_0 : decode cX3_skipBlanks 0 = .ok (.iconst 0, 1) := by decide +kernel
theorem dX3_skipBlanks_1 : decode cX3_skipBlanks 1 = .ok (.istore_n 1, 1) := by decide +kernel
theorem dX3_skipBlanks_2 : decode cX3_skipBlanks 2 = .ok (.iload_n 1, 1) := by decide +kernel
theorem dX3_skipBlanks_3 : decode cX3_skipBlanks 3 = .ok (.bipush 120, 2) := by decide +kernel
theorem dX3_skipBlanks_5 : decode cX3_skipBlanks 5 = .ok (.if_icmp .ge 28, 3) := by decide +kernel
theorem dX3_skipBlanks_8 : decode cX3_skipBlanks 8 = .ok (.aload_n 0, 1) := by decide +kernel
theorem dX3_skipBlanks_9 : decode cX3_skipBlanks 9 = .ok (.invokevirtual 49, 3) := by decide +kernel
theorem dX3_skipBlanks_12 : decode cX3_skipBlanks 12 = .ok (.bipush 32, 2) := by decide +kernel
theorem dX3_skipBlanks_14 : decode cX3_skipBlanks 14 = .ok (.if_icmp .ne 19, 3) := by decide +kernel
theorem dX3_skipBlanks_17 : decode cX3_skipBlanks 17 = .ok (.aload_n 0, 1) := by decide +kernel
theorem dX3_skipBlanks_18 : decode cX3_skipBlanks 18 = .ok (.dup, 1) := by decide +kernel
theorem dX3_skipBlanks_19 : decode cX3_skipBlanks 19 = .ok (.getfield 22, 3) := by decide +kernel
theorem dX3_skipBlanks_22 : decode cX3_skipBlanks 22 = .ok (.iconst 1, 1) := by decide +kernel
theorem dX3_skipBlanks_23 : decode cX3_skipBlanks 23 = .ok (.iadd, 1) := by decide +kernel
theorem dX3_skipBlanks_24 : decode cX3_skipBlanks 24 = .ok (.putfield 22, 3) := by decide +kernel
theorem dX3_skipBlanks_27 : decode cX3_skipBlanks 27 = .ok (.iinc 1 1, 3) := by decide +kernel
theorem dX3_skipBlanks_30 : decode cX3_skipBlanks 30 = .ok (.goto (-28), 3) := by decide +kernel
theorem dX3_skipBlanks_33 : decode cX3_skipBlanks 33 = .ok (.return_, 1) := by decide +kernel
theorem dX3_isFigure_0 : decode cX3_isFigure 0 = .ok (.aload_n 0, 1) := by decide +kernel
theorem dX3_isFigure_1 : decode cX3_isFigure 1 = .ok (.invokevirtual 49, 3) := by decide +kernel
theorem dX3_isFigure_4 : decode cX3_isFigure 4 = .ok (.bipush 48, 2) := by decide +kernel
theorem dX3_isFigure_6 : decode cX3_isFigure 6 = .ok (.if_icmp .lt 16, 3) := by decide +kernel
theorem dX3_isFigure_9 : decode cX3_isFigure 9 = .ok (.aload_n 0, 1) := by decide +kernel
theorem dX3_isFigure_10 : decode cX3_isFigure 10 = .ok (.invokevirtual 49, 3) := by decide +kernel
theorem dX3_isFigure_13 : decode cX3_isFigure 13 = .ok (.bipush 57, 2) := by decide +kernel
theorem dX3_isFigure_15 : decode cX3_isFigure 15 = .ok (.if_icmp .gt 7, 3) := by decide +kernel
theorem dX3_isFigure_18 : decode cX3_isFigure 18 = .ok (.iconst 1, 1) := by decide +kernel
theorem dX3_isFigure_19 : decode cX3_isFigure 19 = .ok (.goto 4, 3) := by decide +kernel
theorem dX3_isFigure_22 : decode cX3_isFigure 22 = .ok (.iconst 0, 1) := by decide +kernel
theorem dX3_isFigure_23 : decode cX3_isFigure 23 = .ok (.ireturn, 1) := by decide +kernel
theorem dX3_takeFigure_0 : decode cX3_takeFigure 0 = .ok (.aload_n 0, 1) := by decide +kernel
theorem dX3_takeFigure_1 : decode cX3_takeFigure 1 = .ok (.invokevirtual 49, 3) := by decide +kernel
theorem dX3_takeFigure_4 : decode cX3_takeFigure 4 = .ok (.bipush 48, 2) := by decide +kernel
theorem dX3_takeFigure_6 : decode cX3_takeFigure 6 = .ok (.isub, 1) := by decide +kernel
theorem dX3_takeFigure_7 : decode cX3_takeFigure 7 = .ok (.istore_n 1, 1) := by decide +kernel
theorem dX3_takeFigure_8 : decode cX3_takeFigure 8 = .ok (.aload_n 0, 1) := by decide +kernel
theorem dX3_takeFigure_9 : decode cX3_takeFigure 9 = .ok (.dup, 1) := by decide +kernel
theorem dX3_takeFigure_10 : decode cX3_takeFigure 10 = .ok (.getfield 22, 3) := by decide +kernel
theorem dX3_takeFigure_13 : decode cX3_takeFigure 13 = .ok (.iconst 1, 1) := by decide +kernel
theorem dX3_takeFigure_14 : decode cX3_takeFigure 14 = .ok (.iadd, 1) := by decide +kernel
theorem dX3_takeFigure_15 : decode cX3_takeFigure 15 = .ok (.putfield 22, 3) := by decide +kernel
theorem dX3_takeFigure_18 : decode cX3_takeFigure 18 = .ok (.iload_n 1, 1) := by decide +kernel
theorem dX3_takeFigure_19 : decode cX3_takeFigure 19 = .ok (.ireturn, 1) := by decide +kernel
theorem dX3_isThingBut_0 : decode cX3_isThingBut 0 = .ok (.aload_n 0, 1) := by decide +kernel
theorem dX3_isThingBut_1 : decode cX3_isThingBut 1 = .ok (.invokevirtual 49, 3) := by decide +kernel
theorem dX3_isThingBut_4 : decode cX3_isThingBut 4 = .ok (.bipush 65, 2) := by decide +kernel
theorem dX3_isThingBut_6 : decode cX3_isThingBut 6 = .ok (.isub, 1) := by decide +kernel
theorem dX3_isThingBut_7 : decode cX3_isThingBut 7 = .ok (.istore_n 3, 1) := by decide +kernel
theorem dX3_isThingBut_8 : decode cX3_isThingBut 8 = .ok (.aload_n 0, 1) := by decide +kernel
theorem dX3_isThingBut_9 : decode cX3_isThingBut 9 = .ok (.getfield 12, 3) := by decide +kernel
theorem dX3_isThingBut_12 : decode cX3_isThingBut 12 = .ok (.iload_n 3, 1) := by decide +kernel
theorem dX3_isThingBut_13 : decode cX3_isThingBut 13 = .ok (.invokevirtual 53, 3) := by decide +kernel
theorem dX3_isThingBut_16 : decode cX3_isThingBut 16 = .ok (.ifCond .eq 17, 3) := by decide +kernel
theorem dX3_isThingBut_19 : decode cX3_isThingBut 19 = .ok (.iload_n 3, 1) := by decide +kernel
theorem dX3_isThingBut_20 : decode cX3_isThingBut 20 = .ok (.iload_n 1, 1) := by decide +kernel
theorem dX3_isThingBut_21 : decode cX3_isThingBut 21 = .ok (.if_icmp .eq 12, 3) := by decide +kernel
theorem dX3_isThingBut_24 : decode cX3_isThingBut 24 = .ok (.iload_n 3, 1) := by decide +kernel
theorem dX3_isThingBut_25 : decode cX3_isThingBut 25 = .ok (.iload_n 2, 1) := by decide +kernel
theorem dX3_isThingBut_26 : decode cX3_isThingBut 26 = .ok (.if_icmp .eq 7, 3) := by decide +kernel
theorem dX3_isThingBut_29 : decode cX3_isThingBut 29 = .ok (.iconst 1, 1) := by decide +kernel
theorem dX3_isThingBut_30 : decode cX3_isThingBut 30 = .ok (.goto 4, 3) := by decide +kernel
theorem dX3_isThingBut_33 : decode cX3_isThingBut 33 = .ok (.iconst 0, 1) := by decide +kernel
theorem dX3_isThingBut_34 : decode cX3_isThingBut 34 = .ok (.ireturn, 1) := by decide +kernel
theorem dX3_takeThing_0 : decode cX3_takeThing 0 = .ok (.aload_n 0, 1) := by decide +kernel
theorem dX3_takeThing_1 : decode cX3_takeThing 1 = .ok (.invokevirtual 49, 3) := by decide +kernel
theorem dX3_takeThing_4 : decode cX3_takeThing 4 = .ok (.bipush 65, 2) := by decide +kernel
theorem dX3_takeThing_6 : decode cX3_takeThing 6 = .ok (.isub, 1) := by decide +kernel
theorem dX3_takeThing_7 : decode cX3_takeThing 7 = .ok (.istore_n 1, 1) := by decide +kernel
theorem dX3_takeThing_8 : decode cX3_takeThing 8 = .ok (.aload_n 0, 1) := by decide +kernel
theorem dX3_takeThing_9 : decode cX3_takeThing 9 = .ok (.dup, 1) := by decide +kernel
theorem dX3_takeThing_10 : decode cX3_takeThing 10 = .ok (.getfield 22, 3) := by decide +kernel
theorem dX3_takeThing_13 : decode cX3_takeThing 13 = .ok (.iconst 1, 1) := by decide +kernel
theorem dX3_takeThing_14 : decode cX3_takeThing 14 = .ok (.iadd, 1) := by decide +kernel
theorem dX3_takeThing_15 : decode cX3_takeThing 15 = .ok (.putfield 22, 3) := by decide +kernel
theorem dX3_takeThing_18 : decode cX3_takeThing 18 = .ok (.iload_n 1, 1) := by decide +kernel
theorem dX3_takeThing_19 : decode cX3_takeThing 19 = .ok (.ireturn, 1) := by decide +kernel
theorem dX3_readHead_0 : decode cX3_readHead 0 = .ok (.aload_n 0, 1) := by decide +kernel
theorem dX3_readHead_1 : decode cX3_readHead 1 = .ok (.invokevirtual 49, 3) := by decide +kernel
theorem dX3_readHead_4 : decode cX3_readHead 4 = .ok (.bipush 110, 2) := by decide +kernel
theorem dX3_readHead_6 : decode cX3_readHead 6 = .ok (.if_icmp .eq 5, 3) := by decide +kernel
theorem dX3_readHead_9 : decode cX3_readHead 9 = .ok (.iconst 0, 1) := by decide +kernel
theorem dX3_readHead_10 : decode cX3_readHead 10 = .ok (.ireturn, 1) := by decide +kernel
theorem dX3_readHead_11 : decode cX3_readHead 11 = .ok (.aload_n 0, 1) := by decide +kernel
theorem dX3_readHead_12 : decode cX3_readHead 12 = .ok (.dup, 1) := by decide +kernel
theorem dX3_readHead_13 : decode cX3_readHead 13 = .ok (.getfield 22, 3) := by decide +kernel
theorem dX3_readHead_16 : decode cX3_readHead 16 = .ok (.iconst 1, 1) := by decide +kernel
theorem dX3_readHead_17 : decode cX3_readHead 17 = .ok (.iadd, 1) := by decide +kernel
theorem dX3_readHead_18 : decode cX3_readHead 18 = .ok (.putfield 22, 3) := by decide +kernel
theorem dX3_readHead_21 : decode cX3_readHead 21 = .ok (.aload_n 0, 1) := by decide +kernel
theorem dX3_readHead_22 : decode cX3_readHead 22 = .ok (.invokevirtual 57, 3) := by decide +kernel
theorem dX3_readHead_25 : decode cX3_readHead 25 = .ok (.ifCond .ne 5, 3) := by decide +kernel
theorem dX3_readHead_28 : decode cX3_readHead 28 = .ok (.iconst 0, 1) := by decide +kernel
theorem dX3_readHead_29 : decode cX3_readHead 29 = .ok (.ireturn, 1) := by decide +kernel
theorem dX3_readHead_30 : decode cX3_readHead 30 = .ok (.aload_n 0, 1) := by decide +kernel
theorem dX3_readHead_31 : decode cX3_readHead 31 = .ok (.invokevirtual 60, 3) := by decide +kernel
theorem dX3_readHead_34 : decode cX3_readHead 34 = .ok (.istore_n 1, 1) := by decide +kernel
theorem dX3_readHead_35 : decode cX3_readHead 35 = .ok (.aload_n 0, 1) := by decide +kernel
theorem dX3_readHead_36 : decode cX3_readHead 36 = .ok (.invokevirtual 57, 3) := by decide +kernel
theorem dX3_readHead_39 : decode cX3_readHead 39 = .ok (.ifCond .eq 13, 3) := by decide +kernel
theorem dX3_readHead_42 : decode cX3_readHead 42 = .ok (.bipush 10, 2) := by decide +kernel
theorem dX3_readHead_44 : decode cX3_readHead 44 = .ok (.iload_n 1, 1) := by decide +kernel
theorem dX3_readHead_45 : decode cX3_readHead 45 = .ok (.imul, 1) := by decide +kernel
theorem dX3_readHead_46 : decode cX3_readHead 46 = .ok (.aload_n 0, 1) := by decide +kernel
theorem dX3_readHead_47 : decode cX3_readHead 47 = .ok (.invokevirtual 60, 3) := by decide +kernel
theorem dX3_readHead_50 : decode cX3_readHead 50 = .ok (.iadd, 1) := by decide +kernel
theorem dX3_readHead_51 : decode cX3_readHead 51 = .ok (.istore_n 1, 1) := by decide +kernel
theorem dX3_readHead_52 : decode cX3_readHead 52 = .ok (.iload_n 1, 1) := by decide +kernel
theorem dX3_readHead_53 : decode cX3_readHead 53 = .ok (.iconst 1, 1) := by decide +kernel
theorem dX3_readHead_54 : decode cX3_readHead 54 = .ok (.if_icmp .lt 9, 3) := by decide +kernel
theorem dX3_readHead_57 : decode cX3_readHead 57 = .ok (.iload_n 1, 1) := by decide +kernel
theorem dX3_readHead_58 : decode cX3_readHead 58 = .ok (.bipush 10, 2) := by decide +kernel
theorem dX3_readHead_60 : decode cX3_readHead 60 = .ok (.if_icmp .le 5, 3) := by decide +kernel
theorem dX3_readHead_63 : decode cX3_readHead 63 = .ok (.iconst 0, 1) := by decide +kernel
theorem dX3_readHead_64 : decode cX3_readHead 64 = .ok (.ireturn, 1) := by decide +kernel
theorem dX3_readHead_65 : decode cX3_readHead 65 = .ok (.aload_n 0, 1) := by decide +kernel
theorem dX3_readHead_66 : decode cX3_readHead 66 = .ok (.getfield 12, 3) := by decide +kernel
theorem dX3_readHead_69 : decode cX3_readHead 69 = .ok (.iload_n 1, 1) := by decide +kernel
theorem dX3_readHead_70 : decode cX3_readHead 70 = .ok (.invokevirtual 26, 3) := by decide +kernel
theorem dX3_readHead_73 : decode cX3_readHead 73 = .ok (.iconst 1, 1) := by decide +kernel
theorem dX3_readHead_74 : decode cX3_readHead 74 = .ok (.ireturn, 1) := by decide +kernel
theorem dX3_readItem_0 : decode cX3_readItem 0 = .ok (.aload_n 0, 1) := by decide +kernel
theorem dX3_readItem_1 : decode cX3_readItem 1 = .ok (.getfield 22, 3) := by decide +kernel
theorem dX3_readItem_4 : decode cX3_readItem 4 = .ok (.istore_n 1, 1) := by decide +kernel
theorem dX3_readItem_5 : decode cX3_readItem 5 = .ok (.aload_n 0, 1) := by decide +kernel
theorem dX3_readItem_6 : decode cX3_readItem 6 = .ok (.bipush (-9), 2) := by decide +kernel
theorem dX3_readItem_8 : decode cX3_readItem 8 = .ok (.bipush (-9), 2) := by decide +kernel
theorem dX3_readItem_10 : decode cX3_readItem 10 = .ok (.invokevirtual 63, 3) := by decide +kernel
theorem dX3_readItem_13 : decode cX3_readItem 13 = .ok (.ifCond .ne 5, 3) := by decide +kernel
theorem dX3_readItem_16 : decode cX3_readItem 16 = .ok (.iconst 0, 1) := by decide +kernel
theorem dX3_readItem_17 : decode cX3_readItem 17 = .ok (.ireturn, 1) := by decide +kernel
theorem dX3_readItem_18 : decode cX3_readItem 18 = .ok (.aload_n 0, 1) := by decide +kernel
theorem dX3_readItem_19 : decode cX3_readItem 19 = .ok (.invokevirtual 67, 3) := by decide +kernel
theorem dX3_readItem_22 : decode cX3_readItem 22 = .ok (.istore_n 2, 1) := by decide +kernel
theorem dX3_readItem_23 : decode cX3_readItem 23 = .ok (.aload_n 0, 1) := by decide +kernel
theorem dX3_readItem_24 : decode cX3_readItem 24 = .ok (.iload_n 2, 1) := by decide +kernel
theorem dX3_readItem_25 : decode cX3_readItem 25 = .ok (.bipush (-9), 2) := by decide +kernel
theorem dX3_readItem_27 : decode cX3_readItem 27 = .ok (.invokevirtual 63, 3) := by decide +kernel
theorem dX3_readItem_30 : decode cX3_readItem 30 = .ok (.ifCond .eq 13, 3) := by decide +kernel
theorem dX3_readItem_33 : decode cX3_readItem 33 = .ok (.aload_n 0, 1) := by decide +kernel
theorem dX3_readItem_34 : decode cX3_readItem 34 = .ok (.iload_n 2, 1) := by decide +kernel
theorem dX3_readItem_35 : decode cX3_readItem 35 = .ok (.aload_n 0, 1) := by decide +kernel
theorem dX3_readItem_36 : decode cX3_readItem 36 = .ok (.invokevirtual 67, 3) := by decide +kernel
theorem dX3_readItem_39 : decode cX3_readItem 39 = .ok (.invokevirtual 70, 3) := by decide +kernel
theorem dX3_readItem_42 : decode cX3_readItem 42 = .ok (.ireturn, 1) := by decide +kernel
theorem dX3_readItem_43 : decode cX3_readItem 43 = .ok (.aload_n 0, 1) := by decide +kernel
theorem dX3_readItem_44 : decode cX3_readItem 44 = .ok (.invokevirtual 49, 3) := by decide +kernel
theorem dX3_readItem_47 : decode cX3_readItem 47 = .ok (.invokestatic 73, 3) := by decide +kernel
theorem dX3_readItem_50 : decode cX3_readItem 50 = .ok (.istore_n 3, 1) := by decide +kernel
theorem dX3_readItem_51 : decode cX3_readItem 51 = .ok (.iload_n 3, 1) := by decide +kernel
theorem dX3_readItem_52 : decode cX3_readItem 52 = .ok (.ifCond .ne 5, 3) := by decide +kernel
theorem dX3_readItem_55 : decode cX3_readItem 55 = .ok (.iconst 0, 1) := by decide +kernel
theorem dX3_readItem_56 : decode cX3_readItem 56 = .ok (.ireturn, 1) := by decide +kernel
theorem dX3_readItem_57 : decode cX3_readItem 57 = .ok (.aload_n 0, 1) := by decide +kernel
theorem dX3_readItem_58 : decode cX3_readItem 58 = .ok (.getfield 12, 3) := by decide +kernel
theorem dX3_readItem_61 : decode cX3_readItem 61 = .ok (.getfield 77, 3) := by decide +kernel
theorem dX3_readItem_64 : decode cX3_readItem 64 = .ok (.bipush 8, 2) := by decide +kernel
theorem dX3_readItem_66 : decode cX3_readItem 66 = .ok (.if_icmp .ne 10, 3) := by decide +kernel
theorem dX3_readItem_69 : decode cX3_readItem 69 = .ok (.aload_n 0, 1) := by decide +kernel
theorem dX3_readItem_70 : decode cX3_readItem 70 = .ok (.iload_n 1, 1) := by decide +kernel
theorem dX3_readItem_71 : decode cX3_readItem 71 = .ok (.putfield 22, 3) := by decide +kernel
theorem dX3_readItem_74 : decode cX3_readItem 74 = .ok (.iconst 0, 1) := by decide +kernel
theorem dX3_readItem_75 : decode cX3_readItem 75 = .ok (.ireturn, 1) := by decide +kernel
theorem dX3_readItem_76 : decode cX3_readItem 76 = .ok (.aload_n 0, 1) := by decide +kernel
theorem dX3_readItem_77 : decode cX3_readItem 77 = .ok (.dup, 1) := by decide +kernel
theorem dX3_readItem_78 : decode cX3_readItem 78 = .ok (.getfield 22, 3) := by decide +kernel
theorem dX3_readItem_81 : decode cX3_readItem 81 = .ok (.iconst 1, 1) := by decide +kernel
theorem dX3_readItem_82 : decode cX3_readItem 82 = .ok (.iadd, 1) := by decide +kernel
theorem dX3_readItem_83 : decode cX3_readItem 83 = .ok (.putfield 22, 3) := by decide +kernel
theorem dX3_readItem_86 : decode cX3_readItem 86 = .ok (.aload_n 0, 1) := by decide +kernel
theorem dX3_readItem_87 : decode cX3_readItem 87 = .ok (.iload_n 3, 1) := by decide +kernel
theorem dX3_readItem_88 : decode cX3_readItem 88 = .ok (.iload_n 2, 1) := by decide +kernel
theorem dX3_readItem_89 : decode cX3_readItem 89 = .ok (.invokevirtual 80, 3) := by decide +kernel
theorem dX3_readItem_92 : decode cX3_readItem 92 = .ok (.ireturn, 1) := by decide +kernel
theorem dX3_readTie_0 : decode cX3_readTie 0 = .ok (.aload_n 0, 1) := by decide +kernel
theorem dX3_readTie_1 : decode cX3_readTie 1 = .ok (.invokevirtual 57, 3) := by decide +kernel
theorem dX3_readTie_4 : decode cX3_readTie 4 = .ok (.ifCond .ne 5, 3) := by decide +kernel
theorem dX3_readTie_7 : decode cX3_readTie 7 = .ok (.iconst 0, 1) := by decide +kernel
theorem dX3_readTie_8 : decode cX3_readTie 8 = .ok (.ireturn, 1) := by decide +kernel
theorem dX3_readTie_9 : decode cX3_readTie 9 = .ok (.aload_n 0, 1) := by decide +kernel
theorem dX3_readTie_10 : decode cX3_readTie 10 = .ok (.getfield 12, 3) := by decide +kernel
theorem dX3_readTie_13 : decode cX3_readTie 13 = .ok (.iload_n 1, 1) := by decide +kernel
theorem dX3_readTie_14 : decode cX3_readTie 14 = .ok (.iload_n 2, 1) := by decide +kernel
theorem dX3_readTie_15 : decode cX3_readTie 15 = .ok (.aload_n 0, 1) := by decide +kernel
theorem dX3_readTie_16 : decode cX3_readTie 16 = .ok (.invokevirtual 60, 3) := by decide +kernel
theorem dX3_readTie_19 : decode cX3_readTie 19 = .ok (.invokevirtual 83, 3) := by decide +kernel
theorem dX3_readTie_22 : decode cX3_readTie 22 = .ok (.iconst 1, 1) := by decide +kernel
theorem dX3_readTie_23 : decode cX3_readTie 23 = .ok (.ireturn, 1) := by decide +kernel
theorem dX3_kindOf_0 : decode cX3_kindOf 0 = .ok (.iload_n 0, 1) := by decide +kernel
theorem dX3_kindOf_1 : decode cX3_kindOf 1 = .ok (.lookupswitch 72 #[(33, 67), (43, 61), (60, 59), (63, 69), (64, 63), (94, 65)], 59) := by decide +kernel
theorem dX3_kindOf_60 : decode cX3_kindOf 60 = .ok (.iconst 1, 1) := by decide +kernel
theorem dX3_kindOf_61 : decode cX3_kindOf 61 = .ok (.ireturn, 1) := by decide +kernel
theorem dX3_kindOf_62 : decode cX3_kindOf 62 = .ok (.iconst 2, 1) := by decide +kernel
theorem dX3_kindOf_63 : decode cX3_kindOf 63 = .ok (.ireturn, 1) := by decide +kernel
theorem dX3_kindOf_64 : decode cX3_kindOf 64 = .ok (.iconst 3, 1) := by decide +kernel
theorem dX3_kindOf_65 : decode cX3_kindOf 65 = .ok (.ireturn, 1) := by decide +kernel
theorem dX3_kindOf_66 : decode cX3_kindOf 66 = .ok (.iconst 4, 1) := by decide +kernel
theorem dX3_kindOf_67 : decode cX3_kindOf 67 = .ok (.ireturn, 1) := by decide +kernel
theorem dX3_kindOf_68 : decode cX3_kindOf 68 = .ok (.iconst 5, 1) := by decide +kernel
theorem dX3_kindOf_69 : decode cX3_kindOf 69 = .ok (.ireturn, 1) := by decide +kernel
theorem dX3_kindOf_70 : decode cX3_kindOf 70 = .ok (.bipush 6, 2) := by decide +kernel
theorem dX3_kindOf_72 : decode cX3_kindOf 72 = .ok (.ireturn, 1) := by decide +kernel
theorem dX3_kindOf_73 : decode cX3_kindOf 73 = .ok (.iconst 0, 1) := by decide +kernel
theorem dX3_kindOf_74 : decode cX3_kindOf 74 = .ok (.ireturn, 1) := by decide +kernel
theorem dX3_readRule_0 : decode cX3_readRule 0 = .ok (.iload_n 1, 1) := by decide +kernel
theorem dX3_readRule_1 : decode cX3_readRule 1 = .ok (.iconst 3, 1) := by decide +kernel
theorem dX3_readRule_2 : decode cX3_readRule 2 = .ok (.if_icmp .eq 8, 3) := by decide +kernel
theorem dX3_readRule_5 : decode cX3_readRule 5 = .ok (.iload_n 1, 1) := by decide +kernel
theorem dX3_readRule_6 : decode cX3_readRule 6 = .ok (.iconst 4, 1) := by decide +kernel
theorem dX3_readRule_7 : decode cX3_readRule 7 = .ok (.if_icmp .ne 7, 3) := by decide +kernel
theorem dX3_readRule_10 : decode cX3_readRule 10 = .ok (.iconst 1, 1) := by decide +kernel
theorem dX3_readRule_11 : decode cX3_readRule 11 = .ok (.goto 4, 3) := by decide +kernel
theorem dX3_readRule_14 : decode cX3_readRule 14 = .ok (.iconst 0, 1) := by decide +kernel
theorem dX3_readRule_15 : decode cX3_readRule 15 = .ok (.istore_n 3, 1) := by decide +kernel
theorem dX3_readRule_16 : decode cX3_readRule 16 = .ok (.iload_n 3, 1) := by decide +kernel
theorem dX3_readRule_17 : decode cX3_readRule 17 = .ok (.ifCond .eq 13, 3) := by decide +kernel
theorem dX3_readRule_20 : decode cX3_readRule 20 = .ok (.aload_n 0, 1) := by decide +kernel
theorem dX3_readRule_21 : decode cX3_readRule 21 = .ok (.invokevirtual 57, 3) := by decide +kernel
theorem dX3_readRule_24 : decode cX3_readRule 24 = .ok (.ifCond .ne 18, 3) := by decide +kernel
theorem dX3_readRule_27 : decode cX3_readRule 27 = .ok (.goto 13, 3) := by decide +kernel
theorem dX3_readRule_30 : decode cX3_readRule 30 = .ok (.aload_n 0, 1) := by decide +kernel
theorem dX3_readRule_31 : decode cX3_readRule 31 = .ok (.iload_n 2, 1) := by decide +kernel
theorem dX3_readRule_32 : decode cX3_readRule 32 = .ok (.bipush (-9), 2) := by decide +kernel
theorem dX3_readRule_34 : decode cX3_readRule 34 = .ok (.invokevirtual 63, 3) := by decide +kernel
theorem dX3_readRule_37 : decode cX3_readRule 37 = .ok (.ifCond .ne 5, 3) := by decide +kernel
theorem dX3_readRule_40 : decode cX3_readRule 40 = .ok (.iconst 0, 1) := by decide +kernel
theorem dX3_readRule_41 : decode cX3_readRule 41 = .ok (.ireturn, 1) := by decide +kernel
theorem dX3_readRule_42 : decode cX3_readRule 42 = .ok (.iload_n 3, 1) := by decide +kernel
theorem dX3_readRule_43 : decode cX3_readRule 43 = .ok (.ifCond .eq 10, 3) := by decide +kernel
theorem dX3_readRule_46 : decode cX3_readRule 46 = .ok (.aload_n 0, 1) := by decide +kernel
theorem dX3_readRule_47 : decode cX3_readRule 47 = .ok (.invokevirtual 60, 3) := by decide +kernel
theorem dX3_readRule_50 : decode cX3_readRule 50 = .ok (.goto 7, 3) := by decide +kernel
theorem dX3_readRule_53 : decode cX3_readRule 53 = .ok (.aload_n 0, 1) := by decide +kernel
theorem dX3_readRule_54 : decode cX3_readRule 54 = .ok (.invokevirtual 67, 3) := by decide +kernel
theorem dX3_readRule_57 : decode cX3_readRule 57 = .ok (.istore 4, 2) := by decide +kernel
theorem dX3_readRule_59 : decode cX3_readRule 59 = .ok (.iconst 0, 1) := by decide +kernel
theorem dX3_readRule_60 : decode cX3_readRule 60 = .ok (.istore 5, 2) := by decide +kernel
theorem dX3_readRule_62 : decode cX3_readRule 62 = .ok (.iload_n 1, 1) := by decide +kernel
theorem dX3_readRule_63 : decode cX3_readRule 63 = .ok (.bipush 6, 2) := by decide +kernel
theorem dX3_readRule_65 : decode cX3_readRule 65 = .ok (.if_icmp .ne 21, 3) := by decide +kernel
theorem dX3_readRule_68 : decode cX3_readRule 68 = .ok (.aload_n 0, 1) := by decide +kernel
theorem dX3_readRule_69 : decode cX3_readRule 69 = .ok (.iload_n 2, 1) := by decide +kernel
theorem dX3_readRule_70 : decode cX3_readRule 70 = .ok (.iload 4, 2) := by decide +kernel
theorem dX3_readRule_72 : decode cX3_readRule 72 = .ok (.invokevirtual 63, 3) := by decide +kernel
theorem dX3_readRule_75 : decode cX3_readRule 75 = .ok (.ifCond .ne 5, 3) := by decide +kernel
theorem dX3_readRule_78 : decode cX3_readRule 78 = .ok (.iconst 0, 1) := by decide +kernel
theorem dX3_readRule_79 : decode cX3_readRule 79 = .ok (.ireturn, 1) := by decide +kernel
theorem dX3_readRule_80 : decode cX3_readRule 80 = .ok (.aload_n 0, 1) := by decide +kernel
theorem dX3_readRule_81 : decode cX3_readRule 81 = .ok (.invokevirtual 67, 3) := by decide +kernel
theorem dX3_readRule_84 : decode cX3_readRule 84 = .ok (.istore 5, 2) := by decide +kernel
theorem dX3_readRule_86 : decode cX3_readRule 86 = .ok (.aload_n 0, 1) := by decide +kernel
theorem dX3_readRule_87 : decode cX3_readRule 87 = .ok (.getfield 12, 3) := by decide +kernel
theorem dX3_readRule_90 : decode cX3_readRule 90 = .ok (.iload_n 1, 1) := by decide +kernel
theorem dX3_readRule_91 : decode cX3_readRule 91 = .ok (.iload_n 2, 1) := by decide +kernel
theorem dX3_readRule_92 : decode cX3_readRule 92 = .ok (.iload 4, 2) := by decide +kernel
theorem dX3_readRule_94 : decode cX3_readRule 94 = .ok (.iload 5, 2) := by decide +kernel
theorem dX3_readRule_96 : decode cX3_readRule 96 = .ok (.invokevirtual 87, 3) := by decide +kernel
theorem dX3_readRule_99 : decode cX3_readRule 99 = .ok (.pop, 1) := by decide +kernel
theorem dX3_readRule_100 : decode cX3_readRule 100 = .ok (.iconst 1, 1) := by decide +kernel
theorem dX3_readRule_101 : decode cX3_readRule 101 = .ok (.ireturn, 1) := by decide +kernel
theorem dX4_init_0 : decode cX4_init 0 = .ok (.aload_n 0, 1) := by decide +kernel
theorem dX4_init_1 : decode cX4_init 1 = .ok (.invokespecial 3, 3) := by decide +kernel
theorem dX4_init_4 : decode cX4_init 4 = .ok (.aload_n 0, 1) := by decide +kernel
theorem dX4_init_5 : decode cX4_init 5 = .ok (.new 9, 3) := by decide +kernel
theorem dX4_init_8 : decode cX4_init 8 = .ok (.dup, 1) := by decide +kernel
theorem dX4_init_9 : decode cX4_init 9 = .ok (.invokespecial 11, 3) := by decide +kernel
theorem dX4_init_12 : decode cX4_init 12 = .ok (.putfield 12, 3) := by decide +kernel
theorem dX4_init_15 : decode cX4_init 15 = .ok (.aload_n 0, 1) := by decide +kernel
theorem dX4_init_16 : decode cX4_init 16 = .ok (.sipush 1024, 3) := by decide +kernel
theorem dX4_init_19 : decode cX4_init 19 = .ok (.newarray .int, 2) := by decide +kernel
theorem dX4_init_21 : decode cX4_init 21 = .ok (.putfield 18, 3) := by decide +kernel
theorem dX4_init_24 : decode cX4_init 24 = .ok (.aload_n 0, 1) := by decide +kernel
theorem dX4_init_25 : decode cX4_init 25 = .ok (.sipush 1024, 3) := by decide +kernel
theorem dX4_init_28 : decode cX4_init 28 = .ok (.newarray .int, 2) := by decide +kernel
theorem dX4_init_30 : decode cX4_init 30 = .ok (.putfield 22, 3) := by decide +kernel
theorem dX4_init_33 : decode cX4_init 33 = .ok (.aload_n 0, 1) := by decide +kernel
theorem dX4_init_34 : decode cX4_init 34 = .ok (.bipush 11, 2) := by decide +kernel
theorem dX4_init_36 : decode cX4_init 36 = .ok (.newarray .int, 2) := by decide +kernel
theorem dX4_init_38 : decode cX4_init 38 = .ok (.putfield 25, 3) := by decide +kernel
theorem dX4_init_41 : decode cX4_init 41 = .ok (.aload_n 0, 1) := by decide +kernel
theorem dX4_init_42 : decode cX4_init 42 = .ok (.sipush 10240, 3) := by decide +kernel
theorem dX4_init_45 : decode cX4_init 45 = .ok (.newarray .int, 2) := by decide +kernel
theorem dX4_init_47 : decode cX4_init 47 = .ok (.putfield 28, 3) := by decide +kernel
theorem dX4_init_50 : decode cX4_init 50 = .ok (.aload_n 0, 1) := by decide +kernel
theorem dX4_init_51 : decode cX4_init 51 = .ok (.sipush 10240, 3) := by decide +kernel
theorem dX4_init_54 : decode cX4_init 54 = .ok (.newarray .int, 2) := by decide +kernel
theorem dX4_init_56 : decode cX4_init 56 = .ok (.putfield 31, 3) := by decide +kernel
theorem dX4_init_59 : decode cX4_init 59 = .ok (.aload_n 0, 1) := by decide +kernel
theorem dX4_init_60 : decode cX4_init 60 = .ok (.sipush 10240, 3) := by decide +kernel
theorem dX4_init_63 : decode cX4_init 63 = .ok (.newarray .int, 2) := by decide +kernel
theorem dX4_init_65 : decode cX4_init 65 = .ok (.putfield 34, 3) := by decide +kernel
theorem dX4_init_68 : decode cX4_init 68 = .ok (.aload_n 0, 1) := by decide +kernel
theorem dX4_init_69 : decode cX4_init 69 = .ok (.sipush 10240, 3) := by decide +kernel
theorem dX4_init_72 : decode cX4_init 72 = .ok (.newarray .int, 2) := by decide +kernel
theorem dX4_init_74 : decode cX4_init 74 = .ok (.putfield 37, 3) := by decide +kernel
theorem dX4_init_77 : decode cX4_init 77 = .ok (.aload_n 0, 1) := by decide +kernel
theorem dX4_init_78 : decode cX4_init 78 = .ok (.bipush 10, 2) := by decide +kernel
theorem dX4_init_80 : decode cX4_init 80 = .ok (.newarray .int, 2) := by decide +kernel
theorem dX4_init_82 : decode cX4_init 82 = .ok (.putfield 40, 3) := by decide +kernel
theorem dX4_init_85 : decode cX4_init 85 = .ok (.aload_n 0, 1) := by decide +kernel
theorem dX4_init_86 : decode cX4_init 86 = .ok (.bipush 110, 2) := by decide +kernel
theorem dX4_init_88 : decode cX4_init 88 = .ok (.newarray .int, 2) := by decide +kernel
theorem dX4_init_90 : decode cX4_init 90 = .ok (.putfield 43, 3) := by decide +kernel
theorem dX4_init_93 : decode cX4_init 93 = .ok (.aload_n 0, 1) := by decide +kernel
theorem dX4_init_94 : decode cX4_init 94 = .ok (.iconst 0, 1) := by decide +kernel
theorem dX4_init_95 : decode cX4_init 95 = .ok (.putfield 46, 3) := by decide +kernel
theorem dX4_init_98 : decode cX4_init 98 = .ok (.aload_n 0, 1) := by decide +kernel
theorem dX4_init_99 : decode cX4_init 99 = .ok (.iconst 0, 1) := by decide +kernel
theorem dX4_init_100 : decode cX4_init 100 = .ok (.putfield 50, 3) := by decide +kernel
theorem dX4_init_103 : decode cX4_init 103 = .ok (.aload_n 0, 1) := by decide +kernel
theorem dX4_init_104 : decode cX4_init 104 = .ok (.iconst 0, 1) := by decide +kernel
theorem dX4_init_105 : decode cX4_init 105 = .ok (.putfield 53, 3) := by decide +kernel
theorem dX4_init_108 : decode cX4_init 108 = .ok (.aload_n 0, 1) := by decide +kernel
theorem dX4_init_109 : decode cX4_init 109 = .ok (.bipush (-9), 2) := by decide +kernel
theorem dX4_init_111 : decode cX4_init 111 = .ok (.putfield 56, 3) := by decide +kernel
theorem dX4_init_114 : decode cX4_init 114 = .ok (.aload_n 0, 1) := by decide +kernel
theorem dX4_init_115 : decode cX4_init 115 = .ok (.bipush (-9), 2) := by decide +kernel
theorem dX4_init_117 : decode cX4_init 117 = .ok (.putfield 60, 3) := by decide +kernel
theorem dX4_init_120 : decode cX4_init 120 = .ok (.return_, 1) := by decide +kernel
theorem dX4_solve_0 : decode cX4_solve 0 = .ok (.aload_n 0, 1) := by decide +kernel
theorem dX4_solve_1 : decode cX4_solve 1 = .ok (.iconst 0, 1) := by decide +kernel
theorem dX4_solve_2 : decode cX4_solve 2 = .ok (.putfield 46, 3) := by decide +kernel
theorem dX4_solve_5 : decode cX4_solve 5 = .ok (.aload_n 0, 1) := by decide +kernel
theorem dX4_solve_6 : decode cX4_solve 6 = .ok (.invokevirtual 63, 3) := by decide +kernel
theorem dX4_solve_9 : decode cX4_solve 9 = .ok (.aload_n 0, 1) := by decide +kernel
theorem dX4_solve_10 : decode cX4_solve 10 = .ok (.iload_n 1, 1) := by decide +kernel
theorem dX4_solve_11 : decode cX4_solve 11 = .ok (.invokevirtual 66, 3) := by decide +kernel
theorem dX4_solve_14 : decode cX4_solve 14 = .ok (.aload_n 0, 1) := by decide +kernel
theorem dX4_solve_15 : decode cX4_solve 15 = .ok (.getfield 28, 3) := by decide +kernel
theorem dX4_solve_18 : decode cX4_solve 18 = .ok (.iconst 0, 1) := by decide +kernel
theorem dX4_solve_19 : decode cX4_solve 19 = .ok (.iaload, 1) := by decide +kernel
theorem dX4_solve_20 : decode cX4_solve 20 = .ok (.ldc 70, 2) := by decide +kernel
theorem dX4_solve_22 : decode cX4_solve 22 = .ok (.if_icmp .ge 7, 3) := by decide +kernel
theorem dX4_solve_25 : decode cX4_solve 25 = .ok (.iconst 1, 1) := by decide +kernel
theorem dX4_solve_26 : decode cX4_solve 26 = .ok (.goto 4, 3) := by decide +kernel
theorem dX4_solve_29 : decode cX4_solve 29 = .ok (.iconst 0, 1) := by decide +kernel
theorem dX4_solve_30 : decode cX4_solve 30 = .ok (.ireturn, 1) := by decide +kernel
theorem dX4_solveWithin_0 : decode cX4_solveWithin 0 = .ok (.aload_n 0, 1) := by decide +kernel
theorem dX4_solveWithin_1 : decode cX4_solveWithin 1 = .ok (.invokevirtual 71, 3) := by decide +kernel
theorem dX4_solveWithin_4 : decode cX4_solveWithin 4 = .ok (.aload_n 0, 1) := by decide +kernel
theorem dX4_solveWithin_5 : decode cX4_solveWithin 5 = .ok (.iconst 1, 1) := by decide +kernel
theorem dX4_solveWithin_6 : decode cX4_solveWithin 6 = .ok (.putfield 46, 3) := by decide +kernel
theorem dX4_solveWithin_9 : decode cX4_solveWithin 9 = .ok (.aload_n 0, 1) := by decide +kernel
theorem dX4_solveWithin_10 : decode cX4_solveWithin 10 = .ok (.iload_n 1, 1) := by decide +kernel
theorem dX4_solveWithin_11 : decode cX4_solveWithin 11 = .ok (.invokevirtual 66, 3) := by decide +kernel
theorem dX4_solveWithin_14 : decode cX4_solveWithin 14 = .ok (.return_, 1) := by decide +kernel
theorem dX4_fillBest_0 : decode cX4_fillBest 0 = .ok (.aload_n 0, 1) := by decide +kernel
theorem dX4_fillBest_1 : decode cX4_fillBest 1 = .ok (.iload_n 1, 1) := by decide +kernel
theorem dX4_fillBest_2 : decode cX4_fillBest 2 = .ok (.ifCond .eq 8, 3) := by decide +kernel
theorem dX4_fillBest_5 : decode cX4_fillBest 5 = .ok (.iload_n 1, 1) := by decide +kernel
theorem dX4_fillBest_6 : decode cX4_fillBest 6 = .ok (.iconst 3, 1) := by decide +kernel
theorem dX4_fillBest_7 : decode cX4_fillBest 7 = .ok (.if_icmp .ne 7, 3) := by decide +kernel
theorem dX4_fillBest_10 : decode cX4_fillBest 10 = .ok (.iconst 1, 1) := by decide +kernel
theorem dX4_fillBest_11 : decode cX4_fillBest 11 = .ok (.goto 4, 3) := by decide +kernel
theorem dX4_fillBest_14 : decode cX4_fillBest 14 = .ok (.iconst 0, 1) := by decide +kernel
theorem dX4_fillBest_15 : decode cX4_fillBest 15 = .ok (.putfield 50, 3) := by decide +kernel
theorem dX4_fillBest_18 : decode cX4_fillBest 18 = .ok (.aload_n 0, 1) := by decide +kernel
theorem dX4_fillBest_19 : decode cX4_fillBest 19 = .ok (.iconst 0, 1) := by decide +kernel
theorem dX4_fillBest_20 : decode cX4_fillBest 20 = .ok (.putfield 53, 3) := by decide +kernel
theorem dX4_fillBest_23 : decode cX4_fillBest 23 = .ok (.aload_n 0, 1) := by decide +kernel
theorem dX4_fillBest_24 : decode cX4_fillBest 24 = .ok (.iload_n 1, 1) := by decide +kernel
theorem dX4_fillBest_25 : decode cX4_fillBest 25 = .ok (.invokevirtual 74, 3) := by decide +kernel
theorem dX4_fillBest_28 : decode cX4_fillBest 28 = .ok (.aload_n 0, 1) := by decide +kernel
theorem dX4_fillBest_29 : decode cX4_fillBest 29 = .ok (.getfield 12, 3) := by decide +kernel
theorem dX4_fillBest_32 : decode cX4_fillBest 32 = .ok (.invokevirtual 77, 3) := by decide +kernel
theorem dX4_fillBest_35 : decode cX4_fillBest 35 = .ok (.istore_n 2, 1) := by decide +kernel
theorem dX4_fillBest_36 : decode cX4_fillBest 36 = .ok (.iload_n 2, 1) := by decide +kernel
theorem dX4_fillBest_37 : decode cX4_fillBest 37 = .ok (.ifCond .lt 50, 3) := by decide +kernel
theorem dX4_fillBest_40 : decode cX4_fillBest 40 = .ok (.iconst 0, 1) := by decide +kernel
theorem dX4_fillBest_41 : decode cX4_fillBest 41 = .ok (.istore_n 3, 1) := by decide +kernel
theorem dX4_fillBest_42 : decode cX4_fillBest 42 = .ok (.iload_n 3, 1) := by decide +kernel
theorem dX4_fillBest_43 : decode cX4_fillBest 43 = .ok (.aload_n 0, 1) := by decide +kernel
theorem dX4_fillBest_44 : decode cX4_fillBest 44 = .ok (.iload_n 2, 1) := by decide +kernel
theorem dX4_fillBest_45 : decode cX4_fillBest 45 = .ok (.invokevirtual 81, 3) := by decide +kernel
theorem dX4_fillBest_48 : decode cX4_fillBest 48 = .ok (.if_icmp .ge 33, 3) := by decide +kernel
theorem dX4_fillBest_51 : decode cX4_fillBest 51 = .ok (.iload_n 2, 1) := by decide +kernel
theorem dX4_fillBest_52 : decode cX4_fillBest 52 = .ok (.iload_n 3, 1) := by decide +kernel
theorem dX4_fillBest_53 : decode cX4_fillBest 53 = .ok (.invokestatic 85, 3) := by decide +kernel
theorem dX4_fillBest_56 : decode cX4_fillBest 56 = .ok (.ifCond .eq 19, 3) := by decide +kernel
theorem dX4_fillBest_59 : decode cX4_fillBest 59 = .ok (.aload_n 0, 1) := by decide +kernel
theorem dX4_fillBest_60 : decode cX4_fillBest 60 = .ok (.getfield 28, 3) := by decide +kernel
theorem dX4_fillBest_63 : decode cX4_fillBest 63 = .ok (.iload_n 2, 1) := by decide +kernel
theorem dX4_fillBest_64 : decode cX4_fillBest 64 = .ok (.iload_n 3, 1) := by decide +kernel
theorem dX4_fillBest_65 : decode cX4_fillBest 65 = .ok (.invokestatic 89, 3) := by decide +kernel
theorem dX4_fillBest_68 : decode cX4_fillBest 68 = .ok (.aload_n 0, 1) := by decide +kernel
theorem dX4_fillBest_69 : decode cX4_fillBest 69 = .ok (.iload_n 2, 1) := by decide +kernel
theorem dX4_fillBest_70 : decode cX4_fillBest 70 = .ok (.iload_n 3, 1) := by decide +kernel
theorem dX4_fillBest_71 : decode cX4_fillBest 71 = .ok (.invokevirtual 93, 3) := by decide +kernel
theorem dX4_fillBest_74 : decode cX4_fillBest 74 = .ok (.iastore, 1) := by decide +kernel
theorem dX4_fillBest_75 : decode cX4_fillBest 75 = .ok (.iinc 3 1, 3) := by decide +kernel
theorem dX4_fillBest_78 : decode cX4_fillBest 78 = .ok (.goto (-36), 3) := by decide +kernel
theorem dX4_fillBest_81 : decode cX4_fillBest 81 = .ok (.iinc 2 (-1), 3) := by decide +kernel
theorem dX4_fillBest_84 : decode cX4_fillBest 84 = .ok (.goto (-48), 3) := by decide +kernel
theorem dX4_fillBest_87 : decode cX4_fillBest 87 = .ok (.return_, 1) := by decide +kernel
theorem dX4_stateOf_0 : decode cX4_stateOf 0 = .ok (.iload_n 0, 1) := by decide +kernel
theorem dX4_stateOf_1 : decode cX4_stateOf 1 = .ok (.bipush 10, 2) := by decide +kernel
theorem dX4_stateOf_3 : decode cX4_stateOf 3 = .ok (.imul, 1) := by decide +kernel
theorem dX4_stateOf_4 : decode cX4_stateOf 4 = .ok (.iload_n 1, 1) := by decide +kernel
theorem dX4_stateOf_5 : decode cX4_stateOf 5 = .ok (.iadd, 1) := by decide +kernel
theorem dX4_stateOf_6 : decode cX4_stateOf 6 = .ok (.ireturn, 1) := by decide +kernel
theorem dX4_lastsOf_0 : decode cX4_lastsOf 0 = .ok (.iload_n 1, 1) := by decide +kernel
theorem dX4_lastsOf_1 : decode cX4_lastsOf 1 = .ok (.ifCond .ne 7, 3) := by decide +kernel
theorem dX4_lastsOf_4 : decode cX4_lastsOf 4 = .ok (.iconst 1, 1) := by decide +kernel
theorem dX4_lastsOf_5 : decode cX4_lastsOf 5 = .ok (.goto 10, 3) := by decide +kernel
theorem dX4_lastsOf_8 : decode cX4_lastsOf 8 = .ok (.aload_n 0, 1) := by decide +kernel
theorem dX4_lastsOf_9 : decode cX4_lastsOf 9 = .ok (.getfield 12, 3) := by decide +kernel
theorem dX4_lastsOf_12 : decode cX4_lastsOf 12 = .ok (.getfield 96, 3) := by decide +kernel
theorem dX4_lastsOf_15 : decode cX4_lastsOf 15 = .ok (.ireturn, 1) := by decide +kernel
theorem dX4_isState_0 : decode cX4_isState 0 = .ok (.iload_n 0, 1) := by decide +kernel
theorem dX4_isState_1 : decode cX4_isState 1 = .ok (.ifCond .eq 11, 3) := by decide +kernel
theorem dX4_isState_4 : decode cX4_isState 4 = .ok (.iload_n 0, 1) := by decide +kernel
theorem dX4_isState_5 : decode cX4_isState 5 = .ok (.iload_n 1, 1) := by decide +kernel
theorem dX4_isState_6 : decode cX4_isState 6 = .ok (.ishr, 1) := by decide +kernel
theorem dX4_isState_7 : decode cX4_isState 7 = .ok (.iconst 1, 1) := by decide +kernel
theorem dX4_isState_8 : decode cX4_isState 8 = .ok (.iand, 1) := by decide +kernel
theorem dX4_isState_9 : decode cX4_isState 9 = .ok (.ifCond .eq 7, 3) := by decide +kernel
theorem dX4_isState_12 : decode cX4_isState 12 = .ok (.iconst 1, 1) := by decide +kernel
theorem dX4_isState_13 : decode cX4_isState 13 = .ok (.goto 4, 3) := by decide +kernel
theorem dX4_isState_16 : decode cX4_isState 16 = .ok (.iconst 0, 1) := by decide +kernel
theorem dX4_isState_17 : decode cX4_isState 17 = .ok (.ireturn, 1) := by decide +kernel
theorem dX4_pin_0 : decode cX4_pin 0 = .ok (.aload_n 0, 1) := by decide +kernel
theorem dX4_pin_1 : decode cX4_pin 1 = .ok (.iload_n 1, 1) := by decide +kernel
theorem dX4_pin_2 : decode cX4_pin 2 = .ok (.putfield 56, 3) := by decide +kernel
theorem dX4_pin_5 : decode cX4_pin 5 = .ok (.aload_n 0, 1) := by decide +kernel
theorem dX4_pin_6 : decode cX4_pin 6 = .ok (.iload_n 2, 1) := by decide +kernel
theorem dX4_pin_7 : decode cX4_pin 7 = .ok (.putfield 60, 3) := by decide +kernel
theorem dX4_pin_10 : decode cX4_pin 10 = .ok (.return_, 1) := by decide +kernel
theorem dX4_unpin_0 : decode cX4_unpin 0 = .ok (.aload_n 0, 1) := by decide +kernel
theorem dX4_unpin_1 : decode cX4_unpin 1 = .ok (.bipush (-9), 2) := by decide +kernel
theorem dX4_unpin_3 : decode cX4_unpin 3 = .ok (.putfield 56, 3) := by decide +kernel
theorem dX4_unpin_6 : decode cX4_unpin 6 = .ok (.aload_n 0, 1) := by decide +kernel
theorem dX4_unpin_7 : decode cX4_unpin 7 = .ok (.bipush (-9), 2) := by decide +kernel
theorem dX4_unpin_9 : decode cX4_unpin 9 = .ok (.putfield 60, 3) := by decide +kernel
theorem dX4_unpin_12 : decode cX4_unpin 12 = .ok (.return_, 1) := by decide +kernel
theorem dX4_pinnedOut_0 : decode cX4_pinnedOut 0 = .ok (.aload_n 0, 1) := by decide +kernel
theorem dX4_pinnedOut_1 : decode cX4_pinnedOut 1 = .ok (.getfield 56, 3) := by decide +kernel
theorem dX4_pinnedOut_4 : decode cX4_pinnedOut 4 = .ok (.bipush (-9), 2) := by decide +kernel
theorem dX4_pinnedOut_6 : decode cX4_pinnedOut 6 = .ok (.if_icmp .ne 5, 3) := by decide +kernel
theorem dX4_pinnedOut_9 : decode cX4_pinnedOut 9 = .ok (.iconst 0, 1) := by decide +kernel
theorem dX4_pinnedOut_10 : decode cX4_pinnedOut 10 = .ok (.ireturn, 1) := by decide +kernel
theorem dX4_pinnedOut_11 : decode cX4_pinnedOut 11 = .ok (.iconst 1, 1) := by decide +kernel
theorem dX4_pinnedOut_12 : decode cX4_pinnedOut 12 = .ok (.aload_n 0, 1) := by decide +kernel
theorem dX4_pinnedOut_13 : decode cX4_pinnedOut 13 = .ok (.getfield 56, 3) := by decide +kernel
theorem dX4_pinnedOut_16 : decode cX4_pinnedOut 16 = .ok (.ishl, 1) := by decide +kernel
theorem dX4_pinnedOut_17 : decode cX4_pinnedOut 17 = .ok (.istore_n 2, 1) := by decide +kernel
theorem dX4_pinnedOut_18 : decode cX4_pinnedOut 18 = .ok (.iload_n 1, 1) := by decide +kernel
theorem dX4_pinnedOut_19 : decode cX4_pinnedOut 19 = .ok (.invokestatic 99, 3) := by decide +kernel
theorem dX4_pinnedOut_22 : decode cX4_pinnedOut 22 = .ok (.aload_n 0, 1) := by decide +kernel
theorem dX4_pinnedOut_23 : decode cX4_pinnedOut 23 = .ok (.getfield 60, 3) := by decide +kernel
theorem dX4_pinnedOut_26 : decode cX4_pinnedOut 26 = .ok (.if_icmp .ne 9, 3) := by decide +kernel
theorem dX4_pinnedOut_29 : decode cX4_pinnedOut 29 = .ok (.iload_n 2, 1) := by decide +kernel
theorem dX4_pinnedOut_30 : decode cX4_pinnedOut 30 = .ok (.iconst (-1), 1) := by decide +kernel
theorem dX4_pinnedOut_31 : decode cX4_pinnedOut 31 = .ok (.ixor, 1) := by decide +kernel
theorem dX4_pinnedOut_32 : decode cX4_pinnedOut 32 = .ok (.goto 4, 3) := by decide +kernel
theorem dX4_pinnedOut_35 : decode cX4_pinnedOut 35 = .ok (.iload_n 2, 1) := by decide +kernel
theorem dX4_pinnedOut_36 : decode cX4_pinnedOut 36 = .ok (.ireturn, 1) := by decide +kernel
theorem dX4_fillGapCosts_0 : decode cX4_fillGapCosts 0 = .ok (.aload_n 0, 1) := by decide +kernel
theorem dX4_fillGapCosts_1 : decode cX4_fillGapCosts 1 = .ok (.getfield 18, 3) := by decide +kernel
theorem dX4_fillGapCosts_4 : decode cX4_fillGapCosts 4 = .ok (.iconst 0, 1) := by decide +kernel
theorem dX4_fillGapCosts_5 : decode cX4_fillGapCosts 5 = .ok (.iconst 0, 1) := by decide +kernel
theorem dX4_fillGapCosts_6 : decode cX4_fillGapCosts 6 = .ok (.iastore, 1) := by decide +kernel
theorem dX4_fillGapCosts_7 : decode cX4_fillGapCosts 7 = .ok (.iconst 1, 1) := by decide +kernel
theorem dX4_fillGapCosts_8 : decode cX4_fillGapCosts 8 = .ok (.istore_n 2, 1) := by decide +kernel
theorem dX4_fillGapCosts_9 : decode cX4_fillGapCosts 9 = .ok (.iload_n 2, 1) := by decide +kernel
theorem dX4_fillGapCosts_10 : decode cX4_fillGapCosts 10 = .ok (.aload_n 0, 1) := by decide +kernel
theorem dX4_fillGapCosts_11 : decode cX4_fillGapCosts 11 = .ok (.getfield 12, 3) := by decide +kernel
theorem dX4_fillGapCosts_14 : decode cX4_fillGapCosts 14 = .ok (.invokevirtual 77, 3) := by decide +kernel
theorem dX4_fillGapCosts_17 : decode cX4_fillGapCosts 17 = .ok (.if_icmp .gt 90, 3) := by decide +kernel
theorem dX4_fillGapCosts_20 : decode cX4_fillGapCosts 20 = .ok (.iload_n 1, 1) := by decide +kernel
theorem dX4_fillGapCosts_21 : decode cX4_fillGapCosts 21 = .ok (.iconst 5, 1) := by decide +kernel
theorem dX4_fillGapCosts_22 : decode cX4_fillGapCosts 22 = .ok (.if_icmp .ne 13, 3) := by decide +kernel
theorem dX4_fillGapCosts_25 : decode cX4_fillGapCosts 25 = .ok (.aload_n 0, 1) := by decide +kernel
theorem dX4_fillGapCosts_26 : decode cX4_fillGapCosts 26 = .ok (.getfield 18, 3) := by decide +kernel
theorem dX4_fillGapCosts_29 : decode cX4_fillGapCosts 29 = .ok (.iload_n 2, 1) := by decide +kernel
theorem dX4_fillGapCosts_30 : decode cX4_fillGapCosts 30 = .ok (.iconst 0, 1) := by decide +kernel
theorem dX4_fillGapCosts_31 : decode cX4_fillGapCosts 31 = .ok (.iastore, 1) := by decide +kernel
theorem dX4_fillGapCosts_32 : decode cX4_fillGapCosts 32 = .ok (.goto 69, 3) := by decide +kernel
theorem dX4_fillGapCosts_35 : decode cX4_fillGapCosts 35 = .ok (.iload_n 1, 1) := by decide +kernel
theorem dX4_fillGapCosts_36 : decode cX4_fillGapCosts 36 = .ok (.iconst 2, 1) := by decide +kernel
theorem dX4_fillGapCosts_37 : decode cX4_fillGapCosts 37 = .ok (.if_icmp .eq 8, 3) := by decide +kernel
theorem dX4_fillGapCosts_40 : decode cX4_fillGapCosts 40 = .ok (.iload_n 1, 1) := by decide +kernel
theorem dX4_fillGapCosts_41 : decode cX4_fillGapCosts 41 = .ok (.iconst 3, 1) := by decide +kernel
theorem dX4_fillGapCosts_42 : decode cX4_fillGapCosts 42 = .ok (.if_icmp .ne 20, 3) := by decide +kernel
theorem dX4_fillGapCosts_45 : decode cX4_fillGapCosts 45 = .ok (.aload_n 0, 1) := by decide +kernel
theorem dX4_fillGapCosts_46 : decode cX4_fillGapCosts 46 = .ok (.getfield 18, 3) := by decide +kernel
theorem dX4_fillGapCosts_49 : decode cX4_fillGapCosts 49 = .ok (.iload_n 2, 1) := by decide +kernel
theorem dX4_fillGapCosts_50 : decode cX4_fillGapCosts 50 = .ok (.aload_n 0, 1) := by decide +kernel
theorem dX4_fillGapCosts_51 : decode cX4_fillGapCosts 51 = .ok (.getfield 12, 3) := by decide +kernel
theorem dX4_fillGapCosts_54 : decode cX4_fillGapCosts 54 = .ok (.iload_n 2, 1) := by decide +kernel
theorem dX4_fillGapCosts_55 : decode cX4_fillGapCosts 55 = .ok (.invokevirtual 104, 3) := by decide +kernel
theorem dX4_fillGapCosts_58 : decode cX4_fillGapCosts 58 = .ok (.iastore, 1) := by decide +kernel
theorem dX4_fillGapCosts_59 : decode cX4_fillGapCosts 59 = .ok (.goto 42, 3) := by decide +kernel
theorem dX4_fillGapCosts_62 : decode cX4_fillGapCosts 62 = .ok (.iload_n 2, 1) := by decide +kernel
theorem dX4_fillGapCosts_63 : decode cX4_fillGapCosts 63 = .ok (.iload_n 2, 1) := by decide +kernel
theorem dX4_fillGapCosts_64 : decode cX4_fillGapCosts 64 = .ok (.iconst 1, 1) := by decide +kernel
theorem dX4_fillGapCosts_65 : decode cX4_fillGapCosts 65 = .ok (.isub, 1) := by decide +kernel
theorem dX4_fillGapCosts_66 : decode cX4_fillGapCosts 66 = .ok (.iand, 1) := by decide +kernel
theorem dX4_fillGapCosts_67 : decode cX4_fillGapCosts 67 = .ok (.istore_n 3, 1) := by decide +kernel
theorem dX4_fillGapCosts_68 : decode cX4_fillGapCosts 68 = .ok (.iload_n 2, 1) := by decide +kernel
theorem dX4_fillGapCosts_69 : decode cX4_fillGapCosts 69 = .ok (.iload_n 3, 1) := by decide +kernel
theorem dX4_fillGapCosts_70 : decode cX4_fillGapCosts 70 = .ok (.ixor, 1) := by decide +kernel
theorem dX4_fillGapCosts_71 : decode cX4_fillGapCosts 71 = .ok (.iconst 1, 1) := by decide +kernel
theorem dX4_fillGapCosts_72 : decode cX4_fillGapCosts 72 = .ok (.isub, 1) := by decide +kernel
theorem dX4_fillGapCosts_73 : decode cX4_fillGapCosts 73 = .ok (.invokestatic 99, 3) := by decide +kernel
theorem dX4_fillGapCosts_76 : decode cX4_fillGapCosts 76 = .ok (.istore 4, 2) := by decide +kernel
theorem dX4_fillGapCosts_78 : decode cX4_fillGapCosts 78 = .ok (.aload_n 0, 1) := by decide +kernel
theorem dX4_fillGapCosts_79 : decode cX4_fillGapCosts 79 = .ok (.getfield 18, 3) := by decide +kernel
theorem dX4_fillGapCosts_82 : decode cX4_fillGapCosts 82 = .ok (.iload_n 2, 1) := by decide +kernel
theorem dX4_fillGapCosts_83 : decode cX4_fillGapCosts 83 = .ok (.aload_n 0, 1) := by decide +kernel
theorem dX4_fillGapCosts_84 : decode cX4_fillGapCosts 84 = .ok (.getfield 18, 3) := by decide +kernel
theorem dX4_fillGapCosts_87 : decode cX4_fillGapCosts 87 = .ok (.iload_n 3, 1) := by decide +kernel
theorem dX4_fillGapCosts_88 : decode cX4_fillGapCosts 88 = .ok (.iaload, 1) := by decide +kernel
theorem dX4_fillGapCosts_89 : decode cX4_fillGapCosts 89 = .ok (.aload_n 0, 1) := by decide +kernel
theorem dX4_fillGapCosts_90 : decode cX4_fillGapCosts 90 = .ok (.getfield 12, 3) := by decide +kernel
theorem dX4_fillGapCosts_93 : decode cX4_fillGapCosts 93 = .ok (.iload 4, 2) := by decide +kernel
theorem dX4_fillGapCosts_95 : decode cX4_fillGapCosts 95 = .ok (.iload_n 3, 1) := by decide +kernel
theorem dX4_fillGapCosts_96 : decode cX4_fillGapCosts 96 = .ok (.invokevirtual 107, 3) := by decide +kernel
theorem dX4_fillGapCosts_99 : decode cX4_fillGapCosts 99 = .ok (.iadd, 1) := by decide +kernel
theorem dX4_fillGapCosts_100 : decode cX4_fillGapCosts 100 = .ok (.iastore, 1) := by decide +kernel
theorem dX4_fillGapCosts_101 : decode cX4_fillGapCosts 101 = .ok (.iinc 2 1, 3) := by decide +kernel
theorem dX4_fillGapCosts_104 : decode cX4_fillGapCosts 104 = .ok (.goto (-95), 3) := by decide +kernel
theorem dX4_fillGapCosts_107 : decode cX4_fillGapCosts 107 = .ok (.return_, 1) := by decide +kernel
theorem dX4_fillFitting_0 : decode cX4_fillFitting 0 = .ok (.iconst 0, 1) := by decide +kernel
theorem dX4_fillFitting_1 : decode cX4_fillFitting 1 = .ok (.istore_n 1, 1) := by decide +kernel
theorem dX4_fillFitting_2 : decode cX4_fillFitting 2 = .ok (.iload_n 1, 1) := by decide +kernel
theorem dX4_fillFitting_3 : decode cX4_fillFitting 3 = .ok (.aload_n 0, 1) := by decide +kernel
theorem dX4_fillFitting_4 : decode cX4_fillFitting 4 = .ok (.getfield 12, 3) := by decide +kernel
theorem dX4_fillFitting_7 : decode cX4_fillFitting 7 = .ok (.invokevirtual 77, 3) := by decide +kernel
theorem dX4_fillFitting_10 : decode cX4_fillFitting 10 = .ok (.if_icmp .gt 65, 3) := by decide +kernel
theorem dX4_fillFitting_13 : decode cX4_fillFitting 13 = .ok (.iload_n 1, 1) := by decide +kernel
theorem dX4_fillFitting_14 : decode cX4_fillFitting 14 = .ok (.aload_n 0, 1) := by decide +kernel
theorem dX4_fillFitting_15 : decode cX4_fillFitting 15 = .ok (.iload_n 1, 1) := by decide +kernel
theorem dX4_fillFitting_16 : decode cX4_fillFitting 16 = .ok (.invokevirtual 110, 3) := by decide +kernel
theorem dX4_fillFitting_19 : decode cX4_fillFitting 19 = .ok (.ior, 1) := by decide +kernel
theorem dX4_fillFitting_20 : decode cX4_fillFitting 20 = .ok (.istore_n 2, 1) := by decide +kernel
theorem dX4_fillFitting_21 : decode cX4_fillFitting 21 = .ok (.iconst 0, 1) := by decide +kernel
theorem dX4_fillFitting_22 : decode cX4_fillFitting 22 = .ok (.istore_n 3, 1) := by decide +kernel
theorem dX4_fillFitting_23 : decode cX4_fillFitting 23 = .ok (.iload_n 3, 1) := by decide +kernel
theorem dX4_fillFitting_24 : decode cX4_fillFitting 24 = .ok (.aload_n 0, 1) := by decide +kernel
theorem dX4_fillFitting_25 : decode cX4_fillFitting 25 = .ok (.getfield 12, 3) := by decide +kernel
theorem dX4_fillFitting_28 : decode cX4_fillFitting 28 = .ok (.getfield 113, 3) := by decide +kernel
theorem dX4_fillFitting_31 : decode cX4_fillFitting 31 = .ok (.if_icmp .ge 21, 3) := by decide +kernel
theorem dX4_fillFitting_34 : decode cX4_fillFitting 34 = .ok (.iload_n 2, 1) := by decide +kernel
theorem dX4_fillFitting_35 : decode cX4_fillFitting 35 = .ok (.aload_n 0, 1) := by decide +kernel
theorem dX4_fillFitting_36 : decode cX4_fillFitting 36 = .ok (.getfield 12, 3) := by decide +kernel
theorem dX4_fillFitting_39 : decode cX4_fillFitting 39 = .ok (.iload_n 3, 1) := by decide +kernel
theorem dX4_fillFitting_40 : decode cX4_fillFitting 40 = .ok (.iload_n 1, 1) := by decide +kernel
theorem dX4_fillFitting_41 : decode cX4_fillFitting 41 = .ok (.invokevirtual 116, 3) := by decide +kernel
theorem dX4_fillFitting_44 : decode cX4_fillFitting 44 = .ok (.ior, 1) := by decide +kernel
theorem dX4_fillFitting_45 : decode cX4_fillFitting 45 = .ok (.istore_n 2, 1) := by decide +kernel
theorem dX4_fillFitting_46 : decode cX4_fillFitting 46 = .ok (.iinc 3 1, 3) := by decide +kernel
theorem dX4_fillFitting_49 : decode cX4_fillFitting 49 = .ok (.goto (-26), 3) := by decide +kernel
theorem dX4_fillFitting_52 : decode cX4_fillFitting 52 = .ok (.aload_n 0, 1) := by decide +kernel
theorem dX4_fillFitting_53 : decode cX4_fillFitting 53 = .ok (.getfield 22, 3) := by decide +kernel
theorem dX4_fillFitting_56 : decode cX4_fillFitting 56 = .ok (.iload_n 1, 1) := by decide +kernel
theorem dX4_fillFitting_57 : decode cX4_fillFitting 57 = .ok (.aload_n 0, 1) := by decide +kernel
theorem dX4_fillFitting_58 : decode cX4_fillFitting 58 = .ok (.getfield 12, 3) := by decide +kernel
theorem dX4_fillFitting_61 : decode cX4_fillFitting 61 = .ok (.invokevirtual 77, 3) := by decide +kernel
theorem dX4_fillFitting_64 : decode cX4_fillFitting 64 = .ok (.iload_n 2, 1) := by decide +kernel
theorem dX4_fillFitting_65 : decode cX4_fillFitting 65 = .ok (.iconst (-1), 1) := by decide +kernel
theorem dX4_fillFitting_66 : decode cX4_fillFitting 66 = .ok (.ixor, 1) := by decide +kernel
theorem dX4_fillFitting_67 : decode cX4_fillFitting 67 = .ok (.iand, 1) := by decide +kernel
theorem dX4_fillFitting_68 : decode cX4_fillFitting 68 = .ok (.iastore, 1) := by decide +kernel
theorem dX4_fillFitting_69 : decode cX4_fillFitting 69 = .ok (.iinc 1 1, 3) := by decide +kernel
theorem dX4_fillFitting_72 : decode cX4_fillFitting 72 = .ok (.goto (-70), 3) := by decide +kernel
theorem dX4_fillFitting_75 : decode cX4_fillFitting 75 = .ok (.iconst 0, 1) := by decide +kernel
theorem dX4_fillFitting_76 : decode cX4_fillFitting 76 = .ok (.istore_n 1, 1) := by decide +kernel
theorem dX4_fillFitting_77 : decode cX4_fillFitting 77 = .ok (.iload_n 1, 1) := by decide +kernel
theorem dX4_fillFitting_78 : decode cX4_fillFitting 78 = .ok (.bipush 10, 2) := by decide +kernel
theorem dX4_fillFitting_80 : decode cX4_fillFitting 80 = .ok (.if_icmp .gt 51, 3) := by decide +kernel
theorem dX4_fillFitting_83 : decode cX4_fillFitting 83 = .ok (.iconst 0, 1) := by decide +kernel
theorem dX4_fillFitting_84 : decode cX4_fillFitting 84 = .ok (.istore_n 2, 1) := by decide +kernel
theorem dX4_fillFitting_85 : decode cX4_fillFitting 85 = .ok (.iconst 0, 1) := by decide +kernel
theorem dX4_fillFitting_86 : decode cX4_fillFitting 86 = .ok (.istore_n 3, 1) := by decide +kernel
theorem dX4_fillFitting_87 : decode cX4_fillFitting 87 = .ok (.iload_n 3, 1) := by decide +kernel
theorem dX4_fillFitting_88 : decode cX4_fillFitting 88 = .ok (.aload_n 0, 1) := by decide +kernel
theorem dX4_fillFitting_89 : decode cX4_fillFitting 89 = .ok (.getfield 12, 3) := by decide +kernel
theorem dX4_fillFitting_92 : decode cX4_fillFitting 92 = .ok (.getfield 113, 3) := by decide +kernel
theorem dX4_fillFitting_95 : decode cX4_fillFitting 95 = .ok (.if_icmp .ge 21, 3) := by decide +kernel
theorem dX4_fillFitting_98 : decode cX4_fillFitting 98 = .ok (.iload_n 2, 1) := by decide +kernel
theorem dX4_fillFitting_99 : decode cX4_fillFitting 99 = .ok (.aload_n 0, 1) := by decide +kernel
theorem dX4_fillFitting_100 : decode cX4_fillFitting 100 = .ok (.getfield 12, 3) := by decide +kernel
theorem dX4_fillFitting_103 : decode cX4_fillFitting 103 = .ok (.iload_n 3, 1) := by decide +kernel
theorem dX4_fillFitting_104 : decode cX4_fillFitting 104 = .ok (.iload_n 1, 1) := by decide +kernel
theorem dX4_fillFitting_105 : decode cX4_fillFitting 105 = .ok (.invokevirtual 119, 3) := by decide +kernel
theorem dX4_fillFitting_108 : decode cX4_fillFitting 108 = .ok (.ior, 1) := by decide +kernel
theorem dX4_fillFitting_109 : decode cX4_fillFitting 109 = .ok (.istore_n 2, 1) := by decide +kernel
theorem dX4_fillFitting_110 : decode cX4_fillFitting 110 = .ok (.iinc 3 1, 3) := by decide +kernel
theorem dX4_fillFitting_113 : decode cX4_fillFitting 113 = .ok (.goto (-26), 3) := by decide +kernel
theorem dX4_fillFitting_116 : decode cX4_fillFitting 116 = .ok (.aload_n 0, 1) := by decide +kernel
theorem dX4_fillFitting_117 : decode cX4_fillFitting 117 = .ok (.getfield 25, 3) := by decide +kernel
theorem dX4_fillFitting_120 : decode cX4_fillFitting 120 = .ok (.iload_n 1, 1) := by decide +kernel
theorem dX4_fillFitting_121 : decode cX4_fillFitting 121 = .ok (.iload_n 2, 1) := by decide +kernel
theorem dX4_fillFitting_122 : decode cX4_fillFitting 122 = .ok (.iconst (-1), 1) := by decide +kernel
theorem dX4_fillFitting_123 : decode cX4_fillFitting 123 = .ok (.ixor, 1) := by decide +kernel
theorem dX4_fillFitting_124 : decode cX4_fillFitting 124 = .ok (.iastore, 1) := by decide +kernel
theorem dX4_fillFitting_125 : decode cX4_fillFitting 125 = .ok (.iinc 1 1, 3) := by decide +kernel
theorem dX4_fillFitting_128 : decode cX4_fillFitting 128 = .ok (.goto (-51), 3) := by decide +kernel
theorem dX4_fillFitting_131 : decode cX4_fillFitting 131 = .ok (.return_, 1) := by decide +kernel
theorem dX4_nextOf_0 : decode cX4_nextOf 0 = .ok (.aload_n 0, 1) := by decide +kernel
theorem dX4_nextOf_1 : decode cX4_nextOf 1 = .ok (.getfield 46, 3) := by decide +kernel
theorem dX4_nextOf_4 : decode cX4_nextOf 4 = .ok (.ifCond .eq 14, 3) := by decide +kernel
theorem dX4_nextOf_7 : decode cX4_nextOf 7 = .ok (.aload_n 0, 1) := by decide +kernel
theorem dX4_nextOf_8 : decode cX4_nextOf 8 = .ok (.getfield 31, 3) := by decide +kernel
theorem dX4_nextOf_11 : decode cX4_nextOf 11 = .ok (.iload_n 1, 1) := by decide +kernel
theorem dX4_nextOf_12 : decode cX4_nextOf 12 = .ok (.iload_n 2, 1) := by decide +kernel
theorem dX4_nextOf_13 : decode cX4_nextOf 13 = .ok (.invokestatic 89, 3) := by decide +kernel
theorem dX4_nextOf_16 : decode cX4_nextOf 16 = .ok (.iaload, 1) := by decide +kernel
theorem dX4_nextOf_17 : decode cX4_nextOf 17 = .ok (.ireturn, 1) := by decide +kernel
theorem dX4_nextOf_18 : decode cX4_nextOf 18 = .ok (.aload_n 0, 1) := by decide +kernel
theorem dX4_nextOf_19 : decode cX4_nextOf 19 = .ok (.getfield 22, 3) := by decide +kernel
theorem dX4_nextOf_22 : decode cX4_nextOf 22 = .ok (.iload_n 1, 1) := by decide +kernel
theorem dX4_nextOf_23 : decode cX4_nextOf 23 = .ok (.iaload, 1) := by decide +kernel
theorem dX4_nextOf_24 : decode cX4_nextOf 24 = .ok (.aload_n 0, 1) := by decide +kernel
theorem dX4_nextOf_25 : decode cX4_nextOf 25 = .ok (.getfield 25, 3) := by decide +kernel
theorem dX4_nextOf_28 : decode cX4_nextOf 28 = .ok (.iload_n 1, 1) := by decide +kernel
theorem dX4_nextOf_29 : decode cX4_nextOf 29 = .ok (.ifCond .ne 8, 3) := by decide +kernel
theorem dX4_nextOf_32 : decode cX4_nextOf 32 = .ok (.bipush 10, 2) := by decide +kernel
theorem dX4_nextOf_34 : decode cX4_nextOf 34 = .ok (.goto 4, 3) := by decide +kernel
theorem dX4_nextOf_37 : decode cX4_nextOf 37 = .ok (.iload_n 2, 1) := by decide +kernel
theorem dX4_nextOf_38 : decode cX4_nextOf 38 = .ok (.iaload, 1) := by decide +kernel
theorem dX4_nextOf_39 : decode cX4_nextOf 39 = .ok (.iand, 1) := by decide +kernel
theorem dX4_nextOf_40 : decode cX4_nextOf 40 = .ok (.ireturn, 1) := by decide +kernel
theorem dX4_bestOf_0 : decode cX4_bestOf 0 = .ok (.iload_n 1, 1) := by decide +kernel
theorem dX4_bestOf_1 : decode cX4_bestOf 1 = .ok (.aload_n 0, 1) := by decide +kernel
theorem dX4_bestOf_2 : decode cX4_bestOf 2 = .ok (.getfield 12, 3) := by decide +kernel
theorem dX4_bestOf_5 : decode cX4_bestOf 5 = .ok (.invokevirtual 77, 3) := by decide +kernel
theorem dX4_bestOf_8 : decode cX4_bestOf 8 = .ok (.if_icmp .ne 5, 3) := by decide +kernel
theorem dX4_bestOf_11 : decode cX4_bestOf 11 = .ok (.iconst 0, 1) := by decide +kernel
theorem dX4_bestOf_12 : decode cX4_bestOf 12 = .ok (.ireturn, 1) := by decide +kernel
theorem dX4_bestOf_13 : decode cX4_bestOf 13 = .ok (.aload_n 0, 1) := by decide +kernel
theorem dX4_bestOf_14 : decode cX4_bestOf 14 = .ok (.iload_n 1, 1) := by decide +kernel
theorem dX4_bestOf_15 : decode cX4_bestOf 15 = .ok (.iload_n 2, 1) := by decide +kernel
theorem dX4_bestOf_16 : decode cX4_bestOf 16 = .ok (.invokevirtual 122, 3) := by decide +kernel
theorem dX4_bestOf_19 : decode cX4_bestOf 19 = .ok (.istore_n 3, 1) := by decide +kernel
theorem dX4_bestOf_20 : decode cX4_bestOf 20 = .ok (.ldc 70, 2) := by decide +kernel
theorem dX4_bestOf_22 : decode cX4_bestOf 22 = .ok (.istore 4, 2) := by decide +kernel
theorem dX4_bestOf_24 : decode cX4_bestOf 24 = .ok (.iconst 0, 1) := by decide +kernel
theorem dX4_bestOf_25 : decode cX4_bestOf 25 = .ok (.istore 5, 2) := by decide +kernel
theorem dX4_bestOf_27 : decode cX4_bestOf 27 = .ok (.iload 5, 2) := by decide +kernel
theorem dX4_bestOf_29 : decode cX4_bestOf 29 = .ok (.aload_n 0, 1) := by decide +kernel
theorem dX4_bestOf_30 : decode cX4_bestOf 30 = .ok (.getfield 12, 3) := by decide +kernel
theorem dX4_bestOf_33 : decode cX4_bestOf 33 = .ok (.getfield 96, 3) := by decide +kernel
theorem dX4_bestOf_36 : decode cX4_bestOf 36 = .ok (.if_icmp .ge 41, 3) := by decide +kernel
theorem dX4_bestOf_39 : decode cX4_bestOf 39 = .ok (.iload_n 3, 1) := by decide +kernel
theorem dX4_bestOf_40 : decode cX4_bestOf 40 = .ok (.iload 5, 2) := by decide +kernel
theorem dX4_bestOf_42 : decode cX4_bestOf 42 = .ok (.ishr, 1) := by decide +kernel
theorem dX4_bestOf_43 : decode cX4_bestOf 43 = .ok (.iconst 1, 1) := by decide +kernel
theorem dX4_bestOf_44 : decode cX4_bestOf 44 = .ok (.iand, 1) := by decide +kernel
theorem dX4_bestOf_45 : decode cX4_bestOf 45 = .ok (.ifCond .eq 26, 3) := by decide +kernel
theorem dX4_bestOf_48 : decode cX4_bestOf 48 = .ok (.iload 4, 2) := by decide +kernel
theorem dX4_bestOf_50 : decode cX4_bestOf 50 = .ok (.aload_n 0, 1) := by decide +kernel
theorem dX4_bestOf_51 : decode cX4_bestOf 51 = .ok (.getfield 28, 3) := by decide +kernel
theorem dX4_bestOf_54 : decode cX4_bestOf 54 = .ok (.iload_n 1, 1) := by decide +kernel
theorem dX4_bestOf_55 : decode cX4_bestOf 55 = .ok (.iconst 1, 1) := by decide +kernel
theorem dX4_bestOf_56 : decode cX4_bestOf 56 = .ok (.iload 5, 2) := by decide +kernel
theorem dX4_bestOf_58 : decode cX4_bestOf 58 = .ok (.ishl, 1) := by decide +kernel
theorem dX4_bestOf_59 : decode cX4_bestOf 59 = .ok (.ior, 1) := by decide +kernel
theorem dX4_bestOf_60 : decode cX4_bestOf 60 = .ok (.iload 5, 2) := by decide +kernel
theorem dX4_bestOf_62 : decode cX4_bestOf 62 = .ok (.invokestatic 89, 3) := by decide +kernel
theorem dX4_bestOf_65 : decode cX4_bestOf 65 = .ok (.iaload, 1) := by decide +kernel
theorem dX4_bestOf_66 : decode cX4_bestOf 66 = .ok (.invokestatic 125, 3) := by decide +kernel
theorem dX4_bestOf_69 : decode cX4_bestOf 69 = .ok (.istore 4, 2) := by decide +kernel
theorem dX4_bestOf_71 : decode cX4_bestOf 71 = .ok (.iinc 5 1, 3) := by decide +kernel
theorem dX4_bestOf_74 : decode cX4_bestOf 74 = .ok (.goto (-47), 3) := by decide +kernel
theorem dX4_bestOf_77 : decode cX4_bestOf 77 = .ok (.iload 4, 2) := by decide +kernel
theorem dX4_bestOf_79 : decode cX4_bestOf 79 = .ok (.ldc 70, 2) := by decide +kernel
theorem dX4_bestOf_81 : decode cX4_bestOf 81 = .ok (.if_icmp .lt 6, 3) := by decide +kernel
theorem dX4_bestOf_84 : decode cX4_bestOf 84 = .ok (.ldc 70, 2) := by decide +kernel
theorem dX4_bestOf_86 : decode cX4_bestOf 86 = .ok (.ireturn, 1) := by decide +kernel
theorem dX4_bestOf_87 : decode cX4_bestOf 87 = .ok (.aload_n 0, 1) := by decide +kernel
theorem dX4_bestOf_88 : decode cX4_bestOf 88 = .ok (.getfield 50, 3) := by decide +kernel
theorem dX4_bestOf_91 : decode cX4_bestOf 91 = .ok (.ifCond .eq 15, 3) := by decide +kernel
theorem dX4_bestOf_94 : decode cX4_bestOf 94 = .ok (.iload 4, 2) := by decide +kernel
theorem dX4_bestOf_96 : decode cX4_bestOf 96 = .ok (.aload_n 0, 1) := by decide +kernel
theorem dX4_bestOf_97 : decode cX4_bestOf 97 = .ok (.getfield 18, 3) := by decide +kernel
theorem dX4_bestOf_100 : decode cX4_bestOf 100 = .ok (.iload_n 1, 1) := by decide +kernel
theorem dX4_bestOf_101 : decode cX4_bestOf 101 = .ok (.iaload, 1) := by decide +kernel
theorem dX4_bestOf_102 : decode cX4_bestOf 102 = .ok (.iadd, 1) := by decide +kernel
theorem dX4_bestOf_103 : decode cX4_bestOf 103 = .ok (.goto 14, 3) := by decide +kernel
theorem dX4_bestOf_106 : decode cX4_bestOf 106 = .ok (.iload 4, 2) := by decide +kernel
theorem dX4_bestOf_108 : decode cX4_bestOf 108 = .ok (.aload_n 0, 1) := by decide +kernel
theorem dX4_bestOf_109 : decode cX4_bestOf 109 = .ok (.getfield 18, 3) := by decide +kernel
theorem dX4_bestOf_112 : decode cX4_bestOf 112 = .ok (.iload_n 1, 1) := by decide +kernel
theorem dX4_bestOf_113 : decode cX4_bestOf 113 = .ok (.iaload, 1) := by decide +kernel
theorem dX4_bestOf_114 : decode cX4_bestOf 114 = .ok (.invokestatic 130, 3) := by decide +kernel
theorem dX4_bestOf_117 : decode cX4_bestOf 117 = .ok (.ireturn, 1) := by decide +kernel
theorem dX4_fillLeast_0 : decode cX4_fillLeast 0 = .ok (.aload_n 0, 1) := by decide +kernel
theorem dX4_fillLeast_1 : decode cX4_fillLeast 1 = .ok (.getfield 53, 3) := by decide +kernel
theorem dX4_fillLeast_4 : decode cX4_fillLeast 4 = .ok (.ifCond .eq 4, 3) := by decide +kernel
theorem dX4_fillLeast_7 : decode cX4_fillLeast 7 = .ok (.return_, 1) := by decide +kernel
theorem dX4_fillLeast_8 : decode cX4_fillLeast 8 = .ok (.aload_n 0, 1) := by decide +kernel
theorem dX4_fillLeast_9 : decode cX4_fillLeast 9 = .ok (.iconst 1, 1) := by decide +kernel
theorem dX4_fillLeast_10 : decode cX4_fillLeast 10 = .ok (.putfield 53, 3) := by decide +kernel
theorem dX4_fillLeast_13 : decode cX4_fillLeast 13 = .ok (.aload_n 0, 1) := by decide +kernel
theorem dX4_fillLeast_14 : decode cX4_fillLeast 14 = .ok (.getfield 12, 3) := by decide +kernel
theorem dX4_fillLeast_17 : decode cX4_fillLeast 17 = .ok (.invokevirtual 77, 3) := by decide +kernel
theorem dX4_fillLeast_20 : decode cX4_fillLeast 20 = .ok (.istore_n 1, 1) := by decide +kernel
theorem dX4_fillLeast_21 : decode cX4_fillLeast 21 = .ok (.iload_n 1, 1) := by decide +kernel
theorem dX4_fillLeast_22 : decode cX4_fillLeast 22 = .ok (.ifCond .lt 40, 3) := by decide +kernel
theorem dX4_fillLeast_25 : decode cX4_fillLeast 25 = .ok (.iconst 0, 1) := by decide +kernel
theorem dX4_fillLeast_26 : decode cX4_fillLeast 26 = .ok (.istore_n 2, 1) := by decide +kernel
theorem dX4_fillLeast_27 : decode cX4_fillLeast 27 = .ok (.iload_n 2, 1) := by decide +kernel
theorem dX4_fillLeast_28 : decode cX4_fillLeast 28 = .ok (.aload_n 0, 1) := by decide +kernel
theorem dX4_fillLeast_29 : decode cX4_fillLeast 29 = .ok (.iload_n 1, 1) := by decide +kernel
theorem dX4_fillLeast_30 : decode cX4_fillLeast 30 = .ok (.invokevirtual 81, 3) := by decide +kernel
theorem dX4_fillLeast_33 : decode cX4_fillLeast 33 = .ok (.if_icmp .ge 23, 3) := by decide +kernel
theorem dX4_fillLeast_36 : decode cX4_fillLeast 36 = .ok (.iload_n 1, 1) := by decide +kernel
theorem dX4_fillLeast_37 : decode cX4_fillLeast 37 = .ok (.iload_n 2, 1) := by decide +kernel
theorem dX4_fillLeast_38 : decode cX4_fillLeast 38 = .ok (.invokestatic 85, 3) := by decide +kernel
theorem dX4_fillLeast_41 : decode cX4_fillLeast 41 = .ok (.ifCond .eq 9, 3) := by decide +kernel
theorem dX4_fillLeast_44 : decode cX4_fillLeast 44 = .ok (.aload_n 0, 1) := by decide +kernel
theorem dX4_fillLeast_45 : decode cX4_fillLeast 45 = .ok (.iload_n 1, 1) := by decide +kernel
theorem dX4_fillLeast_46 : decode cX4_fillLeast 46 = .ok (.iload_n 2, 1) := by decide +kernel
theorem dX4_fillLeast_47 : decode cX4_fillLeast 47 = .ok (.invokevirtual 133, 3) := by decide +kernel
theorem dX4_fillLeast_50 : decode cX4_fillLeast 50 = .ok (.iinc 2 1, 3) := by decide +kernel
theorem dX4_fillLeast_53 : decode cX4_fillLeast 53 = .ok (.goto (-26), 3) := by decide +kernel
theorem dX4_fillLeast_56 : decode cX4_fillLeast 56 = .ok (.iinc 1 (-1), 3) := by decide +kernel
theorem dX4_fillLeast_59 : decode cX4_fillLeast 59 = .ok (.goto (-38), 3) := by decide +kernel
theorem dX4_fillLeast_62 : decode cX4_fillLeast 62 = .ok (.return_, 1) := by decide +kernel
theorem dX4_fillLeastFrom_0 : decode cX4_fillLeastFrom 0 = .ok (.iload_n 1, 1) := by decide +kernel
theorem dX4_fillLeastFrom_1 : decode cX4_fillLeastFrom 1 = .ok (.iload_n 2, 1) := by decide +kernel
theorem dX4_fillLeastFrom_2 : decode cX4_fillLeastFrom 2 = .ok (.invokestatic 89, 3) := by decide +kernel
theorem dX4_fillLeastFrom_5 : decode cX4_fillLeastFrom 5 = .ok (.istore_n 3, 1) := by decide +kernel
theorem dX4_fillLeastFrom_6 : decode cX4_fillLeastFrom 6 = .ok (.aload_n 0, 1) := by decide +kernel
theorem dX4_fillLeastFrom_7 : decode cX4_fillLeastFrom 7 = .ok (.iload_n 1, 1) := by decide +kernel
theorem dX4_fillLeastFrom_8 : decode cX4_fillLeastFrom 8 = .ok (.iload_n 2, 1) := by decide +kernel
theorem dX4_fillLeastFrom_9 : decode cX4_fillLeastFrom 9 = .ok (.invokevirtual 122, 3) := by decide +kernel
theorem dX4_fillLeastFrom_12 : decode cX4_fillLeastFrom 12 = .ok (.istore 4, 2) := by decide +kernel
theorem dX4_fillLeastFrom_14 : decode cX4_fillLeastFrom 14 = .ok (.iconst 0, 1) := by decide +kernel
theorem dX4_fillLeastFrom_15 : decode cX4_fillLeastFrom 15 = .ok (.istore 5, 2) := by decide +kernel
theorem dX4_fillLeastFrom_17 : decode cX4_fillLeastFrom 17 = .ok (.iload_n 1, 1) := by decide +kernel
theorem dX4_fillLeastFrom_18 : decode cX4_fillLeastFrom 18 = .ok (.aload_n 0, 1) := by decide +kernel
theorem dX4_fillLeastFrom_19 : decode cX4_fillLeastFrom 19 = .ok (.getfield 12, 3) := by decide +kernel
theorem dX4_fillLeastFrom_22 : decode cX4_fillLeastFrom 22 = .ok (.invokevirtual 77, 3) := by decide +kernel
theorem dX4_fillLeastFrom_25 : decode cX4_fillLeastFrom 25 = .ok (.if_icmp .ne 7, 3) := by decide +kernel
theorem dX4_fillLeastFrom_28 : decode cX4_fillLeastFrom 28 = .ok (.iconst 1, 1) := by decide +kernel
theorem dX4_fillLeastFrom_29 : decode cX4_fillLeastFrom 29 = .ok (.goto 4, 3) := by decide +kernel
theorem dX4_fillLeastFrom_32 : decode cX4_fillLeastFrom 32 = .ok (.iconst 0, 1) := by decide +kernel
theorem dX4_fillLeastFrom_33 : decode cX4_fillLeastFrom 33 = .ok (.istore 6, 2) := by decide +kernel
theorem dX4_fillLeastFrom_35 : decode cX4_fillLeastFrom 35 = .ok (.iconst 0, 1) := by decide +kernel
theorem dX4_fillLeastFrom_36 : decode cX4_fillLeastFrom 36 = .ok (.istore 7, 2) := by decide +kernel
theorem dX4_fillLeastFrom_38 : decode cX4_fillLeastFrom 38 = .ok (.iload 7, 2) := by decide +kernel
theorem dX4_fillLeastFrom_40 : decode cX4_fillLeastFrom 40 = .ok (.aload_n 0, 1) := by decide +kernel
theorem dX4_fillLeastFrom_41 : decode cX4_fillLeastFrom 41 = .ok (.getfield 12, 3) := by decide +kernel
theorem dX4_fillLeastFrom_44 : decode cX4_fillLeastFrom 44 = .ok (.getfield 96, 3) := by decide +kernel
theorem dX4_fillLeastFrom_47 : decode cX4_fillLeastFrom 47 = .ok (.if_icmp .ge 60, 3) := by decide +kernel
theorem dX4_fillLeastFrom_50 : decode cX4_fillLeastFrom 50 = .ok (.iload 4, 2) := by decide +kernel
theorem dX4_fillLeastFrom_52 : decode cX4_fillLeastFrom 52 = .ok (.iload 7, 2) := by decide +kernel
theorem dX4_fillLeastFrom_54 : decode cX4_fillLeastFrom 54 = .ok (.ishr, 1) := by decide +kernel
theorem dX4_fillLeastFrom_55 : decode cX4_fillLeastFrom 55 = .ok (.iconst 1, 1) := by decide +kernel
theorem dX4_fillLeastFrom_56 : decode cX4_fillLeastFrom 56 = .ok (.iand, 1) := by decide +kernel
theorem dX4_fillLeastFrom_57 : decode cX4_fillLeastFrom 57 = .ok (.ifCond .eq 44, 3) := by decide +kernel
theorem dX4_fillLeastFrom_60 : decode cX4_fillLeastFrom 60 = .ok (.aload_n 0, 1) := by decide +kernel
theorem dX4_fillLeastFrom_61 : decode cX4_fillLeastFrom 61 = .ok (.iload_n 1, 1) := by decide +kernel
theorem dX4_fillLeastFrom_62 : decode cX4_fillLeastFrom 62 = .ok (.iload_n 2, 1) := by decide +kernel
theorem dX4_fillLeastFrom_63 : decode cX4_fillLeastFrom 63 = .ok (.iload 7, 2) := by decide +kernel
theorem dX4_fillLeastFrom_65 : decode cX4_fillLeastFrom 65 = .ok (.invokevirtual 137, 3) := by decide +kernel
theorem dX4_fillLeastFrom_68 : decode cX4_fillLeastFrom 68 = .ok (.ifCond .eq 33, 3) := by decide +kernel
theorem dX4_fillLeastFrom_71 : decode cX4_fillLeastFrom 71 = .ok (.iload 5, 2) := by decide +kernel
theorem dX4_fillLeastFrom_73 : decode cX4_fillLeastFrom 73 = .ok (.iconst 1, 1) := by decide +kernel
theorem dX4_fillLeastFrom_74 : decode cX4_fillLeastFrom 74 = .ok (.iload 7, 2) := by decide +kernel
theorem dX4_fillLeastFrom_76 : decode cX4_fillLeastFrom 76 = .ok (.ishl, 1) := by decide +kernel
theorem dX4_fillLeastFrom_77 : decode cX4_fillLeastFrom 77 = .ok (.ior, 1) := by decide +kernel
theorem dX4_fillLeastFrom_78 : decode cX4_fillLeastFrom 78 = .ok (.istore 5, 2) := by decide +kernel
theorem dX4_fillLeastFrom_80 : decode cX4_fillLeastFrom 80 = .ok (.iload 6, 2) := by decide +kernel
theorem dX4_fillLeastFrom_82 : decode cX4_fillLeastFrom 82 = .ok (.aload_n 0, 1) := by decide +kernel
theorem dX4_fillLeastFrom_83 : decode cX4_fillLeastFrom 83 = .ok (.getfield 34, 3) := by decide +kernel
theorem dX4_fillLeastFrom_86 : decode cX4_fillLeastFrom 86 = .ok (.iload_n 1, 1) := by decide +kernel
theorem dX4_fillLeastFrom_87 : decode cX4_fillLeastFrom 87 = .ok (.iconst 1, 1) := by decide +kernel
theorem dX4_fillLeastFrom_88 : decode cX4_fillLeastFrom 88 = .ok (.iload 7, 2) := by decide +kernel
theorem dX4_fillLeastFrom_90 : decode cX4_fillLeastFrom 90 = .ok (.ishl, 1) := by decide +kernel
theorem dX4_fillLeastFrom_91 : decode cX4_fillLeastFrom 91 = .ok (.ior, 1) := by decide +kernel
theorem dX4_fillLeastFrom_92 : decode cX4_fillLeastFrom 92 = .ok (.iload 7, 2) := by decide +kernel
theorem dX4_fillLeastFrom_94 : decode cX4_fillLeastFrom 94 = .ok (.invokestatic 89, 3) := by decide +kernel
theorem dX4_fillLeastFrom_97 : decode cX4_fillLeastFrom 97 = .ok (.iaload, 1) := by decide +kernel
theorem dX4_fillLeastFrom_98 : decode cX4_fillLeastFrom 98 = .ok (.iadd, 1) := by decide +kernel
theorem dX4_fillLeastFrom_99 : decode cX4_fillLeastFrom 99 = .ok (.istore 6, 2) := by decide +kernel
theorem dX4_fillLeastFrom_101 : decode cX4_fillLeastFrom 101 = .ok (.iinc 7 1, 3) := by decide +kernel
theorem dX4_fillLeastFrom_104 : decode cX4_fillLeastFrom 104 = .ok (.goto (-66), 3) := by decide +kernel
theorem dX4_fillLeastFrom_107 : decode cX4_fillLeastFrom 107 = .ok (.aload_n 0, 1) := by decide +kernel
theorem dX4_fillLeastFrom_108 : decode cX4_fillLeastFrom 108 = .ok (.getfield 31, 3) := by decide +kernel
theorem dX4_fillLeastFrom_111 : decode cX4_fillLeastFrom 111 = .ok (.iload_n 3, 1) := by decide +kernel
theorem dX4_fillLeastFrom_112 : decode cX4_fillLeastFrom 112 = .ok (.iload 5, 2) := by decide +kernel
theorem dX4_fillLeastFrom_114 : decode cX4_fillLeastFrom 114 = .ok (.iastore, 1) := by decide +kernel
theorem dX4_fillLeastFrom_115 : decode cX4_fillLeastFrom 115 = .ok (.aload_n 0, 1) := by decide +kernel
theorem dX4_fillLeastFrom_116 : decode cX4_fillLeastFrom 116 = .ok (.getfield 34, 3) := by decide +kernel
theorem dX4_fillLeastFrom_119 : decode cX4_fillLeastFrom 119 = .ok (.iload_n 3, 1) := by decide +kernel
theorem dX4_fillLeastFrom_120 : decode cX4_fillLeastFrom 120 = .ok (.iload 6, 2) := by decide +kernel
theorem dX4_fillLeastFrom_122 : decode cX4_fillLeastFrom 122 = .ok (.iastore, 1) := by decide +kernel
theorem dX4_fillLeastFrom_123 : decode cX4_fillLeastFrom 123 = .ok (.return_, 1) := by decide +kernel
theorem dX4_goesOnLeast_0 : decode cX4_goesOnLeast 0 = .ok (.aload_n 0, 1) := by decide +kernel
theorem dX4_goesOnLeast_1 : decode cX4_goesOnLeast 1 = .ok (.getfield 28, 3) := by decide +kernel
theorem dX4_goesOnLeast_4 : decode cX4_goesOnLeast 4 = .ok (.iload_n 1, 1) := by decide +kernel
theorem dX4_goesOnLeast_5 : decode cX4_goesOnLeast 5 = .ok (.iconst 1, 1) := by decide +kernel
theorem dX4_goesOnLeast_6 : decode cX4_goesOnLeast 6 = .ok (.iload_n 3, 1) := by decide +kernel
theorem dX4_goesOnLeast_7 : decode cX4_goesOnLeast 7 = .ok (.ishl, 1) := by decide +kernel
theorem dX4_goesOnLeast_8 : decode cX4_goesOnLeast 8 = .ok (.ior, 1) := by decide +kernel
theorem dX4_goesOnLeast_9 : decode cX4_goesOnLeast 9 = .ok (.iload_n 3, 1) := by decide +kernel
theorem dX4_goesOnLeast_10 : decode cX4_goesOnLeast 10 = .ok (.invokestatic 89, 3) := by decide +kernel
theorem dX4_goesOnLeast_13 : decode cX4_goesOnLeast 13 = .ok (.iaload, 1) := by decide +kernel
theorem dX4_goesOnLeast_14 : decode cX4_goesOnLeast 14 = .ok (.istore 4, 2) := by decide +kernel
theorem dX4_goesOnLeast_16 : decode cX4_goesOnLeast 16 = .ok (.iload 4, 2) := by decide +kernel
theorem dX4_goesOnLeast_18 : decode cX4_goesOnLeast 18 = .ok (.ldc 70, 2) := by decide +kernel
theorem dX4_goesOnLeast_20 : decode cX4_goesOnLeast 20 = .ok (.if_icmp .lt 5, 3) := by decide +kernel
theorem dX4_goesOnLeast_23 : decode cX4_goesOnLeast 23 = .ok (.iconst 0, 1) := by decide +kernel
theorem dX4_goesOnLeast_24 : decode cX4_goesOnLeast 24 = .ok (.ireturn, 1) := by decide +kernel
theorem dX4_goesOnLeast_25 : decode cX4_goesOnLeast 25 = .ok (.aload_n 0, 1) := by decide +kernel
theorem dX4_goesOnLeast_26 : decode cX4_goesOnLeast 26 = .ok (.getfield 50, 3) := by decide +kernel
theorem dX4_goesOnLeast_29 : decode cX4_goesOnLeast 29 = .ok (.ifCond .eq 33, 3) := by decide +kernel
theorem dX4_goesOnLeast_32 : decode cX4_goesOnLeast 32 = .ok (.iload 4, 2) := by decide +kernel
theorem dX4_goesOnLeast_34 : decode cX4_goesOnLeast 34 = .ok (.aload_n 0, 1) := by decide +kernel
theorem dX4_goesOnLeast_35 : decode cX4_goesOnLeast 35 = .ok (.getfield 18, 3) := by decide +kernel
theorem dX4_goesOnLeast_38 : decode cX4_goesOnLeast 38 = .ok (.iload_n 1, 1) := by decide +kernel
theorem dX4_goesOnLeast_39 : decode cX4_goesOnLeast 39 = .ok (.iaload, 1) := by decide +kernel
theorem dX4_goesOnLeast_40 : decode cX4_goesOnLeast 40 = .ok (.iadd, 1) := by decide +kernel
theorem dX4_goesOnLeast_41 : decode cX4_goesOnLeast 41 = .ok (.aload_n 0, 1) := by decide +kernel
theorem dX4_goesOnLeast_42 : decode cX4_goesOnLeast 42 = .ok (.getfield 28, 3) := by decide +kernel
theorem dX4_goesOnLeast_45 : decode cX4_goesOnLeast 45 = .ok (.iload_n 1, 1) := by decide +kernel
theorem dX4_goesOnLeast_46 : decode cX4_goesOnLeast 46 = .ok (.iload_n 2, 1) := by decide +kernel
theorem dX4_goesOnLeast_47 : decode cX4_goesOnLeast 47 = .ok (.invokestatic 89, 3) := by decide +kernel
theorem dX4_goesOnLeast_50 : decode cX4_goesOnLeast 50 = .ok (.iaload, 1) := by decide +kernel
theorem dX4_goesOnLeast_51 : decode cX4_goesOnLeast 51 = .ok (.if_icmp .ne 7, 3) := by decide +kernel
theorem dX4_goesOnLeast_54 : decode cX4_goesOnLeast 54 = .ok (.iconst 1, 1) := by decide +kernel
theorem dX4_goesOnLeast_55 : decode cX4_goesOnLeast 55 = .ok (.goto 23, 3) := by decide +kernel
theorem dX4_goesOnLeast_58 : decode cX4_goesOnLeast 58 = .ok (.iconst 0, 1) := by decide +kernel
theorem dX4_goesOnLeast_59 : decode cX4_goesOnLeast 59 = .ok (.goto 19, 3) := by decide +kernel
theorem dX4_goesOnLeast_62 : decode cX4_goesOnLeast 62 = .ok (.iload 4, 2) := by decide +kernel
theorem dX4_goesOnLeast_64 : decode cX4_goesOnLeast 64 = .ok (.aload_n 0, 1) := by decide +kernel
theorem dX4_goesOnLeast_65 : decode cX4_goesOnLeast 65 = .ok (.getfield 28, 3) := by decide +kernel
theorem dX4_goesOnLeast_68 : decode cX4_goesOnLeast 68 = .ok (.iconst 0, 1) := by decide +kernel
theorem dX4_goesOnLeast_69 : decode cX4_goesOnLeast 69 = .ok (.iaload, 1) := by decide +kernel
theorem dX4_goesOnLeast_70 : decode cX4_goesOnLeast 70 = .ok (.if_icmp .gt 7, 3) := by decide +kernel
theorem dX4_goesOnLeast_73 : decode cX4_goesOnLeast 73 = .ok (.iconst 1, 1) := by decide +kernel
theorem dX4_goesOnLeast_74 : decode cX4_goesOnLeast 74 = .ok (.goto 4, 3) := by decide +kernel
theorem dX4_goesOnLeast_77 : decode cX4_goesOnLeast 77 = .ok (.iconst 0, 1) := by decide +kernel
theorem dX4_goesOnLeast_78 : decode cX4_goesOnLeast 78 = .ok (.ireturn, 1) := by decide +kernel
theorem dX4_nextInLeast_0 : decode cX4_nextInLeast 0 = .ok (.aload_n 0, 1) := by decide +kernel
theorem dX4_nextInLeast_1 : decode cX4_nextInLeast 1 = .ok (.getfield 31, 3) := by decide +kernel
theorem dX4_nextInLeast_4 : decode cX4_nextInLeast 4 = .ok (.iload_n 1, 1) := by decide +kernel
theorem dX4_nextInLeast_5 : decode cX4_nextInLeast 5 = .ok (.iload_n 2, 1) := by decide +kernel
theorem dX4_nextInLeast_6 : decode cX4_nextInLeast 6 = .ok (.invokestatic 89, 3) := by decide +kernel
theorem dX4_nextInLeast_9 : decode cX4_nextInLeast 9 = .ok (.iaload, 1) := by decide +kernel
theorem dX4_nextInLeast_10 : decode cX4_nextInLeast 10 = .ok (.ireturn, 1) := by decide +kernel
theorem dX4_value_0 : decode cX4_value 0 = .ok (.aload_n 0, 1) := by decide +kernel
theorem dX4_value_1 : decode cX4_value 1 = .ok (.getfield 28, 3) := by decide +kernel
theorem dX4_value_4 : decode cX4_value 4 = .ok (.iconst 0, 1) := by decide +kernel
theorem dX4_value_5 : decode cX4_value 5 = .ok (.iaload, 1) := by decide +kernel
theorem dX4_value_6 : decode cX4_value 6 = .ok (.ireturn, 1) := by decide +kernel
theorem dX4_number_0 : decode cX4_number 0 = .ok (.aload_n 0, 1) := by decide +kernel
theorem dX4_number_1 : decode cX4_number 1 = .ok (.invokevirtual 71, 3) := by decide +kernel
theorem dX4_number_4 : decode cX4_number 4 = .ok (.aload_n 0, 1) := by decide +kernel
theorem dX4_number_5 : decode cX4_number 5 = .ok (.getfield 34, 3) := by decide +kernel
theorem dX4_number_8 : decode cX4_number 8 = .ok (.iconst 0, 1) := by decide +kernel
theorem dX4_number_9 : decode cX4_number 9 = .ok (.iaload, 1) := by decide +kernel
theorem dX4_number_10 : decode cX4_number 10 = .ok (.ireturn, 1) := by decide +kernel
theorem dX4_pick_0 : decode cX4_pick 0 = .ok (.aload_n 0, 1) := by decide +kernel
theorem dX4_pick_1 : decode cX4_pick 1 = .ok (.invokevirtual 71, 3) := by decide +kernel
theorem dX4_pick_4 : decode cX4_pick 4 = .ok (.iload_n 1, 1) := by decide +kernel
theorem dX4_pick_5 : decode cX4_pick 5 = .ok (.istore_n 3, 1) := by decide +kernel
theorem dX4_pick_6 : decode cX4_pick 6 = .ok (.iconst 0, 1) := by decide +kernel
theorem dX4_pick_7 : decode cX4_pick 7 = .ok (.istore 4, 2) := by decide +kernel
theorem dX4_pick_9 : decode cX4_pick 9 = .ok (.iconst 0, 1) := by decide +kernel
theorem dX4_pick_10 : decode cX4_pick 10 = .ok (.istore 5, 2) := by decide +kernel
theorem dX4_pick_12 : decode cX4_pick 12 = .ok (.iconst 0, 1) := by decide +kernel
theorem dX4_pick_13 : decode cX4_pick 13 = .ok (.istore 6, 2) := by decide +kernel
theorem dX4_pick_15 : decode cX4_pick 15 = .ok (.iload 6, 2) := by decide +kernel
theorem dX4_pick_17 : decode cX4_pick 17 = .ok (.aload_n 0, 1) := by decide +kernel
theorem dX4_pick_18 : decode cX4_pick 18 = .ok (.getfield 12, 3) := by decide +kernel
theorem dX4_pick_21 : decode cX4_pick 21 = .ok (.getfield 96, 3) := by decide +kernel
theorem dX4_pick_24 : decode cX4_pick 24 = .ok (.if_icmp .ge 105, 3) := by decide +kernel
theorem dX4_pick_27 : decode cX4_pick 27 = .ok (.aload_n 0, 1) := by decide +kernel
theorem dX4_pick_28 : decode cX4_pick 28 = .ok (.iload 4, 2) := by decide +kernel
theorem dX4_pick_30 : decode cX4_pick 30 = .ok (.iload 5, 2) := by decide +kernel
theorem dX4_pick_32 : decode cX4_pick 32 = .ok (.invokevirtual 141, 3) := by decide +kernel
theorem dX4_pick_35 : decode cX4_pick 35 = .ok (.istore 7, 2) := by decide +kernel
theorem dX4_pick_37 : decode cX4_pick 37 = .ok (.iconst 0, 1) := by decide +kernel
theorem dX4_pick_38 : decode cX4_pick 38 = .ok (.istore 8, 2) := by decide +kernel
theorem dX4_pick_40 : decode cX4_pick 40 = .ok (.iload 8, 2) := by decide +kernel
theorem dX4_pick_42 : decode cX4_pick 42 = .ok (.aload_n 0, 1) := by decide +kernel
theorem dX4_pick_43 : decode cX4_pick 43 = .ok (.getfield 12, 3) := by decide +kernel
theorem dX4_pick_46 : decode cX4_pick 46 = .ok (.getfield 96, 3) := by decide +kernel
theorem dX4_pick_49 : decode cX4_pick 49 = .ok (.if_icmp .ge 59, 3) := by decide +kernel
theorem dX4_pick_52 : decode cX4_pick 52 = .ok (.iload 7, 2) := by decide +kernel
theorem dX4_pick_54 : decode cX4_pick 54 = .ok (.iload 8, 2) := by decide +kernel
theorem dX4_pick_56 : decode cX4_pick 56 = .ok (.ishr, 1) := by decide +kernel
theorem dX4_pick_57 : decode cX4_pick 57 = .ok (.iconst 1, 1) := by decide +kernel
theorem dX4_pick_58 : decode cX4_pick 58 = .ok (.iand, 1) := by decide +kernel
theorem dX4_pick_59 : decode cX4_pick 59 = .ok (.ifCond .ne 6, 3) := by decide +kernel
theorem dX4_pick_62 : decode cX4_pick 62 = .ok (.goto 40, 3) := by decide +kernel
theorem dX4_pick_65 : decode cX4_pick 65 = .ok (.aload_n 0, 1) := by decide +kernel
theorem dX4_pick_66 : decode cX4_pick 66 = .ok (.getfield 34, 3) := by decide +kernel
theorem dX4_pick_69 : decode cX4_pick 69 = .ok (.iload 4, 2) := by decide +kernel
theorem dX4_pick_71 : decode cX4_pick 71 = .ok (.iconst 1, 1) := by decide +kernel
theorem dX4_pick_72 : decode cX4_pick 72 = .ok (.iload 8, 2) := by decide +kernel
theorem dX4_pick_74 : decode cX4_pick 74 = .ok (.ishl, 1) := by decide +kernel
theorem dX4_pick_75 : decode cX4_pick 75 = .ok (.ior, 1) := by decide +kernel
theorem dX4_pick_76 : decode cX4_pick 76 = .ok (.iload 8, 2) := by decide +kernel
theorem dX4_pick_78 : decode cX4_pick 78 = .ok (.invokestatic 89, 3) := by decide +kernel
theorem dX4_pick_81 : decode cX4_pick 81 = .ok (.iaload, 1) := by decide +kernel
theorem dX4_pick_82 : decode cX4_pick 82 = .ok (.istore 9, 2) := by decide +kernel
theorem dX4_pick_84 : decode cX4_pick 84 = .ok (.iload_n 3, 1) := by decide +kernel
theorem dX4_pick_85 : decode cX4_pick 85 = .ok (.iload 9, 2) := by decide +kernel
theorem dX4_pick_87 : decode cX4_pick 87 = .ok (.if_icmp .ge 10, 3) := by decide +kernel
theorem dX4_pick_90 : decode cX4_pick 90 = .ok (.iload 8, 2) := by decide +kernel
theorem dX4_pick_92 : decode cX4_pick 92 = .ok (.istore 5, 2) := by decide +kernel
theorem dX4_pick_94 : decode cX4_pick 94 = .ok (.goto 14, 3) := by decide +kernel
theorem dX4_pick_97 : decode cX4_pick 97 = .ok (.iload_n 3, 1) := by decide +kernel
theorem dX4_pick_98 : decode cX4_pick 98 = .ok (.iload 9, 2) := by decide +kernel
theorem dX4_pick_100 : decode cX4_pick 100 = .ok (.isub, 1) := by decide +kernel
theorem dX4_pick_101 : decode cX4_pick 101 = .ok (.istore_n 3, 1) := by decide +kernel
theorem dX4_pick_102 : decode cX4_pick 102 = .ok (.iinc 8 1, 3) := by decide +kernel
theorem dX4_pick_105 : decode cX4_pick 105 = .ok (.goto (-65), 3) := by decide +kernel
theorem dX4_pick_108 : decode cX4_pick 108 = .ok (.aload_n 2, 1) := by decide +kernel
theorem dX4_pick_109 : decode cX4_pick 109 = .ok (.iload 6, 2) := by decide +kernel
theorem dX4_pick_111 : decode cX4_pick 111 = .ok (.iload 5, 2) := by decide +kernel
theorem dX4_pick_113 : decode cX4_pick 113 = .ok (.iastore, 1) := by decide +kernel
theorem dX4_pick_114 : decode cX4_pick 114 = .ok (.iload 4, 2) := by decide +kernel
theorem dX4_pick_116 : decode cX4_pick 116 = .ok (.iconst 1, 1) := by decide +kernel
theorem dX4_pick_117 : decode cX4_pick 117 = .ok (.iload 5, 2) := by decide +kernel
theorem dX4_pick_119 : decode cX4_pick 119 = .ok (.ishl, 1) := by decide +kernel
theorem dX4_pick_120 : decode cX4_pick 120 = .ok (.ior, 1) := by decide +kernel
theorem dX4_pick_121 : decode cX4_pick 121 = .ok (.istore 4, 2) := by decide +kernel
theorem dX4_pick_123 : decode cX4_pick 123 = .ok (.iinc 6 1, 3) := by decide +kernel
theorem dX4_pick_126 : decode cX4_pick 126 = .ok (.goto (-111), 3) := by decide +kernel
theorem dX4_pick_129 : decode cX4_pick 129 = .ok (.return_, 1) := by decide +kernel
theorem dX4_indexOf_0 : decode cX4_indexOf 0 = .ok (.aload_n 0, 1) := by decide +kernel
theorem dX4_indexOf_1 : decode cX4_indexOf 1 = .ok (.invokevirtual 71, 3) := by decide +kernel
theorem dX4_indexOf_4 : decode cX4_indexOf 4 = .ok (.iconst 0, 1) := by decide +kernel
theorem dX4_indexOf_5 : decode cX4_indexOf 5 = .ok (.istore_n 2, 1) := by decide +kernel
theorem dX4_indexOf_6 : decode cX4_indexOf 6 = .ok (.iconst 0, 1) := by decide +kernel
theorem dX4_indexOf_7 : decode cX4_indexOf 7 = .ok (.istore_n 3, 1) := by decide +kernel
theorem dX4_indexOf_8 : decode cX4_indexOf 8 = .ok (.iconst 0, 1) := by decide +kernel
theorem dX4_indexOf_9 : decode cX4_indexOf 9 = .ok (.istore 4, 2) := by decide +kernel
theorem dX4_indexOf_11 : decode cX4_indexOf 11 = .ok (.iconst 0, 1) := by decide +kernel
theorem dX4_indexOf_12 : decode cX4_indexOf 12 = .ok (.istore 5, 2) := by decide +kernel
theorem dX4_indexOf_14 : decode cX4_indexOf 14 = .ok (.iload 5, 2) := by decide +kernel
theorem dX4_indexOf_16 : decode cX4_indexOf 16 = .ok (.aload_n 0, 1) := by decide +kernel
theorem dX4_indexOf_17 : decode cX4_indexOf 17 = .ok (.getfield 12, 3) := by decide +kernel
theorem dX4_indexOf_20 : decode cX4_indexOf 20 = .ok (.getfield 96, 3) := by decide +kernel
theorem dX4_indexOf_23 : decode cX4_indexOf 23 = .ok (.if_icmp .ge 93, 3) := by decide +kernel
theorem dX4_indexOf_26 : decode cX4_indexOf 26 = .ok (.aload_n 0, 1) := by decide +kernel
theorem dX4_indexOf_27 : decode cX4_indexOf 27 = .ok (.iload_n 3, 1) := by decide +kernel
theorem dX4_indexOf_28 : decode cX4_indexOf 28 = .ok (.iload 4, 2) := by decide +kernel
theorem dX4_indexOf_30 : decode cX4_indexOf 30 = .ok (.invokevirtual 141, 3) := by decide +kernel
theorem dX4_indexOf_33 : decode cX4_indexOf 33 = .ok (.istore 6, 2) := by decide +kernel
theorem dX4_indexOf_35 : decode cX4_indexOf 35 = .ok (.aload_n 1, 1) := by decide +kernel
theorem dX4_indexOf_36 : decode cX4_indexOf 36 = .ok (.iload 5, 2) := by decide +kernel
theorem dX4_indexOf_38 : decode cX4_indexOf 38 = .ok (.iaload, 1) := by decide +kernel
theorem dX4_indexOf_39 : decode cX4_indexOf 39 = .ok (.istore 7, 2) := by decide +kernel
theorem dX4_indexOf_41 : decode cX4_indexOf 41 = .ok (.iload 6, 2) := by decide +kernel
theorem dX4_indexOf_43 : decode cX4_indexOf 43 = .ok (.iload 7, 2) := by decide +kernel
theorem dX4_indexOf_45 : decode cX4_indexOf 45 = .ok (.ishr, 1) := by decide +kernel
theorem dX4_indexOf_46 : decode cX4_indexOf 46 = .ok (.iconst 1, 1) := by decide +kernel
theorem dX4_indexOf_47 : decode cX4_indexOf 47 = .ok (.iand, 1) := by decide +kernel
theorem dX4_indexOf_48 : decode cX4_indexOf 48 = .ok (.ifCond .ne 6, 3) := by decide +kernel
theorem dX4_indexOf_51 : decode cX4_indexOf 51 = .ok (.bipush (-9), 2) := by decide +kernel
theorem dX4_indexOf_53 : decode cX4_indexOf 53 = .ok (.ireturn, 1) := by decide +kernel
theorem dX4_indexOf_54 : decode cX4_indexOf 54 = .ok (.iconst 0, 1) := by decide +kernel
theorem dX4_indexOf_55 : decode cX4_indexOf 55 = .ok (.istore 8, 2) := by decide +kernel
theorem dX4_indexOf_57 : decode cX4_indexOf 57 = .ok (.iload 8, 2) := by decide +kernel
theorem dX4_indexOf_59 : decode cX4_indexOf 59 = .ok (.iload 7, 2) := by decide +kernel
theorem dX4_indexOf_61 : decode cX4_indexOf 61 = .ok (.if_icmp .ge 38, 3) := by decide +kernel
theorem dX4_indexOf_64 : decode cX4_indexOf 64 = .ok (.iload 6, 2) := by decide +kernel
theorem dX4_indexOf_66 : decode cX4_indexOf 66 = .ok (.iload 8, 2) := by decide +kernel
theorem dX4_indexOf_68 : decode cX4_indexOf 68 = .ok (.ishr, 1) := by decide +kernel
theorem dX4_indexOf_69 : decode cX4_indexOf 69 = .ok (.iconst 1, 1) := by decide +kernel
theorem dX4_indexOf_70 : decode cX4_indexOf 70 = .ok (.iand, 1) := by decide +kernel
theorem dX4_indexOf_71 : decode cX4_indexOf 71 = .ok (.ifCond .eq 22, 3) := by decide +kernel
theorem dX4_indexOf_74 : decode cX4_indexOf 74 = .ok (.iload_n 2, 1) := by decide +kernel
theorem dX4_indexOf_75 : decode cX4_indexOf 75 = .ok (.aload_n 0, 1) := by decide +kernel
theorem dX4_indexOf_76 : decode cX4_indexOf 76 = .ok (.getfield 34, 3) := by decide +kernel
theorem dX4_indexOf_79 : decode cX4_indexOf 79 = .ok (.iload_n 3, 1) := by decide +kernel
theorem dX4_indexOf_80 : decode cX4_indexOf 80 = .ok (.iconst 1, 1) := by decide +kernel
theorem dX4_indexOf_81 : decode cX4_indexOf 81 = .ok (.iload 8, 2) := by decide +kernel
theorem dX4_indexOf_83 : decode cX4_indexOf 83 = .ok (.ishl, 1) := by decide +kernel
theorem dX4_indexOf_84 : decode cX4_indexOf 84 = .ok (.ior, 1) := by decide +kernel
theorem dX4_indexOf_85 : decode cX4_indexOf 85 = .ok (.iload 8, 2) := by decide +kernel
theorem dX4_indexOf_87 : decode cX4_indexOf 87 = .ok (.invokestatic 89, 3) := by decide +kernel
theorem dX4_indexOf_90 : decode cX4_indexOf 90 = .ok (.iaload, 1) := by decide +kernel
theorem dX4_indexOf_91 : decode cX4_indexOf 91 = .ok (.iadd, 1) := by decide +kernel
theorem dX4_indexOf_92 : decode cX4_indexOf 92 = .ok (.istore_n 2, 1) := by decide +kernel
theorem dX4_indexOf_93 : decode cX4_indexOf 93 = .ok (.iinc 8 1, 3) := by decide +kernel
theorem dX4_indexOf_96 : decode cX4_indexOf 96 = .ok (.goto (-39), 3) := by decide +kernel
theorem dX4_indexOf_99 : decode cX4_indexOf 99 = .ok (.iload 7, 2) := by decide +kernel
theorem dX4_indexOf_101 : decode cX4_indexOf 101 = .ok (.istore 4, 2) := by decide +kernel
theorem dX4_indexOf_103 : decode cX4_indexOf 103 = .ok (.iload_n 3, 1) := by decide +kernel
theorem dX4_indexOf_104 : decode cX4_indexOf 104 = .ok (.iconst 1, 1) := by decide +kernel
theorem dX4_indexOf_105 : decode cX4_indexOf 105 = .ok (.iload 4, 2) := by decide +kernel
theorem dX4_indexOf_107 : decode cX4_indexOf 107 = .ok (.ishl, 1) := by decide +kernel
theorem dX4_indexOf_108 : decode cX4_indexOf 108 = .ok (.ior, 1) := by decide +kernel
theorem dX4_indexOf_109 : decode cX4_indexOf 109 = .ok (.istore_n 3, 1) := by decide +kernel
theorem dX4_indexOf_110 : decode cX4_indexOf 110 = .ok (.iinc 5 1, 3) := by decide +kernel
theorem dX4_indexOf_113 : decode cX4_indexOf 113 = .ok (.goto (-99), 3) := by decide +kernel
theorem dX4_indexOf_116 : decode cX4_indexOf 116 = .ok (.iload_n 2, 1) := by decide +kernel
theorem dX4_indexOf_117 : decode cX4_indexOf 117 = .ok (.ireturn, 1) := by decide +kernel
theorem dX4_spreadOf_0 : decode cX4_spreadOf 0 = .ok (.aload_n 2, 1) := by decide +kernel
theorem dX4_spreadOf_1 : decode cX4_spreadOf 1 = .ok (.iconst 0, 1) := by decide +kernel
theorem dX4_spreadOf_2 : decode cX4_spreadOf 2 = .ok (.invokestatic 144, 3) := by decide +kernel
theorem dX4_spreadOf_5 : decode cX4_spreadOf 5 = .ok (.aload_n 0, 1) := by decide +kernel
theorem dX4_spreadOf_6 : decode cX4_spreadOf 6 = .ok (.invokevirtual 150, 3) := by decide +kernel
theorem dX4_spreadOf_9 : decode cX4_spreadOf 9 = .ok (.iconst 0, 1) := by decide +kernel
theorem dX4_spreadOf_10 : decode cX4_spreadOf 10 = .ok (.istore_n 3, 1) := by decide +kernel
theorem dX4_spreadOf_11 : decode cX4_spreadOf 11 = .ok (.iload_n 3, 1) := by decide +kernel
theorem dX4_spreadOf_12 : decode cX4_spreadOf 12 = .ok (.aload_n 0, 1) := by decide +kernel
theorem dX4_spreadOf_13 : decode cX4_spreadOf 13 = .ok (.getfield 12, 3) := by decide +kernel
theorem dX4_spreadOf_16 : decode cX4_spreadOf 16 = .ok (.invokevirtual 77, 3) := by decide +kernel
theorem dX4_spreadOf_19 : decode cX4_spreadOf 19 = .ok (.if_icmp .ge 24, 3) := by decide +kernel
theorem dX4_spreadOf_22 : decode cX4_spreadOf 22 = .ok (.aload_n 2, 1) := by decide +kernel
theorem dX4_spreadOf_23 : decode cX4_spreadOf 23 = .ok (.iload_n 3, 1) := by decide +kernel
theorem dX4_spreadOf_24 : decode cX4_spreadOf 24 = .ok (.invokestatic 99, 3) := by decide +kernel
theorem dX4_spreadOf_27 : decode cX4_spreadOf 27 = .ok (.dup2, 1) := by decide +kernel
theorem dX4_spreadOf_28 : decode cX4_spreadOf 28 = .ok (.iaload, 1) := by decide +kernel
theorem dX4_spreadOf_29 : decode cX4_spreadOf 29 = .ok (.aload_n 0, 1) := by decide +kernel
theorem dX4_spreadOf_30 : decode cX4_spreadOf 30 = .ok (.iload_n 1, 1) := by decide +kernel
theorem dX4_spreadOf_31 : decode cX4_spreadOf 31 = .ok (.iload_n 3, 1) := by decide +kernel
theorem dX4_spreadOf_32 : decode cX4_spreadOf 32 = .ok (.invokevirtual 153, 3) := by decide +kernel
theorem dX4_spreadOf_35 : decode cX4_spreadOf 35 = .ok (.iadd, 1) := by decide +kernel
theorem dX4_spreadOf_36 : decode cX4_spreadOf 36 = .ok (.iastore, 1) := by decide +kernel
theorem dX4_spreadOf_37 : decode cX4_spreadOf 37 = .ok (.iinc 3 1, 3) := by decide +kernel
theorem dX4_spreadOf_40 : decode cX4_spreadOf 40 = .ok (.goto (-29), 3) := by decide +kernel
theorem dX4_spreadOf_43 : decode cX4_spreadOf 43 = .ok (.return_, 1) := by decide +kernel
theorem dX4_numberAhead_0 : decode cX4_numberAhead 0 = .ok (.aload_n 0, 1) := by decide +kernel
theorem dX4_numberAhead_1 : decode cX4_numberAhead 1 = .ok (.invokevirtual 150, 3) := by decide +kernel
theorem dX4_numberAhead_4 : decode cX4_numberAhead 4 = .ok (.iconst 0, 1) := by decide +kernel
theorem dX4_numberAhead_5 : decode cX4_numberAhead 5 = .ok (.istore_n 3, 1) := by decide +kernel
theorem dX4_numberAhead_6 : decode cX4_numberAhead 6 = .ok (.iconst 0, 1) := by decide +kernel
theorem dX4_numberAhead_7 : decode cX4_numberAhead 7 = .ok (.istore 4, 2) := by decide +kernel
theorem dX4_numberAhead_9 : decode cX4_numberAhead 9 = .ok (.iload 4, 2) := by decide +kernel
theorem dX4_numberAhead_11 : decode cX4_numberAhead 11 = .ok (.aload_n 0, 1) := by decide +kernel
theorem dX4_numberAhead_12 : decode cX4_numberAhead 12 = .ok (.getfield 12, 3) := by decide +kernel
theorem dX4_numberAhead_15 : decode cX4_numberAhead 15 = .ok (.invokevirtual 77, 3) := by decide +kernel
theorem dX4_numberAhead_18 : decode cX4_numberAhead 18 = .ok (.if_icmp .ge 28, 3) := by decide +kernel
theorem dX4_numberAhead_21 : decode cX4_numberAhead 21 = .ok (.iload 4, 2) := by decide +kernel
theorem dX4_numberAhead_23 : decode cX4_numberAhead 23 = .ok (.iload_n 1, 1) := by decide +kernel
theorem dX4_numberAhead_24 : decode cX4_numberAhead 24 = .ok (.ishr, 1) := by decide +kernel
theorem dX4_numberAhead_25 : decode cX4_numberAhead 25 = .ok (.iconst 1, 1) := by decide +kernel
theorem dX4_numberAhead_26 : decode cX4_numberAhead 26 = .ok (.iand, 1) := by decide +kernel
theorem dX4_numberAhead_27 : decode cX4_numberAhead 27 = .ok (.ifCond .eq 13, 3) := by decide +kernel
theorem dX4_numberAhead_30 : decode cX4_numberAhead 30 = .ok (.iload_n 3, 1) := by decide +kernel
theorem dX4_numberAhead_31 : decode cX4_numberAhead 31 = .ok (.aload_n 0, 1) := by decide +kernel
theorem dX4_numberAhead_32 : decode cX4_numberAhead 32 = .ok (.iload_n 2, 1) := by decide +kernel
theorem dX4_numberAhead_33 : decode cX4_numberAhead 33 = .ok (.iload 4, 2) := by decide +kernel
theorem dX4_numberAhead_35 : decode cX4_numberAhead 35 = .ok (.invokevirtual 153, 3) := by decide +kernel
theorem dX4_numberAhead_38 : decode cX4_numberAhead 38 = .ok (.iadd, 1) := by decide +kernel
theorem dX4_numberAhead_39 : decode cX4_numberAhead 39 = .ok (.istore_n 3, 1) := by decide +kernel
theorem dX4_numberAhead_40 : decode cX4_numberAhead 40 = .ok (.iinc 4 1, 3) := by decide +kernel
theorem dX4_numberAhead_43 : decode cX4_numberAhead 43 = .ok (.goto (-34), 3) := by decide +kernel
theorem dX4_numberAhead_46 : decode cX4_numberAhead 46 = .ok (.iload_n 3, 1) := by decide +kernel
theorem dX4_numberAhead_47 : decode cX4_numberAhead 47 = .ok (.ireturn, 1) := by decide +kernel
theorem dX4_numberTaking_0 : decode cX4_numberTaking 0 = .ok (.iload_n 2, 1) := by decide +kernel
theorem dX4_numberTaking_1 : decode cX4_numberTaking 1 = .ok (.iload_n 1, 1) := by decide +kernel
theorem dX4_numberTaking_2 : decode cX4_numberTaking 2 = .ok (.ishr, 1) := by decide +kernel
theorem dX4_numberTaking_3 : decode cX4_numberTaking 3 = .ok (.iconst 1, 1) := by decide +kernel
theorem dX4_numberTaking_4 : decode cX4_numberTaking 4 = .ok (.iand, 1) := by decide +kernel
theorem dX4_numberTaking_5 : decode cX4_numberTaking 5 = .ok (.ifCond .eq 5, 3) := by decide +kernel
theorem dX4_numberTaking_8 : decode cX4_numberTaking 8 = .ok (.iconst 0, 1) := by decide +kernel
theorem dX4_numberTaking_9 : decode cX4_numberTaking 9 = .ok (.ireturn, 1) := by decide +kernel
theorem dX4_numberTaking_10 : decode cX4_numberTaking 10 = .ok (.iconst 0, 1) := by decide +kernel
theorem dX4_numberTaking_11 : decode cX4_numberTaking 11 = .ok (.istore_n 3, 1) := by decide +kernel
theorem dX4_numberTaking_12 : decode cX4_numberTaking 12 = .ok (.iconst 0, 1) := by decide +kernel
theorem dX4_numberTaking_13 : decode cX4_numberTaking 13 = .ok (.istore 4, 2) := by decide +kernel
theorem dX4_numberTaking_15 : decode cX4_numberTaking 15 = .ok (.iload 4, 2) := by decide +kernel
theorem dX4_numberTaking_17 : decode cX4_numberTaking 17 = .ok (.aload_n 0, 1) := by decide +kernel
theorem dX4_numberTaking_18 : decode cX4_numberTaking 18 = .ok (.iload_n 2, 1) := by decide +kernel
theorem dX4_numberTaking_19 : decode cX4_numberTaking 19 = .ok (.invokevirtual 81, 3) := by decide +kernel
theorem dX4_numberTaking_22 : decode cX4_numberTaking 22 = .ok (.if_icmp .ge 61, 3) := by decide +kernel
theorem dX4_numberTaking_25 : decode cX4_numberTaking 25 = .ok (.iload_n 2, 1) := by decide +kernel
theorem dX4_numberTaking_26 : decode cX4_numberTaking 26 = .ok (.iload 4, 2) := by decide +kernel
theorem dX4_numberTaking_28 : decode cX4_numberTaking 28 = .ok (.invokestatic 85, 3) := by decide +kernel
theorem dX4_numberTaking_31 : decode cX4_numberTaking 31 = .ok (.ifCond .eq 46, 3) := by decide +kernel
theorem dX4_numberTaking_34 : decode cX4_numberTaking 34 = .ok (.aload_n 0, 1) := by decide +kernel
theorem dX4_numberTaking_35 : decode cX4_numberTaking 35 = .ok (.iload_n 2, 1) := by decide +kernel
theorem dX4_numberTaking_36 : decode cX4_numberTaking 36 = .ok (.iload 4, 2) := by decide +kernel
theorem dX4_numberTaking_38 : decode cX4_numberTaking 38 = .ok (.invokevirtual 141, 3) := by decide +kernel
theorem dX4_numberTaking_41 : decode cX4_numberTaking 41 = .ok (.iload_n 1, 1) := by decide +kernel
theorem dX4_numberTaking_42 : decode cX4_numberTaking 42 = .ok (.ishr, 1) := by decide +kernel
theorem dX4_numberTaking_43 : decode cX4_numberTaking 43 = .ok (.iconst 1, 1) := by decide +kernel
theorem dX4_numberTaking_44 : decode cX4_numberTaking 44 = .ok (.iand, 1) := by decide +kernel
theorem dX4_numberTaking_45 : decode cX4_numberTaking 45 = .ok (.ifCond .eq 32, 3) := by decide +kernel
theorem dX4_numberTaking_48 : decode cX4_numberTaking 48 = .ok (.iload_n 3, 1) := by decide +kernel
theorem dX4_numberTaking_49 : decode cX4_numberTaking 49 = .ok (.aload_n 0, 1) := by decide +kernel
theorem dX4_numberTaking_50 : decode cX4_numberTaking 50 = .ok (.getfield 37, 3) := by decide +kernel
theorem dX4_numberTaking_53 : decode cX4_numberTaking 53 = .ok (.iload_n 2, 1) := by decide +kernel
theorem dX4_numberTaking_54 : decode cX4_numberTaking 54 = .ok (.iload 4, 2) := by decide +kernel
theorem dX4_numberTaking_56 : decode cX4_numberTaking 56 = .ok (.invokestatic 89, 3) := by decide +kernel
theorem dX4_numberTaking_59 : decode cX4_numberTaking 59 = .ok (.iaload, 1) := by decide +kernel
theorem dX4_numberTaking_60 : decode cX4_numberTaking 60 = .ok (.aload_n 0, 1) := by decide +kernel
theorem dX4_numberTaking_61 : decode cX4_numberTaking 61 = .ok (.getfield 34, 3) := by decide +kernel
theorem dX4_numberTaking_64 : decode cX4_numberTaking 64 = .ok (.iload_n 2, 1) := by decide +kernel
theorem dX4_numberTaking_65 : decode cX4_numberTaking 65 = .ok (.iconst 1, 1) := by decide +kernel
theorem dX4_numberTaking_66 : decode cX4_numberTaking 66 = .ok (.iload_n 1, 1) := by decide +kernel
theorem dX4_numberTaking_67 : decode cX4_numberTaking 67 = .ok (.ishl, 1) := by decide +kernel
theorem dX4_numberTaking_68 : decode cX4_numberTaking 68 = .ok (.ior, 1) := by decide +kernel
theorem dX4_numberTaking_69 : decode cX4_numberTaking 69 = .ok (.iload_n 1, 1) := by decide +kernel
theorem dX4_numberTaking_70 : decode cX4_numberTaking 70 = .ok (.invokestatic 89, 3) := by decide +kernel
theorem dX4_numberTaking_73 : decode cX4_numberTaking 73 = .ok (.iaload, 1) := by decide +kernel
theorem dX4_numberTaking_74 : decode cX4_numberTaking 74 = .ok (.imul, 1) := by decide +kernel
theorem dX4_numberTaking_75 : decode cX4_numberTaking 75 = .ok (.iadd, 1) := by decide +kernel
theorem dX4_numberTaking_76 : decode cX4_numberTaking 76 = .ok (.istore_n 3, 1) := by decide +kernel
theorem dX4_numberTaking_77 : decode cX4_numberTaking 77 = .ok (.iinc 4 1, 3) := by decide +kernel
theorem dX4_numberTaking_80 : decode cX4_numberTaking 80 = .ok (.goto (-65), 3) := by decide +kernel
theorem dX4_numberTaking_83 : decode cX4_numberTaking 83 = .ok (.iload_n 3, 1) := by decide +kernel
theorem dX4_numberTaking_84 : decode cX4_numberTaking 84 = .ok (.ireturn, 1) := by decide +kernel
theorem dX4_fillComing_0 : decode cX4_fillComing 0 = .ok (.aload_n 0, 1) := by decide +kernel
theorem dX4_fillComing_1 : decode cX4_fillComing 1 = .ok (.invokevirtual 71, 3) := by decide +kernel
theorem dX4_fillComing_4 : decode cX4_fillComing 4 = .ok (.aload_n 0, 1) := by decide +kernel
theorem dX4_fillComing_5 : decode cX4_fillComing 5 = .ok (.getfield 37, 3) := by decide +kernel
theorem dX4_fillComing_8 : decode cX4_fillComing 8 = .ok (.iconst 0, 1) := by decide +kernel
theorem dX4_fillComing_9 : decode cX4_fillComing 9 = .ok (.aload_n 0, 1) := by decide +kernel
theorem dX4_fillComing_10 : decode cX4_fillComing 10 = .ok (.getfield 12, 3) := by decide +kernel
theorem dX4_fillComing_13 : decode cX4_fillComing 13 = .ok (.invokevirtual 77, 3) := by decide +kernel
theorem dX4_fillComing_16 : decode cX4_fillComing 16 = .ok (.iconst 1, 1) := by decide +kernel
theorem dX4_fillComing_17 : decode cX4_fillComing 17 = .ok (.iadd, 1) := by decide +kernel
theorem dX4_fillComing_18 : decode cX4_fillComing 18 = .ok (.iconst 0, 1) := by decide +kernel
theorem dX4_fillComing_19 : decode cX4_fillComing 19 = .ok (.invokestatic 89, 3) := by decide +kernel
theorem dX4_fillComing_22 : decode cX4_fillComing 22 = .ok (.iconst 0, 1) := by decide +kernel
theorem dX4_fillComing_23 : decode cX4_fillComing 23 = .ok (.invokestatic 156, 3) := by decide +kernel
theorem dX4_fillComing_26 : decode cX4_fillComing 26 = .ok (.aload_n 0, 1) := by decide +kernel
theorem dX4_fillComing_27 : decode cX4_fillComing 27 = .ok (.getfield 37, 3) := by decide +kernel
theorem dX4_fillComing_30 : decode cX4_fillComing 30 = .ok (.iconst 0, 1) := by decide +kernel
theorem dX4_fillComing_31 : decode cX4_fillComing 31 = .ok (.iconst 1, 1) := by decide +kernel
theorem dX4_fillComing_32 : decode cX4_fillComing 32 = .ok (.iastore, 1) := by decide +kernel
theorem dX4_fillComing_33 : decode cX4_fillComing 33 = .ok (.iconst 0, 1) := by decide +kernel
theorem dX4_fillComing_34 : decode cX4_fillComing 34 = .ok (.istore_n 1, 1) := by decide +kernel
theorem dX4_fillComing_35 : decode cX4_fillComing 35 = .ok (.iload_n 1, 1) := by decide +kernel
theorem dX4_fillComing_36 : decode cX4_fillComing 36 = .ok (.aload_n 0, 1) := by decide +kernel
theorem dX4_fillComing_37 : decode cX4_fillComing 37 = .ok (.getfield 12, 3) := by decide +kernel
theorem dX4_fillComing_40 : decode cX4_fillComing 40 = .ok (.invokevirtual 77, 3) := by decide +kernel
theorem dX4_fillComing_43 : decode cX4_fillComing 43 = .ok (.if_icmp .ge 53, 3) := by decide +kernel
theorem dX4_fillComing_46 : decode cX4_fillComing 46 = .ok (.iconst 0, 1) := by decide +kernel
theorem dX4_fillComing_47 : decode cX4_fillComing 47 = .ok (.istore_n 2, 1) := by decide +kernel
theorem dX4_fillComing_48 : decode cX4_fillComing 48 = .ok (.iload_n 2, 1) := by decide +kernel
theorem dX4_fillComing_49 : decode cX4_fillComing 49 = .ok (.aload_n 0, 1) := by decide +kernel
theorem dX4_fillComing_50 : decode cX4_fillComing 50 = .ok (.iload_n 1, 1) := by decide +kernel
theorem dX4_fillComing_51 : decode cX4_fillComing 51 = .ok (.invokevirtual 81, 3) := by decide +kernel
theorem dX4_fillComing_54 : decode cX4_fillComing 54 = .ok (.if_icmp .ge 36, 3) := by decide +kernel
theorem dX4_fillComing_57 : decode cX4_fillComing 57 = .ok (.iload_n 1, 1) := by decide +kernel
theorem dX4_fillComing_58 : decode cX4_fillComing 58 = .ok (.iload_n 2, 1) := by decide +kernel
theorem dX4_fillComing_59 : decode cX4_fillComing 59 = .ok (.invokestatic 85, 3) := by decide +kernel
theorem dX4_fillComing_62 : decode cX4_fillComing 62 = .ok (.ifCond .eq 22, 3) := by decide +kernel
theorem dX4_fillComing_65 : decode cX4_fillComing 65 = .ok (.aload_n 0, 1) := by decide +kernel
theorem dX4_fillComing_66 : decode cX4_fillComing 66 = .ok (.getfield 37, 3) := by decide +kernel
theorem dX4_fillComing_69 : decode cX4_fillComing 69 = .ok (.iload_n 1, 1) := by decide +kernel
theorem dX4_fillComing_70 : decode cX4_fillComing 70 = .ok (.iload_n 2, 1) := by decide +kernel
theorem dX4_fillComing_71 : decode cX4_fillComing 71 = .ok (.invokestatic 89, 3) := by decide +kernel
theorem dX4_fillComing_74 : decode cX4_fillComing 74 = .ok (.iaload, 1) := by decide +kernel
theorem dX4_fillComing_75 : decode cX4_fillComing 75 = .ok (.ifCond .le 9, 3) := by decide +kernel
theorem dX4_fillComing_78 : decode cX4_fillComing 78 = .ok (.aload_n 0, 1) := by decide +kernel
theorem dX4_fillComing_79 : decode cX4_fillComing 79 = .ok (.iload_n 1, 1) := by decide +kernel
theorem dX4_fillComing_80 : decode cX4_fillComing 80 = .ok (.iload_n 2, 1) := by decide +kernel
theorem dX4_fillComing_81 : decode cX4_fillComing 81 = .ok (.invokevirtual 159, 3) := by decide +kernel
theorem dX4_fillComing_84 : decode cX4_fillComing 84 = .ok (.iinc 2 1, 3) := by decide +kernel
theorem dX4_fillComing_87 : decode cX4_fillComing 87 = .ok (.goto (-39), 3) := by decide +kernel
theorem dX4_fillComing_90 : decode cX4_fillComing 90 = .ok (.iinc 1 1, 3) := by decide +kernel
theorem dX4_fillComing_93 : decode cX4_fillComing 93 = .ok (.goto (-58), 3) := by decide +kernel
theorem dX4_fillComing_96 : decode cX4_fillComing 96 = .ok (.return_, 1) := by decide +kernel
