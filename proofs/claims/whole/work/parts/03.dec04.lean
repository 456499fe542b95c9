theorem dX7_faultOf_0 : decode cX7_faultOf 0 = .ok (.aload_n 0, 1) := by decide +kernel
theorem dX7_faultOf_1 : decode cX7_faultOf 1 = .ok (.iconst 0, 1) := by decide +kernel
theorem dX7_faultOf_2 : decode cX7_faultOf 2 = .ok (.putfield 120, 3) := by decide +kernel
theorem dX7_faultOf_5 : decode cX7_faultOf 5 = .ok (.aload_n 0, 1) := by decide +kernel
theorem dX7_faultOf_6 : decode cX7_faultOf 6 = .ok (.iconst 0, 1) := by decide +kernel
theorem dX7_faultOf_7 : decode cX7_faultOf 7 = .ok (.putfield 129, 3) := by decide +kernel
theorem dX7_faultOf_10 : decode cX7_faultOf 10 = .ok (.aload_n 0, 1) := by decide +kernel
theorem dX7_faultOf_11 : decode cX7_faultOf 11 = .ok (.iconst 0, 1) := by decide +kernel
theorem dX7_faultOf_12 : decode cX7_faultOf 12 = .ok (.putfield 145, 3) := by decide +kernel
theorem dX7_faultOf_15 : decode cX7_faultOf 15 = .ok (.iconst 0, 1) := by decide +kernel
theorem dX7_faultOf_16 : decode cX7_faultOf 16 = .ok (.istore_n 2, 1) := by decide +kernel
theorem dX7_faultOf_17 : decode cX7_faultOf 17 = .ok (.iload_n 2, 1) := by decide +kernel
theorem dX7_faultOf_18 : decode cX7_faultOf 18 = .ok (.bipush 100, 2) := by decide +kernel
theorem dX7_faultOf_20 : decode cX7_faultOf 20 = .ok (.if_icmp .ge 16, 3) := by decide +kernel
theorem dX7_faultOf_23 : decode cX7_faultOf 23 = .ok (.aload_n 0, 1) := by decide +kernel
theorem dX7_faultOf_24 : decode cX7_faultOf 24 = .ok (.getfield 35, 3) := by decide +kernel
theorem dX7_faultOf_27 : decode cX7_faultOf 27 = .ok (.iload_n 2, 1) := by decide +kernel
theorem dX7_faultOf_28 : decode cX7_faultOf 28 = .ok (.iconst 0, 1) := by decide +kernel
theorem dX7_faultOf_29 : decode cX7_faultOf 29 = .ok (.iastore, 1) := by decide +kernel
theorem dX7_faultOf_30 : decode cX7_faultOf 30 = .ok (.iinc 2 1, 3) := by decide +kernel
theorem dX7_faultOf_33 : decode cX7_faultOf 33 = .ok (.goto (-16), 3) := by decide +kernel
theorem dX7_faultOf_36 : decode cX7_faultOf 36 = .ok (.aload_n 0, 1) := by decide +kernel
theorem dX7_faultOf_37 : decode cX7_faultOf 37 = .ok (.getfield 120, 3) := by decide +kernel
theorem dX7_faultOf_40 : decode cX7_faultOf 40 = .ok (.aload_n 0, 1) := by decide +kernel
theorem dX7_faultOf_41 : decode cX7_faultOf 41 = .ok (.getfield 22, 3) := by decide +kernel
theorem dX7_faultOf_44 : decode cX7_faultOf 44 = .ok (.iload_n 1, 1) := by decide +kernel
theorem dX7_faultOf_45 : decode cX7_faultOf 45 = .ok (.iaload, 1) := by decide +kernel
theorem dX7_faultOf_46 : decode cX7_faultOf 46 = .ok (.if_icmp .ge 61, 3) := by decide +kernel
theorem dX7_faultOf_49 : decode cX7_faultOf 49 = .ok (.aload_n 0, 1) := by decide +kernel
theorem dX7_faultOf_50 : decode cX7_faultOf 50 = .ok (.iload_n 1, 1) := by decide +kernel
theorem dX7_faultOf_51 : decode cX7_faultOf 51 = .ok (.aload_n 0, 1) := by decide +kernel
theorem dX7_faultOf_52 : decode cX7_faultOf 52 = .ok (.getfield 120, 3) := by decide +kernel
theorem dX7_faultOf_55 : decode cX7_faultOf 55 = .ok (.invokevirtual 123, 3) := by decide +kernel
theorem dX7_faultOf_58 : decode cX7_faultOf 58 = .ok (.bipush 32, 2) := by decide +kernel
theorem dX7_faultOf_60 : decode cX7_faultOf 60 = .ok (.if_icmp .ne 16, 3) := by decide +kernel
theorem dX7_faultOf_63 : decode cX7_faultOf 63 = .ok (.aload_n 0, 1) := by decide +kernel
theorem dX7_faultOf_64 : decode cX7_faultOf 64 = .ok (.dup, 1) := by decide +kernel
theorem dX7_faultOf_65 : decode cX7_faultOf 65 = .ok (.getfield 120, 3) := by decide +kernel
theorem dX7_faultOf_68 : decode cX7_faultOf 68 = .ok (.iconst 1, 1) := by decide +kernel
theorem dX7_faultOf_69 : decode cX7_faultOf 69 = .ok (.iadd, 1) := by decide +kernel
theorem dX7_faultOf_70 : decode cX7_faultOf 70 = .ok (.putfield 120, 3) := by decide +kernel
theorem dX7_faultOf_73 : decode cX7_faultOf 73 = .ok (.goto (-37), 3) := by decide +kernel
theorem dX7_faultOf_76 : decode cX7_faultOf 76 = .ok (.aload_n 0, 1) := by decide +kernel
theorem dX7_faultOf_77 : decode cX7_faultOf 77 = .ok (.getfield 129, 3) := by decide +kernel
theorem dX7_faultOf_80 : decode cX7_faultOf 80 = .ok (.ifCond .ne 14, 3) := by decide +kernel
theorem dX7_faultOf_83 : decode cX7_faultOf 83 = .ok (.aload_n 0, 1) := by decide +kernel
theorem dX7_faultOf_84 : decode cX7_faultOf 84 = .ok (.iload_n 1, 1) := by decide +kernel
theorem dX7_faultOf_85 : decode cX7_faultOf 85 = .ok (.invokevirtual 148, 3) := by decide +kernel
theorem dX7_faultOf_88 : decode cX7_faultOf 88 = .ok (.ifCond .eq 14, 3) := by decide +kernel
theorem dX7_faultOf_91 : decode cX7_faultOf 91 = .ok (.goto (-55), 3) := by decide +kernel
theorem dX7_faultOf_94 : decode cX7_faultOf 94 = .ok (.aload_n 0, 1) := by decide +kernel
theorem dX7_faultOf_95 : decode cX7_faultOf 95 = .ok (.iload_n 1, 1) := by decide +kernel
theorem dX7_faultOf_96 : decode cX7_faultOf 96 = .ok (.invokevirtual 151, 3) := by decide +kernel
theorem dX7_faultOf_99 : decode cX7_faultOf 99 = .ok (.ifCond .ne (-63), 3) := by decide +kernel
theorem dX7_faultOf_102 : decode cX7_faultOf 102 = .ok (.aload_n 0, 1) := by decide +kernel
theorem dX7_faultOf_103 : decode cX7_faultOf 103 = .ok (.getfield 120, 3) := by decide +kernel
theorem dX7_faultOf_106 : decode cX7_faultOf 106 = .ok (.ireturn, 1) := by decide +kernel
theorem dX7_faultOf_107 : decode cX7_faultOf 107 = .ok (.aload_n 0, 1) := by decide +kernel
theorem dX7_faultOf_108 : decode cX7_faultOf 108 = .ok (.getfield 129, 3) := by decide +kernel
theorem dX7_faultOf_111 : decode cX7_faultOf 111 = .ok (.ifCond .ne 12, 3) := by decide +kernel
theorem dX7_faultOf_114 : decode cX7_faultOf 114 = .ok (.aload_n 0, 1) := by decide +kernel
theorem dX7_faultOf_115 : decode cX7_faultOf 115 = .ok (.getfield 22, 3) := by decide +kernel
theorem dX7_faultOf_118 : decode cX7_faultOf 118 = .ok (.iload_n 1, 1) := by decide +kernel
theorem dX7_faultOf_119 : decode cX7_faultOf 119 = .ok (.iaload, 1) := by decide +kernel
theorem dX7_faultOf_120 : decode cX7_faultOf 120 = .ok (.goto 5, 3) := by decide +kernel
theorem dX7_faultOf_123 : decode cX7_faultOf 123 = .ok (.bipush (-9), 2) := by decide +kernel
theorem dX7_faultOf_125 : decode cX7_faultOf 125 = .ok (.ireturn, 1) := by decide +kernel
theorem dX7_fault_0 : decode cX7_fault 0 = .ok (.iload_n 1, 1) := by decide +kernel
theorem dX7_fault_1 : decode cX7_fault 1 = .ok (.invokestatic 117, 3) := by decide +kernel
theorem dX7_fault_4 : decode cX7_fault 4 = .ok (.ifCond .ne 5, 3) := by decide +kernel
theorem dX7_fault_7 : decode cX7_fault 7 = .ok (.iconst (-1), 1) := by decide +kernel
theorem dX7_fault_8 : decode cX7_fault 8 = .ok (.ireturn, 1) := by decide +kernel
theorem dX7_fault_9 : decode cX7_fault 9 = .ok (.aload_n 0, 1) := by decide +kernel
theorem dX7_fault_10 : decode cX7_fault 10 = .ok (.getfield 22, 3) := by decide +kernel
theorem dX7_fault_13 : decode cX7_fault 13 = .ok (.iload_n 1, 1) := by decide +kernel
theorem dX7_fault_14 : decode cX7_fault 14 = .ok (.iaload, 1) := by decide +kernel
theorem dX7_fault_15 : decode cX7_fault 15 = .ok (.ifCond .ge 11, 3) := by decide +kernel
theorem dX7_fault_18 : decode cX7_fault 18 = .ok (.aload_n 0, 1) := by decide +kernel
theorem dX7_fault_19 : decode cX7_fault 19 = .ok (.iconst 1, 1) := by decide +kernel
theorem dX7_fault_20 : decode cX7_fault 20 = .ok (.invokevirtual 106, 3) := by decide +kernel
theorem dX7_fault_23 : decode cX7_fault 23 = .ok (.goto 8, 3) := by decide +kernel
theorem dX7_fault_26 : decode cX7_fault 26 = .ok (.aload_n 0, 1) := by decide +kernel
theorem dX7_fault_27 : decode cX7_fault 27 = .ok (.iload_n 1, 1) := by decide +kernel
theorem dX7_fault_28 : decode cX7_fault 28 = .ok (.invokevirtual 154, 3) := by decide +kernel
theorem dX7_fault_31 : decode cX7_fault 31 = .ok (.ireturn, 1) := by decide +kernel
theorem dX7_world_0 : decode cX7_world 0 = .ok (.iload_n 1, 1) := by decide +kernel
theorem dX7_world_1 : decode cX7_world 1 = .ok (.invokestatic 117, 3) := by decide +kernel
theorem dX7_world_4 : decode cX7_world 4 = .ok (.ifCond .ne 5, 3) := by decide +kernel
theorem dX7_world_7 : decode cX7_world 7 = .ok (.iconst (-1), 1) := by decide +kernel
theorem dX7_world_8 : decode cX7_world 8 = .ok (.ireturn, 1) := by decide +kernel
theorem dX7_world_9 : decode cX7_world 9 = .ok (.aload_n 0, 1) := by decide +kernel
theorem dX7_world_10 : decode cX7_world 10 = .ok (.getfield 22, 3) := by decide +kernel
theorem dX7_world_13 : decode cX7_world 13 = .ok (.iload_n 1, 1) := by decide +kernel
theorem dX7_world_14 : decode cX7_world 14 = .ok (.iaload, 1) := by decide +kernel
theorem dX7_world_15 : decode cX7_world 15 = .ok (.ifCond .ge 9, 3) := by decide +kernel
theorem dX7_world_18 : decode cX7_world 18 = .ok (.aload_n 0, 1) := by decide +kernel
theorem dX7_world_19 : decode cX7_world 19 = .ok (.iconst 1, 1) := by decide +kernel
theorem dX7_world_20 : decode cX7_world 20 = .ok (.invokevirtual 106, 3) := by decide +kernel
theorem dX7_world_23 : decode cX7_world 23 = .ok (.ireturn, 1) := by decide +kernel
theorem dX7_world_24 : decode cX7_world 24 = .ok (.aload_n 0, 1) := by decide +kernel
theorem dX7_world_25 : decode cX7_world 25 = .ok (.iload_n 1, 1) := by decide +kernel
theorem dX7_world_26 : decode cX7_world 26 = .ok (.invokevirtual 154, 3) := by decide +kernel
theorem dX7_world_29 : decode cX7_world 29 = .ok (.bipush (-9), 2) := by decide +kernel
theorem dX7_world_31 : decode cX7_world 31 = .ok (.if_icmp .eq 6, 3) := by decide +kernel
theorem dX7_world_34 : decode cX7_world 34 = .ok (.bipush (-4), 2) := by decide +kernel
theorem dX7_world_36 : decode cX7_world 36 = .ok (.ireturn, 1) := by decide +kernel
theorem dX7_world_37 : decode cX7_world 37 = .ok (.aload_n 0, 1) := by decide +kernel
theorem dX7_world_38 : decode cX7_world 38 = .ok (.aload_n 0, 1) := by decide +kernel
theorem dX7_world_39 : decode cX7_world 39 = .ok (.getfield 129, 3) := by decide +kernel
theorem dX7_world_42 : decode cX7_world 42 = .ok (.putfield 157, 3) := by decide +kernel
theorem dX7_world_45 : decode cX7_world 45 = .ok (.aload_n 0, 1) := by decide +kernel
theorem dX7_world_46 : decode cX7_world 46 = .ok (.aload_n 0, 1) := by decide +kernel
theorem dX7_world_47 : decode cX7_world 47 = .ok (.getfield 145, 3) := by decide +kernel
theorem dX7_world_50 : decode cX7_world 50 = .ok (.putfield 160, 3) := by decide +kernel
theorem dX7_world_53 : decode cX7_world 53 = .ok (.iconst 0, 1) := by decide +kernel
theorem dX7_world_54 : decode cX7_world 54 = .ok (.istore_n 2, 1) := by decide +kernel
theorem dX7_world_55 : decode cX7_world 55 = .ok (.iload_n 2, 1) := by decide +kernel
theorem dX7_world_56 : decode cX7_world 56 = .ok (.bipush 100, 2) := by decide +kernel
theorem dX7_world_58 : decode cX7_world 58 = .ok (.if_icmp .ge 21, 3) := by decide +kernel
theorem dX7_world_61 : decode cX7_world 61 = .ok (.aload_n 0, 1) := by decide +kernel
theorem dX7_world_62 : decode cX7_world 62 = .ok (.getfield 29, 3) := by decide +kernel
theorem dX7_world_65 : decode cX7_world 65 = .ok (.iload_n 2, 1) := by decide +kernel
theorem dX7_world_66 : decode cX7_world 66 = .ok (.aload_n 0, 1) := by decide +kernel
theorem dX7_world_67 : decode cX7_world 67 = .ok (.getfield 35, 3) := by decide +kernel
theorem dX7_world_70 : decode cX7_world 70 = .ok (.iload_n 2, 1) := by decide +kernel
theorem dX7_world_71 : decode cX7_world 71 = .ok (.iaload, 1) := by decide +kernel
theorem dX7_world_72 : decode cX7_world 72 = .ok (.iastore, 1) := by decide +kernel
theorem dX7_world_73 : decode cX7_world 73 = .ok (.iinc 2 1, 3) := by decide +kernel
theorem dX7_world_76 : decode cX7_world 76 = .ok (.goto (-21), 3) := by decide +kernel
theorem dX7_world_79 : decode cX7_world 79 = .ok (.iconst 0, 1) := by decide +kernel
theorem dX7_world_80 : decode cX7_world 80 = .ok (.istore_n 2, 1) := by decide +kernel
theorem dX7_world_81 : decode cX7_world 81 = .ok (.iload_n 2, 1) := by decide +kernel
theorem dX7_world_82 : decode cX7_world 82 = .ok (.bipush 40, 2) := by decide +kernel
theorem dX7_world_84 : decode cX7_world 84 = .ok (.if_icmp .ge 21, 3) := by decide +kernel
theorem dX7_world_87 : decode cX7_world 87 = .ok (.aload_n 0, 1) := by decide +kernel
theorem dX7_world_88 : decode cX7_world 88 = .ok (.getfield 32, 3) := by decide +kernel
theorem dX7_world_91 : decode cX7_world 91 = .ok (.iload_n 2, 1) := by decide +kernel
theorem dX7_world_92 : decode cX7_world 92 = .ok (.aload_n 0, 1) := by decide +kernel
theorem dX7_world_93 : decode cX7_world 93 = .ok (.getfield 38, 3) := by decide +kernel
theorem dX7_world_96 : decode cX7_world 96 = .ok (.iload_n 2, 1) := by decide +kernel
theorem dX7_world_97 : decode cX7_world 97 = .ok (.iaload, 1) := by decide +kernel
theorem dX7_world_98 : decode cX7_world 98 = .ok (.iastore, 1) := by decide +kernel
theorem dX7_world_99 : decode cX7_world 99 = .ok (.iinc 2 1, 3) := by decide +kernel
theorem dX7_world_102 : decode cX7_world 102 = .ok (.goto (-21), 3) := by decide +kernel
theorem dX7_world_105 : decode cX7_world 105 = .ok (.aload_n 0, 1) := by decide +kernel
theorem dX7_world_106 : decode cX7_world 106 = .ok (.getfield 157, 3) := by decide +kernel
theorem dX7_world_109 : decode cX7_world 109 = .ok (.ireturn, 1) := by decide +kernel
theorem dX7_isThing_0 : decode cX7_isThing 0 = .ok (.iload_n 1, 1) := by decide +kernel
theorem dX7_isThing_1 : decode cX7_isThing 1 = .ok (.iconst 0, 1) := by decide +kernel
theorem dX7_isThing_2 : decode cX7_isThing 2 = .ok (.aload_n 0, 1) := by decide +kernel
theorem dX7_isThing_3 : decode cX7_isThing 3 = .ok (.getfield 157, 3) := by decide +kernel
theorem dX7_isThing_6 : decode cX7_isThing 6 = .ok (.iconst 1, 1) := by decide +kernel
theorem dX7_isThing_7 : decode cX7_isThing 7 = .ok (.isub, 1) := by decide +kernel
theorem dX7_isThing_8 : decode cX7_isThing 8 = .ok (.invokestatic 92, 3) := by decide +kernel
theorem dX7_isThing_11 : decode cX7_isThing 11 = .ok (.ireturn, 1) := by decide +kernel
theorem dX7_weight_0 : decode cX7_weight 0 = .ok (.aload_n 0, 1) := by decide +kernel
theorem dX7_weight_1 : decode cX7_weight 1 = .ok (.getfield 29, 3) := by decide +kernel
theorem dX7_weight_4 : decode cX7_weight 4 = .ok (.bipush 10, 2) := by decide +kernel
theorem dX7_weight_6 : decode cX7_weight 6 = .ok (.iload_n 1, 1) := by decide +kernel
theorem dX7_weight_7 : decode cX7_weight 7 = .ok (.imul, 1) := by decide +kernel
theorem dX7_weight_8 : decode cX7_weight 8 = .ok (.iload_n 2, 1) := by decide +kernel
theorem dX7_weight_9 : decode cX7_weight 9 = .ok (.iadd, 1) := by decide +kernel
theorem dX7_weight_10 : decode cX7_weight 10 = .ok (.iaload, 1) := by decide +kernel
theorem dX7_weight_11 : decode cX7_weight 11 = .ok (.ireturn, 1) := by decide +kernel
theorem dX7_layTie_0 : decode cX7_layTie 0 = .ok (.aload_n 0, 1) := by decide +kernel
theorem dX7_layTie_1 : decode cX7_layTie 1 = .ok (.getfield 29, 3) := by decide +kernel
theorem dX7_layTie_4 : decode cX7_layTie 4 = .ok (.bipush 10, 2) := by decide +kernel
theorem dX7_layTie_6 : decode cX7_layTie 6 = .ok (.iload_n 1, 1) := by decide +kernel
theorem dX7_layTie_7 : decode cX7_layTie 7 = .ok (.imul, 1) := by decide +kernel
theorem dX7_layTie_8 : decode cX7_layTie 8 = .ok (.iload_n 2, 1) := by decide +kernel
theorem dX7_layTie_9 : decode cX7_layTie 9 = .ok (.iadd, 1) := by decide +kernel
theorem dX7_layTie_10 : decode cX7_layTie 10 = .ok (.iload_n 3, 1) := by decide +kernel
theorem dX7_layTie_11 : decode cX7_layTie 11 = .ok (.iastore, 1) := by decide +kernel
theorem dX7_layTie_12 : decode cX7_layTie 12 = .ok (.aload_n 0, 1) := by decide +kernel
theorem dX7_layTie_13 : decode cX7_layTie 13 = .ok (.getfield 29, 3) := by decide +kernel
theorem dX7_layTie_16 : decode cX7_layTie 16 = .ok (.bipush 10, 2) := by decide +kernel
theorem dX7_layTie_18 : decode cX7_layTie 18 = .ok (.iload_n 2, 1) := by decide +kernel
theorem dX7_layTie_19 : decode cX7_layTie 19 = .ok (.imul, 1) := by decide +kernel
theorem dX7_layTie_20 : decode cX7_layTie 20 = .ok (.iload_n 1, 1) := by decide +kernel
theorem dX7_layTie_21 : decode cX7_layTie 21 = .ok (.iadd, 1) := by decide +kernel
theorem dX7_layTie_22 : decode cX7_layTie 22 = .ok (.iload_n 3, 1) := by decide +kernel
theorem dX7_layTie_23 : decode cX7_layTie 23 = .ok (.iastore, 1) := by decide +kernel
theorem dX7_layTie_24 : decode cX7_layTie 24 = .ok (.return_, 1) := by decide +kernel
theorem dX7_tie_0 : decode cX7_tie 0 = .ok (.aload_n 0, 1) := by decide +kernel
theorem dX7_tie_1 : decode cX7_tie 1 = .ok (.iload_n 1, 1) := by decide +kernel
theorem dX7_tie_2 : decode cX7_tie 2 = .ok (.invokevirtual 163, 3) := by decide +kernel
theorem dX7_tie_5 : decode cX7_tie 5 = .ok (.ifCond .eq 32, 3) := by decide +kernel
theorem dX7_tie_8 : decode cX7_tie 8 = .ok (.aload_n 0, 1) := by decide +kernel
theorem dX7_tie_9 : decode cX7_tie 9 = .ok (.iload_n 2, 1) := by decide +kernel
theorem dX7_tie_10 : decode cX7_tie 10 = .ok (.invokevirtual 163, 3) := by decide +kernel
theorem dX7_tie_13 : decode cX7_tie 13 = .ok (.ifCond .eq 24, 3) := by decide +kernel
theorem dX7_tie_16 : decode cX7_tie 16 = .ok (.iload_n 1, 1) := by decide +kernel
theorem dX7_tie_17 : decode cX7_tie 17 = .ok (.iload_n 2, 1) := by decide +kernel
theorem dX7_tie_18 : decode cX7_tie 18 = .ok (.if_icmp .eq 19, 3) := by decide +kernel
theorem dX7_tie_21 : decode cX7_tie 21 = .ok (.iload_n 3, 1) := by decide +kernel
theorem dX7_tie_22 : decode cX7_tie 22 = .ok (.bipush (-9), 2) := by decide +kernel
theorem dX7_tie_24 : decode cX7_tie 24 = .ok (.if_icmp .eq 15, 3) := by decide +kernel
theorem dX7_tie_27 : decode cX7_tie 27 = .ok (.iload_n 3, 1) := by decide +kernel
theorem dX7_tie_28 : decode cX7_tie 28 = .ok (.iconst 0, 1) := by decide +kernel
theorem dX7_tie_29 : decode cX7_tie 29 = .ok (.bipush 9, 2) := by decide +kernel
theorem dX7_tie_31 : decode cX7_tie 31 = .ok (.invokestatic 92, 3) := by decide +kernel
theorem dX7_tie_34 : decode cX7_tie 34 = .ok (.ifCond .ne 5, 3) := by decide +kernel
theorem dX7_tie_37 : decode cX7_tie 37 = .ok (.iconst (-1), 1) := by decide +kernel
theorem dX7_tie_38 : decode cX7_tie 38 = .ok (.ireturn, 1) := by decide +kernel
theorem dX7_tie_39 : decode cX7_tie 39 = .ok (.aload_n 0, 1) := by decide +kernel
theorem dX7_tie_40 : decode cX7_tie 40 = .ok (.iload_n 1, 1) := by decide +kernel
theorem dX7_tie_41 : decode cX7_tie 41 = .ok (.iload_n 2, 1) := by decide +kernel
theorem dX7_tie_42 : decode cX7_tie 42 = .ok (.invokevirtual 166, 3) := by decide +kernel
theorem dX7_tie_45 : decode cX7_tie 45 = .ok (.istore 4, 2) := by decide +kernel
theorem dX7_tie_47 : decode cX7_tie 47 = .ok (.aload_n 0, 1) := by decide +kernel
theorem dX7_tie_48 : decode cX7_tie 48 = .ok (.iload_n 1, 1) := by decide +kernel
theorem dX7_tie_49 : decode cX7_tie 49 = .ok (.iload_n 2, 1) := by decide +kernel
theorem dX7_tie_50 : decode cX7_tie 50 = .ok (.iload_n 3, 1) := by decide +kernel
theorem dX7_tie_51 : decode cX7_tie 51 = .ok (.bipush (-9), 2) := by decide +kernel
theorem dX7_tie_53 : decode cX7_tie 53 = .ok (.if_icmp .ne 8, 3) := by decide +kernel
theorem dX7_tie_56 : decode cX7_tie 56 = .ok (.iload 4, 2) := by decide +kernel
theorem dX7_tie_58 : decode cX7_tie 58 = .ok (.goto 4, 3) := by decide +kernel
theorem dX7_tie_61 : decode cX7_tie 61 = .ok (.iload_n 3, 1) := by decide +kernel
theorem dX7_tie_62 : decode cX7_tie 62 = .ok (.invokevirtual 169, 3) := by decide +kernel
theorem dX7_tie_65 : decode cX7_tie 65 = .ok (.iload 4, 2) := by decide +kernel
theorem dX7_tie_67 : decode cX7_tie 67 = .ok (.ireturn, 1) := by decide +kernel
theorem dX7_isRuleTold_0 : decode cX7_isRuleTold 0 = .ok (.iload_n 1, 1) := by decide +kernel
theorem dX7_isRuleTold_1 : decode cX7_isRuleTold 1 = .ok (.tableswitch 222 0 6 #[43, 45, 72, 99, 123, 147, 174], 43) := by decide +kernel
theorem dX7_isRuleTold_44 : decode cX7_isRuleTold 44 = .ok (.iconst 1, 1) := by decide +kernel
theorem dX7_isRuleTold_45 : decode cX7_isRuleTold 45 = .ok (.ireturn, 1) := by decide +kernel
theorem dX7_isRuleTold_46 : decode cX7_isRuleTold 46 = .ok (.aload_n 0, 1) := by decide +kernel
theorem dX7_isRuleTold_47 : decode cX7_isRuleTold 47 = .ok (.iload_n 2, 1) := by decide +kernel
theorem dX7_isRuleTold_48 : decode cX7_isRuleTold 48 = .ok (.invokevirtual 163, 3) := by decide +kernel
theorem dX7_isRuleTold_51 : decode cX7_isRuleTold 51 = .ok (.ifCond .eq 20, 3) := by decide +kernel
theorem dX7_isRuleTold_54 : decode cX7_isRuleTold 54 = .ok (.aload_n 0, 1) := by decide +kernel
theorem dX7_isRuleTold_55 : decode cX7_isRuleTold 55 = .ok (.iload_n 3, 1) := by decide +kernel
theorem dX7_isRuleTold_56 : decode cX7_isRuleTold 56 = .ok (.invokevirtual 163, 3) := by decide +kernel
theorem dX7_isRuleTold_59 : decode cX7_isRuleTold 59 = .ok (.ifCond .eq 12, 3) := by decide +kernel
theorem dX7_isRuleTold_62 : decode cX7_isRuleTold 62 = .ok (.iload_n 2, 1) := by decide +kernel
theorem dX7_isRuleTold_63 : decode cX7_isRuleTold 63 = .ok (.iload_n 3, 1) := by decide +kernel
theorem dX7_isRuleTold_64 : decode cX7_isRuleTold 64 = .ok (.if_icmp .eq 7, 3) := by decide +kernel
theorem dX7_isRuleTold_67 : decode cX7_isRuleTold 67 = .ok (.iconst 1, 1) := by decide +kernel
theorem dX7_isRuleTold_68 : decode cX7_isRuleTold 68 = .ok (.goto 4, 3) := by decide +kernel
theorem dX7_isRuleTold_71 : decode cX7_isRuleTold 71 = .ok (.iconst 0, 1) := by decide +kernel
theorem dX7_isRuleTold_72 : decode cX7_isRuleTold 72 = .ok (.ireturn, 1) := by decide +kernel
theorem dX7_isRuleTold_73 : decode cX7_isRuleTold 73 = .ok (.aload_n 0, 1) := by decide +kernel
theorem dX7_isRuleTold_74 : decode cX7_isRuleTold 74 = .ok (.iload_n 2, 1) := by decide +kernel
theorem dX7_isRuleTold_75 : decode cX7_isRuleTold 75 = .ok (.invokevirtual 163, 3) := by decide +kernel
theorem dX7_isRuleTold_78 : decode cX7_isRuleTold 78 = .ok (.ifCond .eq 20, 3) := by decide +kernel
theorem dX7_isRuleTold_81 : decode cX7_isRuleTold 81 = .ok (.aload_n 0, 1) := by decide +kernel
theorem dX7_isRuleTold_82 : decode cX7_isRuleTold 82 = .ok (.iload_n 3, 1) := by decide +kernel
theorem dX7_isRuleTold_83 : decode cX7_isRuleTold 83 = .ok (.invokevirtual 163, 3) := by decide +kernel
theorem dX7_isRuleTold_86 : decode cX7_isRuleTold 86 = .ok (.ifCond .eq 12, 3) := by decide +kernel
theorem dX7_isRuleTold_89 : decode cX7_isRuleTold 89 = .ok (.iload_n 2, 1) := by decide +kernel
theorem dX7_isRuleTold_90 : decode cX7_isRuleTold 90 = .ok (.iload_n 3, 1) := by decide +kernel
theorem dX7_isRuleTold_91 : decode cX7_isRuleTold 91 = .ok (.if_icmp .eq 7, 3) := by decide +kernel
theorem dX7_isRuleTold_94 : decode cX7_isRuleTold 94 = .ok (.iconst 1, 1) := by decide +kernel
theorem dX7_isRuleTold_95 : decode cX7_isRuleTold 95 = .ok (.goto 4, 3) := by decide +kernel
theorem dX7_isRuleTold_98 : decode cX7_isRuleTold 98 = .ok (.iconst 0, 1) := by decide +kernel
theorem dX7_isRuleTold_99 : decode cX7_isRuleTold 99 = .ok (.ireturn, 1) := by decide +kernel
theorem dX7_isRuleTold_100 : decode cX7_isRuleTold 100 = .ok (.aload_n 0, 1) := by decide +kernel
theorem dX7_isRuleTold_101 : decode cX7_isRuleTold 101 = .ok (.iload_n 2, 1) := by decide +kernel
theorem dX7_isRuleTold_102 : decode cX7_isRuleTold 102 = .ok (.invokevirtual 163, 3) := by decide +kernel
theorem dX7_isRuleTold_105 : decode cX7_isRuleTold 105 = .ok (.ifCond .eq 17, 3) := by decide +kernel
theorem dX7_isRuleTold_108 : decode cX7_isRuleTold 108 = .ok (.iload_n 3, 1) := by decide +kernel
theorem dX7_isRuleTold_109 : decode cX7_isRuleTold 109 = .ok (.iconst 0, 1) := by decide +kernel
theorem dX7_isRuleTold_110 : decode cX7_isRuleTold 110 = .ok (.bipush 9, 2) := by decide +kernel
theorem dX7_isRuleTold_112 : decode cX7_isRuleTold 112 = .ok (.invokestatic 92, 3) := by decide +kernel
theorem dX7_isRuleTold_115 : decode cX7_isRuleTold 115 = .ok (.ifCond .eq 7, 3) := by decide +kernel
theorem dX7_isRuleTold_118 : decode cX7_isRuleTold 118 = .ok (.iconst 1, 1) := by decide +kernel
theorem dX7_isRuleTold_119 : decode cX7_isRuleTold 119 = .ok (.goto 4, 3) := by decide +kernel
theorem dX7_isRuleTold_122 : decode cX7_isRuleTold 122 = .ok (.iconst 0, 1) := by decide +kernel
theorem dX7_isRuleTold_123 : decode cX7_isRuleTold 123 = .ok (.ireturn, 1) := by decide +kernel
theorem dX7_isRuleTold_124 : decode cX7_isRuleTold 124 = .ok (.aload_n 0, 1) := by decide +kernel
theorem dX7_isRuleTold_125 : decode cX7_isRuleTold 125 = .ok (.iload_n 2, 1) := by decide +kernel
theorem dX7_isRuleTold_126 : decode cX7_isRuleTold 126 = .ok (.invokevirtual 163, 3) := by decide +kernel
theorem dX7_isRuleTold_129 : decode cX7_isRuleTold 129 = .ok (.ifCond .eq 17, 3) := by decide +kernel
theorem dX7_isRuleTold_132 : decode cX7_isRuleTold 132 = .ok (.iload_n 3, 1) := by decide +kernel
theorem dX7_isRuleTold_133 : decode cX7_isRuleTold 133 = .ok (.iconst 0, 1) := by decide +kernel
theorem dX7_isRuleTold_134 : decode cX7_isRuleTold 134 = .ok (.bipush 9, 2) := by decide +kernel
theorem dX7_isRuleTold_136 : decode cX7_isRuleTold 136 = .ok (.invokestatic 92, 3) := by decide +kernel
theorem dX7_isRuleTold_139 : decode cX7_isRuleTold 139 = .ok (.ifCond .eq 7, 3) := by decide +kernel
theorem dX7_isRuleTold_142 : decode cX7_isRuleTold 142 = .ok (.iconst 1, 1) := by decide +kernel
theorem dX7_isRuleTold_143 : decode cX7_isRuleTold 143 = .ok (.goto 4, 3) := by decide +kernel
theorem dX7_isRuleTold_146 : decode cX7_isRuleTold 146 = .ok (.iconst 0, 1) := by decide +kernel
theorem dX7_isRuleTold_147 : decode cX7_isRuleTold 147 = .ok (.ireturn, 1) := by decide +kernel
theorem dX7_isRuleTold_148 : decode cX7_isRuleTold 148 = .ok (.aload_n 0, 1) := by decide +kernel
theorem dX7_isRuleTold_149 : decode cX7_isRuleTold 149 = .ok (.iload_n 2, 1) := by decide +kernel
theorem dX7_isRuleTold_150 : decode cX7_isRuleTold 150 = .ok (.invokevirtual 163, 3) := by decide +kernel
theorem dX7_isRuleTold_153 : decode cX7_isRuleTold 153 = .ok (.ifCond .eq 20, 3) := by decide +kernel
theorem dX7_isRuleTold_156 : decode cX7_isRuleTold 156 = .ok (.aload_n 0, 1) := by decide +kernel
theorem dX7_isRuleTold_157 : decode cX7_isRuleTold 157 = .ok (.iload_n 3, 1) := by decide +kernel
theorem dX7_isRuleTold_158 : decode cX7_isRuleTold 158 = .ok (.invokevirtual 163, 3) := by decide +kernel
theorem dX7_isRuleTold_161 : decode cX7_isRuleTold 161 = .ok (.ifCond .eq 12, 3) := by decide +kernel
theorem dX7_isRuleTold_164 : decode cX7_isRuleTold 164 = .ok (.iload_n 2, 1) := by decide +kernel
theorem dX7_isRuleTold_165 : decode cX7_isRuleTold 165 = .ok (.iload_n 3, 1) := by decide +kernel
theorem dX7_isRuleTold_166 : decode cX7_isRuleTold 166 = .ok (.if_icmp .eq 7, 3) := by decide +kernel
theorem dX7_isRuleTold_169 : decode cX7_isRuleTold 169 = .ok (.iconst 1, 1) := by decide +kernel
theorem dX7_isRuleTold_170 : decode cX7_isRuleTold 170 = .ok (.goto 4, 3) := by decide +kernel
theorem dX7_isRuleTold_173 : decode cX7_isRuleTold 173 = .ok (.iconst 0, 1) := by decide +kernel
theorem dX7_isRuleTold_174 : decode cX7_isRuleTold 174 = .ok (.ireturn, 1) := by decide +kernel
theorem dX7_isRuleTold_175 : decode cX7_isRuleTold 175 = .ok (.aload_n 0, 1) := by decide +kernel
theorem dX7_isRuleTold_176 : decode cX7_isRuleTold 176 = .ok (.iload_n 2, 1) := by decide +kernel
theorem dX7_isRuleTold_177 : decode cX7_isRuleTold 177 = .ok (.invokevirtual 163, 3) := by decide +kernel
theorem dX7_isRuleTold_180 : decode cX7_isRuleTold 180 = .ok (.ifCond .eq 41, 3) := by decide +kernel
theorem dX7_isRuleTold_183 : decode cX7_isRuleTold 183 = .ok (.aload_n 0, 1) := by decide +kernel
theorem dX7_isRuleTold_184 : decode cX7_isRuleTold 184 = .ok (.iload_n 3, 1) := by decide +kernel
theorem dX7_isRuleTold_185 : decode cX7_isRuleTold 185 = .ok (.invokevirtual 163, 3) := by decide +kernel
theorem dX7_isRuleTold_188 : decode cX7_isRuleTold 188 = .ok (.ifCond .eq 33, 3) := by decide +kernel
theorem dX7_isRuleTold_191 : decode cX7_isRuleTold 191 = .ok (.aload_n 0, 1) := by decide +kernel
theorem dX7_isRuleTold_192 : decode cX7_isRuleTold 192 = .ok (.iload 4, 2) := by decide +kernel
theorem dX7_isRuleTold_194 : decode cX7_isRuleTold 194 = .ok (.invokevirtual 163, 3) := by decide +kernel
theorem dX7_isRuleTold_197 : decode cX7_isRuleTold 197 = .ok (.ifCond .eq 24, 3) := by decide +kernel
theorem dX7_isRuleTold_200 : decode cX7_isRuleTold 200 = .ok (.iload_n 2, 1) := by decide +kernel
theorem dX7_isRuleTold_201 : decode cX7_isRuleTold 201 = .ok (.iload_n 3, 1) := by decide +kernel
theorem dX7_isRuleTold_202 : decode cX7_isRuleTold 202 = .ok (.if_icmp .eq 19, 3) := by decide +kernel
theorem dX7_isRuleTold_205 : decode cX7_isRuleTold 205 = .ok (.iload_n 2, 1) := by decide +kernel
theorem dX7_isRuleTold_206 : decode cX7_isRuleTold 206 = .ok (.iload 4, 2) := by decide +kernel
theorem dX7_isRuleTold_208 : decode cX7_isRuleTold 208 = .ok (.if_icmp .eq 13, 3) := by decide +kernel
theorem dX7_isRuleTold_211 : decode cX7_isRuleTold 211 = .ok (.iload_n 3, 1) := by decide +kernel
theorem dX7_isRuleTold_212 : decode cX7_isRuleTold 212 = .ok (.iload 4, 2) := by decide +kernel
theorem dX7_isRuleTold_214 : decode cX7_isRuleTold 214 = .ok (.if_icmp .eq 7, 3) := by decide +kernel
theorem dX7_isRuleTold_217 : decode cX7_isRuleTold 217 = .ok (.iconst 1, 1) := by decide +kernel
theorem dX7_isRuleTold_218 : decode cX7_isRuleTold 218 = .ok (.goto 4, 3) := by decide +kernel
theorem dX7_isRuleTold_221 : decode cX7_isRuleTold 221 = .ok (.iconst 0, 1) := by decide +kernel
theorem dX7_isRuleTold_222 : decode cX7_isRuleTold 222 = .ok (.ireturn, 1) := by decide +kernel
theorem dX7_isRuleTold_223 : decode cX7_isRuleTold 223 = .ok (.iconst 0, 1) := by decide +kernel
theorem dX7_isRuleTold_224 : decode cX7_isRuleTold 224 = .ok (.ireturn, 1) := by decide +kernel
theorem dX7_rule_0 : decode cX7_rule 0 = .ok (.aload_n 0, 1) := by decide +kernel
theorem dX7_rule_1 : decode cX7_rule 1 = .ok (.iload_n 1, 1) := by decide +kernel
theorem dX7_rule_2 : decode cX7_rule 2 = .ok (.iload_n 2, 1) := by decide +kernel
theorem dX7_rule_3 : decode cX7_rule 3 = .ok (.iload_n 3, 1) := by decide +kernel
theorem dX7_rule_4 : decode cX7_rule 4 = .ok (.iload 4, 2) := by decide +kernel
theorem dX7_rule_6 : decode cX7_rule 6 = .ok (.invokevirtual 173, 3) := by decide +kernel
theorem dX7_rule_9 : decode cX7_rule 9 = .ok (.ifCond .ne 5, 3) := by decide +kernel
theorem dX7_rule_12 : decode cX7_rule 12 = .ok (.iconst (-1), 1) := by decide +kernel
theorem dX7_rule_13 : decode cX7_rule 13 = .ok (.ireturn, 1) := by decide +kernel
theorem dX7_rule_14 : decode cX7_rule 14 = .ok (.aload_n 0, 1) := by decide +kernel
theorem dX7_rule_15 : decode cX7_rule 15 = .ok (.getfield 160, 3) := by decide +kernel
theorem dX7_rule_18 : decode cX7_rule 18 = .ok (.bipush 8, 2) := by decide +kernel
theorem dX7_rule_20 : decode cX7_rule 20 = .ok (.if_icmp .ne 6, 3) := by decide +kernel
theorem dX7_rule_23 : decode cX7_rule 23 = .ok (.bipush (-2), 2) := by decide +kernel
theorem dX7_rule_25 : decode cX7_rule 25 = .ok (.ireturn, 1) := by decide +kernel
theorem dX7_rule_26 : decode cX7_rule 26 = .ok (.iconst 5, 1) := by decide +kernel
theorem dX7_rule_27 : decode cX7_rule 27 = .ok (.aload_n 0, 1) := by decide +kernel
theorem dX7_rule_28 : decode cX7_rule 28 = .ok (.getfield 160, 3) := by decide +kernel
theorem dX7_rule_31 : decode cX7_rule 31 = .ok (.imul, 1) := by decide +kernel
theorem dX7_rule_32 : decode cX7_rule 32 = .ok (.istore 5, 2) := by decide +kernel
theorem dX7_rule_34 : decode cX7_rule 34 = .ok (.aload_n 0, 1) := by decide +kernel
theorem dX7_rule_35 : decode cX7_rule 35 = .ok (.getfield 32, 3) := by decide +kernel
theorem dX7_rule_38 : decode cX7_rule 38 = .ok (.iload 5, 2) := by decide +kernel
theorem dX7_rule_40 : decode cX7_rule 40 = .ok (.iload_n 1, 1) := by decide +kernel
theorem dX7_rule_41 : decode cX7_rule 41 = .ok (.iastore, 1) := by decide +kernel
theorem dX7_rule_42 : decode cX7_rule 42 = .ok (.aload_n 0, 1) := by decide +kernel
theorem dX7_rule_43 : decode cX7_rule 43 = .ok (.getfield 32, 3) := by decide +kernel
theorem dX7_rule_46 : decode cX7_rule 46 = .ok (.iload 5, 2) := by decide +kernel
theorem dX7_rule_48 : decode cX7_rule 48 = .ok (.iconst 1, 1) := by decide +kernel
theorem dX7_rule_49 : decode cX7_rule 49 = .ok (.iadd, 1) := by decide +kernel
theorem dX7_rule_50 : decode cX7_rule 50 = .ok (.iload_n 1, 1) := by decide +kernel
theorem dX7_rule_51 : decode cX7_rule 51 = .ok (.ifCond .ne 7, 3) := by decide +kernel
theorem dX7_rule_54 : decode cX7_rule 54 = .ok (.iconst 0, 1) := by decide +kernel
theorem dX7_rule_55 : decode cX7_rule 55 = .ok (.goto 4, 3) := by decide +kernel
theorem dX7_rule_58 : decode cX7_rule 58 = .ok (.iload_n 2, 1) := by decide +kernel
theorem dX7_rule_59 : decode cX7_rule 59 = .ok (.iastore, 1) := by decide +kernel
theorem dX7_rule_60 : decode cX7_rule 60 = .ok (.aload_n 0, 1) := by decide +kernel
theorem dX7_rule_61 : decode cX7_rule 61 = .ok (.getfield 32, 3) := by decide +kernel
theorem dX7_rule_64 : decode cX7_rule 64 = .ok (.iload 5, 2) := by decide +kernel
theorem dX7_rule_66 : decode cX7_rule 66 = .ok (.iconst 2, 1) := by decide +kernel
theorem dX7_rule_67 : decode cX7_rule 67 = .ok (.iadd, 1) := by decide +kernel
theorem dX7_rule_68 : decode cX7_rule 68 = .ok (.iload_n 1, 1) := by decide +kernel
theorem dX7_rule_69 : decode cX7_rule 69 = .ok (.ifCond .ne 7, 3) := by decide +kernel
theorem dX7_rule_72 : decode cX7_rule 72 = .ok (.iconst 0, 1) := by decide +kernel
theorem dX7_rule_73 : decode cX7_rule 73 = .ok (.goto 4, 3) := by decide +kernel
theorem dX7_rule_76 : decode cX7_rule 76 = .ok (.iload_n 3, 1) := by decide +kernel
theorem dX7_rule_77 : decode cX7_rule 77 = .ok (.iastore, 1) := by decide +kernel
theorem dX7_rule_78 : decode cX7_rule 78 = .ok (.aload_n 0, 1) := by decide +kernel
theorem dX7_rule_79 : decode cX7_rule 79 = .ok (.getfield 32, 3) := by decide +kernel
theorem dX7_rule_82 : decode cX7_rule 82 = .ok (.iload 5, 2) := by decide +kernel
theorem dX7_rule_84 : decode cX7_rule 84 = .ok (.iconst 3, 1) := by decide +kernel
theorem dX7_rule_85 : decode cX7_rule 85 = .ok (.iadd, 1) := by decide +kernel
theorem dX7_rule_86 : decode cX7_rule 86 = .ok (.iload_n 1, 1) := by decide +kernel
theorem dX7_rule_87 : decode cX7_rule 87 = .ok (.bipush 6, 2) := by decide +kernel
theorem dX7_rule_89 : decode cX7_rule 89 = .ok (.if_icmp .ne 8, 3) := by decide +kernel
theorem dX7_rule_92 : decode cX7_rule 92 = .ok (.iload 4, 2) := by decide +kernel
theorem dX7_rule_94 : decode cX7_rule 94 = .ok (.goto 4, 3) := by decide +kernel
theorem dX7_rule_97 : decode cX7_rule 97 = .ok (.iconst 0, 1) := by decide +kernel
theorem dX7_rule_98 : decode cX7_rule 98 = .ok (.iastore, 1) := by decide +kernel
theorem dX7_rule_99 : decode cX7_rule 99 = .ok (.aload_n 0, 1) := by decide +kernel
theorem dX7_rule_100 : decode cX7_rule 100 = .ok (.getfield 32, 3) := by decide +kernel
theorem dX7_rule_103 : decode cX7_rule 103 = .ok (.iload 5, 2) := by decide +kernel
theorem dX7_rule_105 : decode cX7_rule 105 = .ok (.iconst 4, 1) := by decide +kernel
theorem dX7_rule_106 : decode cX7_rule 106 = .ok (.iadd, 1) := by decide +kernel
theorem dX7_rule_107 : decode cX7_rule 107 = .ok (.iconst 0, 1) := by decide +kernel
theorem dX7_rule_108 : decode cX7_rule 108 = .ok (.iastore, 1) := by decide +kernel
theorem dX7_rule_109 : decode cX7_rule 109 = .ok (.aload_n 0, 1) := by decide +kernel
theorem dX7_rule_110 : decode cX7_rule 110 = .ok (.dup, 1) := by decide +kernel
theorem dX7_rule_111 : decode cX7_rule 111 = .ok (.getfield 160, 3) := by decide +kernel
theorem dX7_rule_114 : decode cX7_rule 114 = .ok (.iconst 1, 1) := by decide +kernel
theorem dX7_rule_115 : decode cX7_rule 115 = .ok (.iadd, 1) := by decide +kernel
theorem dX7_rule_116 : decode cX7_rule 116 = .ok (.putfield 160, 3) := by decide +kernel
theorem dX7_rule_119 : decode cX7_rule 119 = .ok (.aload_n 0, 1) := by decide +kernel
theorem dX7_rule_120 : decode cX7_rule 120 = .ok (.getfield 160, 3) := by decide +kernel
theorem dX7_rule_123 : decode cX7_rule 123 = .ok (.iconst 1, 1) := by decide +kernel
theorem dX7_rule_124 : decode cX7_rule 124 = .ok (.isub, 1) := by decide +kernel
theorem dX7_rule_125 : decode cX7_rule 125 = .ok (.ireturn, 1) := by decide +kernel
theorem dX7_isRule_0 : decode cX7_isRule 0 = .ok (.iload_n 1, 1) := by decide +kernel
theorem dX7_isRule_1 : decode cX7_isRule 1 = .ok (.iconst 0, 1) := by decide +kernel
theorem dX7_isRule_2 : decode cX7_isRule 2 = .ok (.aload_n 0, 1) := by decide +kernel
theorem dX7_isRule_3 : decode cX7_isRule 3 = .ok (.getfield 160, 3) := by decide +kernel
theorem dX7_isRule_6 : decode cX7_isRule 6 = .ok (.iconst 1, 1) := by decide +kernel
theorem dX7_isRule_7 : decode cX7_isRule 7 = .ok (.isub, 1) := by decide +kernel
theorem dX7_isRule_8 : decode cX7_isRule 8 = .ok (.invokestatic 92, 3) := by decide +kernel
theorem dX7_isRule_11 : decode cX7_isRule 11 = .ok (.ireturn, 1) := by decide +kernel
theorem dX7_ruleAt_0 : decode cX7_ruleAt 0 = .ok (.aload_n 0, 1) := by decide +kernel
theorem dX7_ruleAt_1 : decode cX7_ruleAt 1 = .ok (.getfield 32, 3) := by decide +kernel
theorem dX7_ruleAt_4 : decode cX7_ruleAt 4 = .ok (.iconst 5, 1) := by decide +kernel
theorem dX7_ruleAt_5 : decode cX7_ruleAt 5 = .ok (.iload_n 1, 1) := by decide +kernel
theorem dX7_ruleAt_6 : decode cX7_ruleAt 6 = .ok (.imul, 1) := by decide +kernel
theorem dX7_ruleAt_7 : decode cX7_ruleAt 7 = .ok (.iload_n 2, 1) := by decide +kernel
theorem dX7_ruleAt_8 : decode cX7_ruleAt 8 = .ok (.iadd, 1) := by decide +kernel
theorem dX7_ruleAt_9 : decode cX7_ruleAt 9 = .ok (.iaload, 1) := by decide +kernel
theorem dX7_ruleAt_10 : decode cX7_ruleAt 10 = .ok (.ireturn, 1) := by decide +kernel
theorem dX7_off_0 : decode cX7_off 0 = .ok (.aload_n 0, 1) := by decide +kernel
theorem dX7_off_1 : decode cX7_off 1 = .ok (.iload_n 1, 1) := by decide +kernel
theorem dX7_off_2 : decode cX7_off 2 = .ok (.invokevirtual 177, 3) := by decide +kernel
theorem dX7_off_5 : decode cX7_off 5 = .ok (.ifCond .eq 12, 3) := by decide +kernel
theorem dX7_off_8 : decode cX7_off 8 = .ok (.iload_n 2, 1) := by decide +kernel
theorem dX7_off_9 : decode cX7_off 9 = .ok (.iconst 0, 1) := by decide +kernel
theorem dX7_off_10 : decode cX7_off 10 = .ok (.iconst 1, 1) := by decide +kernel
theorem dX7_off_11 : decode cX7_off 11 = .ok (.invokestatic 92, 3) := by decide +kernel
theorem dX7_off_14 : decode cX7_off 14 = .ok (.ifCond .ne 5, 3) := by decide +kernel
theorem dX7_off_17 : decode cX7_off 17 = .ok (.iconst (-1), 1) := by decide +kernel
theorem dX7_off_18 : decode cX7_off 18 = .ok (.ireturn, 1) := by decide +kernel
theorem dX7_off_19 : decode cX7_off 19 = .ok (.aload_n 0, 1) := by decide +kernel
theorem dX7_off_20 : decode cX7_off 20 = .ok (.iload_n 1, 1) := by decide +kernel
theorem dX7_off_21 : decode cX7_off 21 = .ok (.iconst 4, 1) := by decide +kernel
theorem dX7_off_22 : decode cX7_off 22 = .ok (.invokevirtual 180, 3) := by decide +kernel
theorem dX7_off_25 : decode cX7_off 25 = .ok (.istore_n 3, 1) := by decide +kernel
theorem dX7_off_26 : decode cX7_off 26 = .ok (.aload_n 0, 1) := by decide +kernel
theorem dX7_off_27 : decode cX7_off 27 = .ok (.getfield 32, 3) := by decide +kernel
theorem dX7_off_30 : decode cX7_off 30 = .ok (.iconst 5, 1) := by decide +kernel
theorem dX7_off_31 : decode cX7_off 31 = .ok (.iload_n 1, 1) := by decide +kernel
theorem dX7_off_32 : decode cX7_off 32 = .ok (.imul, 1) := by decide +kernel
theorem dX7_off_33 : decode cX7_off 33 = .ok (.iconst 4, 1) := by decide +kernel
theorem dX7_off_34 : decode cX7_off 34 = .ok (.iadd, 1) := by decide +kernel
theorem dX7_off_35 : decode cX7_off 35 = .ok (.iload_n 2, 1) := by decide +kernel
theorem dX7_off_36 : decode cX7_off 36 = .ok (.iastore, 1) := by decide +kernel
theorem dX7_off_37 : decode cX7_off 37 = .ok (.iload_n 3, 1) := by decide +kernel
theorem dX7_off_38 : decode cX7_off 38 = .ok (.ireturn, 1) := by decide +kernel
theorem dX7_back_0 : decode cX7_back 0 = .ok (.iload_n 1, 1) := by decide +kernel
theorem dX7_back_1 : decode cX7_back 1 = .ok (.iconst 0, 1) := by decide +kernel
theorem dX7_back_2 : decode cX7_back 2 = .ok (.aload_n 0, 1) := by decide +kernel
theorem dX7_back_3 : decode cX7_back 3 = .ok (.getfield 160, 3) := by decide +kernel
theorem dX7_back_6 : decode cX7_back 6 = .ok (.invokestatic 92, 3) := by decide +kernel
theorem dX7_back_9 : decode cX7_back 9 = .ok (.ifCond .ne 5, 3) := by decide +kernel
theorem dX7_back_12 : decode cX7_back 12 = .ok (.iconst (-1), 1) := by decide +kernel
theorem dX7_back_13 : decode cX7_back 13 = .ok (.ireturn, 1) := by decide +kernel
theorem dX7_back_14 : decode cX7_back 14 = .ok (.aload_n 0, 1) := by decide +kernel
theorem dX7_back_15 : decode cX7_back 15 = .ok (.getfield 160, 3) := by decide +kernel
theorem dX7_back_18 : decode cX7_back 18 = .ok (.iload_n 1, 1) := by decide +kernel
theorem dX7_back_19 : decode cX7_back 19 = .ok (.isub, 1) := by decide +kernel
theorem dX7_back_20 : decode cX7_back 20 = .ok (.istore_n 2, 1) := by decide +kernel
theorem dX7_back_21 : decode cX7_back 21 = .ok (.aload_n 0, 1) := by decide +kernel
theorem dX7_back_22 : decode cX7_back 22 = .ok (.iload_n 1, 1) := by decide +kernel
theorem dX7_back_23 : decode cX7_back 23 = .ok (.putfield 160, 3) := by decide +kernel
theorem dX7_back_26 : decode cX7_back 26 = .ok (.iload_n 2, 1) := by decide +kernel
theorem dX7_back_27 : decode cX7_back 27 = .ok (.ireturn, 1) := by decide +kernel
theorem dX7_told_0 : decode cX7_told 0 = .ok (.aload_n 0, 1) := by decide +kernel
theorem dX7_told_1 : decode cX7_told 1 = .ok (.iload_n 1, 1) := by decide +kernel
theorem dX7_told_2 : decode cX7_told 2 = .ok (.invokevirtual 177, 3) := by decide +kernel
theorem dX7_told_5 : decode cX7_told 5 = .ok (.ifCond .eq 26, 3) := by decide +kernel
theorem dX7_told_8 : decode cX7_told 8 = .ok (.iload_n 2, 1) := by decide +kernel
theorem dX7_told_9 : decode cX7_told 9 = .ok (.iconst 0, 1) := by decide +kernel
theorem dX7_told_10 : decode cX7_told 10 = .ok (.iconst 4, 1) := by decide +kernel
theorem dX7_told_11 : decode cX7_told 11 = .ok (.invokestatic 92, 3) := by decide +kernel
theorem dX7_told_14 : decode cX7_told 14 = .ok (.ifCond .eq 17, 3) := by decide +kernel
theorem dX7_told_17 : decode cX7_told 17 = .ok (.aload_n 0, 1) := by decide +kernel
theorem dX7_told_18 : decode cX7_told 18 = .ok (.aload_n 0, 1) := by decide +kernel
theorem dX7_told_19 : decode cX7_told 19 = .ok (.iload_n 1, 1) := by decide +kernel
theorem dX7_told_20 : decode cX7_told 20 = .ok (.iload_n 2, 1) := by decide +kernel
theorem dX7_told_21 : decode cX7_told 21 = .ok (.invokevirtual 180, 3) := by decide +kernel
theorem dX7_told_24 : decode cX7_told 24 = .ok (.iconst 1, 1) := by decide +kernel
theorem dX7_told_25 : decode cX7_told 25 = .ok (.invokevirtual 114, 3) := by decide +kernel
theorem dX7_told_28 : decode cX7_told 28 = .ok (.goto 4, 3) := by decide +kernel
theorem dX7_told_31 : decode cX7_told 31 = .ok (.iconst (-1), 1) := by decide +kernel
theorem dX7_told_32 : decode cX7_told 32 = .ok (.ireturn, 1) := by decide +kernel
theorem dX7_mark_0 : decode cX7_mark 0 = .ok (.aload_n 0, 1) := by decide +kernel
theorem dX7_mark_1 : decode cX7_mark 1 = .ok (.iload_n 1, 1) := by decide +kernel
theorem dX7_mark_2 : decode cX7_mark 2 = .ok (.invokevirtual 177, 3) := by decide +kernel
theorem dX7_mark_5 : decode cX7_mark 5 = .ok (.ifCond .eq 13, 3) := by decide +kernel
theorem dX7_mark_8 : decode cX7_mark 8 = .ok (.iload_n 2, 1) := by decide +kernel
theorem dX7_mark_9 : decode cX7_mark 9 = .ok (.iconst 1, 1) := by decide +kernel
theorem dX7_mark_10 : decode cX7_mark 10 = .ok (.bipush 6, 2) := by decide +kernel
theorem dX7_mark_12 : decode cX7_mark 12 = .ok (.invokestatic 92, 3) := by decide +kernel
theorem dX7_mark_15 : decode cX7_mark 15 = .ok (.ifCond .ne 5, 3) := by decide +kernel
theorem dX7_mark_18 : decode cX7_mark 18 = .ok (.iconst (-1), 1) := by decide +kernel
theorem dX7_mark_19 : decode cX7_mark 19 = .ok (.ireturn, 1) := by decide +kernel
theorem dX7_mark_20 : decode cX7_mark 20 = .ok (.aload_n 0, 1) := by decide +kernel
theorem dX7_mark_21 : decode cX7_mark 21 = .ok (.iload_n 1, 1) := by decide +kernel
theorem dX7_mark_22 : decode cX7_mark 22 = .ok (.iconst 0, 1) := by decide +kernel
theorem dX7_mark_23 : decode cX7_mark 23 = .ok (.invokevirtual 180, 3) := by decide +kernel
theorem dX7_mark_26 : decode cX7_mark 26 = .ok (.istore_n 3, 1) := by decide +kernel
theorem dX7_mark_27 : decode cX7_mark 27 = .ok (.aload_n 0, 1) := by decide +kernel
theorem dX7_mark_28 : decode cX7_mark 28 = .ok (.iload_n 1, 1) := by decide +kernel
theorem dX7_mark_29 : decode cX7_mark 29 = .ok (.iconst 1, 1) := by decide +kernel
theorem dX7_mark_30 : decode cX7_mark 30 = .ok (.invokevirtual 180, 3) := by decide +kernel
theorem dX7_mark_33 : decode cX7_mark 33 = .ok (.istore 4, 2) := by decide +kernel
theorem dX7_mark_35 : decode cX7_mark 35 = .ok (.aload_n 0, 1) := by decide +kernel
theorem dX7_mark_36 : decode cX7_mark 36 = .ok (.iload_n 1, 1) := by decide +kernel
theorem dX7_mark_37 : decode cX7_mark 37 = .ok (.iconst 2, 1) := by decide +kernel
theorem dX7_mark_38 : decode cX7_mark 38 = .ok (.invokevirtual 180, 3) := by decide +kernel
theorem dX7_mark_41 : decode cX7_mark 41 = .ok (.istore 5, 2) := by decide +kernel
theorem dX7_mark_43 : decode cX7_mark 43 = .ok (.aload_n 0, 1) := by decide +kernel
theorem dX7_mark_44 : decode cX7_mark 44 = .ok (.iload_n 1, 1) := by decide +kernel
theorem dX7_mark_45 : decode cX7_mark 45 = .ok (.iconst 3, 1) := by decide +kernel
theorem dX7_mark_46 : decode cX7_mark 46 = .ok (.invokevirtual 180, 3) := by decide +kernel
theorem dX7_mark_49 : decode cX7_mark 49 = .ok (.istore 6, 2) := by decide +kernel
theorem dX7_mark_51 : decode cX7_mark 51 = .ok (.iload_n 3, 1) := by decide +kernel
theorem dX7_mark_52 : decode cX7_mark 52 = .ok (.iload_n 2, 1) := by decide +kernel
theorem dX7_mark_53 : decode cX7_mark 53 = .ok (.if_icmp .eq 30, 3) := by decide +kernel
theorem dX7_mark_56 : decode cX7_mark 56 = .ok (.iload_n 2, 1) := by decide +kernel
theorem dX7_mark_57 : decode cX7_mark 57 = .ok (.iconst 1, 1) := by decide +kernel
theorem dX7_mark_58 : decode cX7_mark 58 = .ok (.if_icmp .ne 8, 3) := by decide +kernel
theorem dX7_mark_61 : decode cX7_mark 61 = .ok (.iload_n 3, 1) := by decide +kernel
theorem dX7_mark_62 : decode cX7_mark 62 = .ok (.iconst 2, 1) := by decide +kernel
theorem dX7_mark_63 : decode cX7_mark 63 = .ok (.if_icmp .eq 20, 3) := by decide +kernel
theorem dX7_mark_66 : decode cX7_mark 66 = .ok (.iload_n 2, 1) := by decide +kernel
theorem dX7_mark_67 : decode cX7_mark 67 = .ok (.iconst 5, 1) := by decide +kernel
theorem dX7_mark_68 : decode cX7_mark 68 = .ok (.if_icmp .ne 9, 3) := by decide +kernel
theorem dX7_mark_71 : decode cX7_mark 71 = .ok (.iload_n 3, 1) := by decide +kernel
theorem dX7_mark_72 : decode cX7_mark 72 = .ok (.bipush 6, 2) := by decide +kernel
theorem dX7_mark_74 : decode cX7_mark 74 = .ok (.if_icmp .eq 9, 3) := by decide +kernel
theorem dX7_mark_77 : decode cX7_mark 77 = .ok (.aload_n 0, 1) := by decide +kernel
theorem dX7_mark_78 : decode cX7_mark 78 = .ok (.iconst 3, 1) := by decide +kernel
theorem dX7_mark_79 : decode cX7_mark 79 = .ok (.invokevirtual 106, 3) := by decide +kernel
theorem dX7_mark_82 : decode cX7_mark 82 = .ok (.ireturn, 1) := by decide +kernel
theorem dX7_mark_83 : decode cX7_mark 83 = .ok (.iload_n 2, 1) := by decide +kernel
theorem dX7_mark_84 : decode cX7_mark 84 = .ok (.tableswitch 81 1 5 #[36, 39, 42, 45, 57], 36) := by decide +kernel
theorem dX7_mark_120 : decode cX7_mark 120 = .ok (.iload 4, 2) := by decide +kernel
theorem dX7_mark_122 : decode cX7_mark 122 = .ok (.ireturn, 1) := by decide +kernel
theorem dX7_mark_123 : decode cX7_mark 123 = .ok (.iload 5, 2) := by decide +kernel
theorem dX7_mark_125 : decode cX7_mark 125 = .ok (.ireturn, 1) := by decide +kernel
theorem dX7_mark_126 : decode cX7_mark 126 = .ok (.iload 5, 2) := by decide +kernel
theorem dX7_mark_128 : decode cX7_mark 128 = .ok (.ireturn, 1) := by decide +kernel
theorem dX7_mark_129 : decode cX7_mark 129 = .ok (.iload 5, 2) := by decide +kernel
theorem dX7_mark_131 : decode cX7_mark 131 = .ok (.aload_n 0, 1) := by decide +kernel
theorem dX7_mark_132 : decode cX7_mark 132 = .ok (.getfield 157, 3) := by decide +kernel
theorem dX7_mark_135 : decode cX7_mark 135 = .ok (.iconst 1, 1) := by decide +kernel
theorem dX7_mark_136 : decode cX7_mark 136 = .ok (.isub, 1) := by decide +kernel
theorem dX7_mark_137 : decode cX7_mark 137 = .ok (.invokestatic 183, 3) := by decide +kernel
theorem dX7_mark_140 : decode cX7_mark 140 = .ok (.ireturn, 1) := by decide +kernel
theorem dX7_mark_141 : decode cX7_mark 141 = .ok (.iload_n 3, 1) := by decide +kernel
theorem dX7_mark_142 : decode cX7_mark 142 = .ok (.bipush 6, 2) := by decide +kernel
theorem dX7_mark_144 : decode cX7_mark 144 = .ok (.if_icmp .ne 13, 3) := by decide +kernel
theorem dX7_mark_147 : decode cX7_mark 147 = .ok (.iload 5, 2) := by decide +kernel
theorem dX7_mark_149 : decode cX7_mark 149 = .ok (.iload 6, 2) := by decide +kernel
theorem dX7_mark_151 : decode cX7_mark 151 = .ok (.invokestatic 183, 3) := by decide +kernel
theorem dX7_mark_154 : decode cX7_mark 154 = .ok (.goto 10, 3) := by decide +kernel
theorem dX7_mark_157 : decode cX7_mark 157 = .ok (.iload 4, 2) := by decide +kernel
theorem dX7_mark_159 : decode cX7_mark 159 = .ok (.iload 5, 2) := by decide +kernel
theorem dX7_mark_161 : decode cX7_mark 161 = .ok (.invokestatic 183, 3) := by decide +kernel
theorem dX7_mark_164 : decode cX7_mark 164 = .ok (.ireturn, 1) := by decide +kernel
theorem dX7_mark_165 : decode cX7_mark 165 = .ok (.iload 4, 2) := by decide +kernel
theorem dX7_mark_167 : decode cX7_mark 167 = .ok (.ireturn, 1) := by decide +kernel
theorem dX7_layPlaces_0 : decode cX7_layPlaces 0 = .ok (.iconst 0, 1) := by decide +kernel
theorem dX7_layPlaces_1 : decode cX7_layPlaces 1 = .ok (.istore_n 1, 1) := by decide +kernel
theorem dX7_layPlaces_2 : decode cX7_layPlaces 2 = .ok (.iload_n 1, 1) := by decide +kernel
theorem dX7_layPlaces_3 : decode cX7_layPlaces 3 = .ok (.aload_n 0, 1) := by decide +kernel
theorem dX7_layPlaces_4 : decode cX7_layPlaces 4 = .ok (.getfield 157, 3) := by decide +kernel
theorem dX7_layPlaces_7 : decode cX7_layPlaces 7 = .ok (.if_icmp .ge 21, 3) := by decide +kernel
theorem dX7_layPlaces_10 : decode cX7_layPlaces 10 = .ok (.aload_n 0, 1) := by decide +kernel
theorem dX7_layPlaces_11 : decode cX7_layPlaces 11 = .ok (.getfield 44, 3) := by decide +kernel
theorem dX7_layPlaces_14 : decode cX7_layPlaces 14 = .ok (.aload_n 0, 1) := by decide +kernel
theorem dX7_layPlaces_15 : decode cX7_layPlaces 15 = .ok (.getfield 41, 3) := by decide +kernel
theorem dX7_layPlaces_18 : decode cX7_layPlaces 18 = .ok (.iload_n 1, 1) := by decide +kernel
theorem dX7_layPlaces_19 : decode cX7_layPlaces 19 = .ok (.iaload, 1) := by decide +kernel
theorem dX7_layPlaces_20 : decode cX7_layPlaces 20 = .ok (.iload_n 1, 1) := by decide +kernel
theorem dX7_layPlaces_21 : decode cX7_layPlaces 21 = .ok (.iastore, 1) := by decide +kernel
theorem dX7_layPlaces_22 : decode cX7_layPlaces 22 = .ok (.iinc 1 1, 3) := by decide +kernel
theorem dX7_layPlaces_25 : decode cX7_layPlaces 25 = .ok (.goto (-23), 3) := by decide +kernel
theorem dX7_layPlaces_28 : decode cX7_layPlaces 28 = .ok (.return_, 1) := by decide +kernel
theorem dX7_needOrder_0 : decode cX7_needOrder 0 = .ok (.aload_n 0, 1) := by decide +kernel
theorem dX7_needOrder_1 : decode cX7_needOrder 1 = .ok (.getfield 13, 3) := by decide +kernel
theorem dX7_needOrder_4 : decode cX7_needOrder 4 = .ok (.iload_n 1, 1) := by decide +kernel
theorem dX7_needOrder_5 : decode cX7_needOrder 5 = .ok (.iaload, 1) := by decide +kernel
theorem dX7_needOrder_6 : decode cX7_needOrder 6 = .ok (.ifCond .ge 9, 3) := by decide +kernel
theorem dX7_needOrder_9 : decode cX7_needOrder 9 = .ok (.aload_n 0, 1) := by decide +kernel
theorem dX7_needOrder_10 : decode cX7_needOrder 10 = .ok (.iconst 1, 1) := by decide +kernel
theorem dX7_needOrder_11 : decode cX7_needOrder 11 = .ok (.invokevirtual 106, 3) := by decide +kernel
theorem dX7_needOrder_14 : decode cX7_needOrder 14 = .ok (.ireturn, 1) := by decide +kernel
theorem dX7_needOrder_15 : decode cX7_needOrder 15 = .ok (.aload_n 0, 1) := by decide +kernel
theorem dX7_needOrder_16 : decode cX7_needOrder 16 = .ok (.getfield 13, 3) := by decide +kernel
theorem dX7_needOrder_19 : decode cX7_needOrder 19 = .ok (.iload_n 1, 1) := by decide +kernel
theorem dX7_needOrder_20 : decode cX7_needOrder 20 = .ok (.iaload, 1) := by decide +kernel
theorem dX7_needOrder_21 : decode cX7_needOrder 21 = .ok (.aload_n 0, 1) := by decide +kernel
theorem dX7_needOrder_22 : decode cX7_needOrder 22 = .ok (.getfield 157, 3) := by decide +kernel
theorem dX7_needOrder_25 : decode cX7_needOrder 25 = .ok (.if_icmp .eq 9, 3) := by decide +kernel
theorem dX7_needOrder_28 : decode cX7_needOrder 28 = .ok (.aload_n 0, 1) := by decide +kernel
theorem dX7_needOrder_29 : decode cX7_needOrder 29 = .ok (.iconst 5, 1) := by decide +kernel
theorem dX7_needOrder_30 : decode cX7_needOrder 30 = .ok (.invokevirtual 106, 3) := by decide +kernel
theorem dX7_needOrder_33 : decode cX7_needOrder 33 = .ok (.ireturn, 1) := by decide +kernel
theorem dX7_needOrder_34 : decode cX7_needOrder 34 = .ok (.iconst 0, 1) := by decide +kernel
theorem dX7_needOrder_35 : decode cX7_needOrder 35 = .ok (.istore_n 2, 1) := by decide +kernel
theorem dX7_needOrder_36 : decode cX7_needOrder 36 = .ok (.iconst 1, 1) := by decide +kernel
theorem dX7_needOrder_37 : decode cX7_needOrder 37 = .ok (.istore_n 3, 1) := by decide +kernel
theorem dX7_needOrder_38 : decode cX7_needOrder 38 = .ok (.iconst 0, 1) := by decide +kernel
theorem dX7_needOrder_39 : decode cX7_needOrder 39 = .ok (.istore 4, 2) := by decide +kernel
theorem dX7_needOrder_41 : decode cX7_needOrder 41 = .ok (.iload 4, 2) := by decide +kernel
theorem dX7_needOrder_43 : decode cX7_needOrder 43 = .ok (.aload_n 0, 1) := by decide +kernel
theorem dX7_needOrder_44 : decode cX7_needOrder 44 = .ok (.getfield 157, 3) := by decide +kernel
theorem dX7_needOrder_47 : decode cX7_needOrder 47 = .ok (.if_icmp .ge 61, 3) := by decide +kernel
theorem dX7_needOrder_50 : decode cX7_needOrder 50 = .ok (.aload_n 0, 1) := by decide +kernel
theorem dX7_needOrder_51 : decode cX7_needOrder 51 = .ok (.iload_n 1, 1) := by decide +kernel
theorem dX7_needOrder_52 : decode cX7_needOrder 52 = .ok (.iload 4, 2) := by decide +kernel
theorem dX7_needOrder_54 : decode cX7_needOrder 54 = .ok (.invokevirtual 110, 3) := by decide +kernel
theorem dX7_needOrder_57 : decode cX7_needOrder 57 = .ok (.istore 5, 2) := by decide +kernel
theorem dX7_needOrder_59 : decode cX7_needOrder 59 = .ok (.iload_n 3, 1) := by decide +kernel
theorem dX7_needOrder_60 : decode cX7_needOrder 60 = .ok (.ifCond .eq 25, 3) := by decide +kernel
theorem dX7_needOrder_63 : decode cX7_needOrder 63 = .ok (.aload_n 0, 1) := by decide +kernel
theorem dX7_needOrder_64 : decode cX7_needOrder 64 = .ok (.iload 5, 2) := by decide +kernel
theorem dX7_needOrder_66 : decode cX7_needOrder 66 = .ok (.invokevirtual 163, 3) := by decide +kernel
theorem dX7_needOrder_69 : decode cX7_needOrder 69 = .ok (.ifCond .eq 16, 3) := by decide +kernel
theorem dX7_needOrder_72 : decode cX7_needOrder 72 = .ok (.iload_n 2, 1) := by decide +kernel
theorem dX7_needOrder_73 : decode cX7_needOrder 73 = .ok (.iload 5, 2) := by decide +kernel
theorem dX7_needOrder_75 : decode cX7_needOrder 75 = .ok (.invokestatic 186, 3) := by decide +kernel
theorem dX7_needOrder_78 : decode cX7_needOrder 78 = .ok (.ifCond .ne 7, 3) := by decide +kernel
theorem dX7_needOrder_81 : decode cX7_needOrder 81 = .ok (.iconst 1, 1) := by decide +kernel
theorem dX7_needOrder_82 : decode cX7_needOrder 82 = .ok (.goto 4, 3) := by decide +kernel
theorem dX7_needOrder_85 : decode cX7_needOrder 85 = .ok (.iconst 0, 1) := by decide +kernel
theorem dX7_needOrder_86 : decode cX7_needOrder 86 = .ok (.istore_n 3, 1) := by decide +kernel
theorem dX7_needOrder_87 : decode cX7_needOrder 87 = .ok (.iload_n 2, 1) := by decide +kernel
theorem dX7_needOrder_88 : decode cX7_needOrder 88 = .ok (.iload_n 3, 1) := by decide +kernel
theorem dX7_needOrder_89 : decode cX7_needOrder 89 = .ok (.ifCond .eq 10, 3) := by decide +kernel
theorem dX7_needOrder_92 : decode cX7_needOrder 92 = .ok (.iconst 1, 1) := by decide +kernel
theorem dX7_needOrder_93 : decode cX7_needOrder 93 = .ok (.iload 5, 2) := by decide +kernel
theorem dX7_needOrder_95 : decode cX7_needOrder 95 = .ok (.ishl, 1) := by decide +kernel
theorem dX7_needOrder_96 : decode cX7_needOrder 96 = .ok (.goto 4, 3) := by decide +kernel
theorem dX7_needOrder_99 : decode cX7_needOrder 99 = .ok (.iconst 0, 1) := by decide +kernel
theorem dX7_needOrder_100 : decode cX7_needOrder 100 = .ok (.ior, 1) := by decide +kernel
theorem dX7_needOrder_101 : decode cX7_needOrder 101 = .ok (.istore_n 2, 1) := by decide +kernel
theorem dX7_needOrder_102 : decode cX7_needOrder 102 = .ok (.iinc 4 1, 3) := by decide +kernel
theorem dX7_needOrder_105 : decode cX7_needOrder 105 = .ok (.goto (-64), 3) := by decide +kernel
theorem dX7_needOrder_108 : decode cX7_needOrder 108 = .ok (.iload_n 3, 1) := by decide +kernel
theorem dX7_needOrder_109 : decode cX7_needOrder 109 = .ok (.ifCond .ne 9, 3) := by decide +kernel
theorem dX7_needOrder_112 : decode cX7_needOrder 112 = .ok (.aload_n 0, 1) := by decide +kernel
theorem dX7_needOrder_113 : decode cX7_needOrder 113 = .ok (.iconst 3, 1) := by decide +kernel
theorem dX7_needOrder_114 : decode cX7_needOrder 114 = .ok (.invokevirtual 106, 3) := by decide +kernel
theorem dX7_needOrder_117 : decode cX7_needOrder 117 = .ok (.ireturn, 1) := by decide +kernel
theorem dX7_needOrder_118 : decode cX7_needOrder 118 = .ok (.iconst 0, 1) := by decide +kernel
theorem dX7_needOrder_119 : decode cX7_needOrder 119 = .ok (.istore 4, 2) := by decide +kernel
theorem dX7_needOrder_121 : decode cX7_needOrder 121 = .ok (.iload 4, 2) := by decide +kernel
theorem dX7_needOrder_123 : decode cX7_needOrder 123 = .ok (.aload_n 0, 1) := by decide +kernel
theorem dX7_needOrder_124 : decode cX7_needOrder 124 = .ok (.getfield 157, 3) := by decide +kernel
theorem dX7_needOrder_127 : decode cX7_needOrder 127 = .ok (.if_icmp .ge 23, 3) := by decide +kernel
theorem dX7_needOrder_130 : decode cX7_needOrder 130 = .ok (.aload_n 0, 1) := by decide +kernel
theorem dX7_needOrder_131 : decode cX7_needOrder 131 = .ok (.getfield 41, 3) := by decide +kernel
theorem dX7_needOrder_134 : decode cX7_needOrder 134 = .ok (.iload 4, 2) := by decide +kernel
theorem dX7_needOrder_136 : decode cX7_needOrder 136 = .ok (.aload_n 0, 1) := by decide +kernel
theorem dX7_needOrder_137 : decode cX7_needOrder 137 = .ok (.iload_n 1, 1) := by decide +kernel
theorem dX7_needOrder_138 : decode cX7_needOrder 138 = .ok (.iload 4, 2) := by decide +kernel
theorem dX7_needOrder_140 : decode cX7_needOrder 140 = .ok (.invokevirtual 110, 3) := by decide +kernel
theorem dX7_needOrder_143 : decode cX7_needOrder 143 = .ok (.iastore, 1) := by decide +kernel
theorem dX7_needOrder_144 : decode cX7_needOrder 144 = .ok (.iinc 4 1, 3) := by decide +kernel
theorem dX7_needOrder_147 : decode cX7_needOrder 147 = .ok (.goto (-26), 3) := by decide +kernel
theorem dX7_needOrder_150 : decode cX7_needOrder 150 = .ok (.aload_n 0, 1) := by decide +kernel
theorem dX7_needOrder_151 : decode cX7_needOrder 151 = .ok (.invokevirtual 189, 3) := by decide +kernel
theorem dX7_needOrder_154 : decode cX7_needOrder 154 = .ok (.iconst 0, 1) := by decide +kernel
theorem dX7_needOrder_155 : decode cX7_needOrder 155 = .ok (.ireturn, 1) := by decide +kernel
theorem dX7_isMeasure_0 : decode cX7_isMeasure 0 = .ok (.iload_n 0, 1) := by decide +kernel
theorem dX7_isMeasure_1 : decode cX7_isMeasure 1 = .ok (.iconst 0, 1) := by decide +kernel
theorem dX7_isMeasure_2 : decode cX7_isMeasure 2 = .ok (.iconst 4, 1) := by decide +kernel
theorem dX7_isMeasure_3 : decode cX7_isMeasure 3 = .ok (.invokestatic 92, 3) := by decide +kernel
theorem dX7_isMeasure_6 : decode cX7_isMeasure 6 = .ok (.ireturn, 1) := by decide +kernel
theorem dX7_cutOf_0 : decode cX7_cutOf 0 = .ok (.iconst 0, 1) := by decide +kernel
theorem dX7_cutOf_1 : decode cX7_cutOf 1 = .ok (.istore_n 2, 1) := by decide +kernel
theorem dX7_cutOf_2 : decode cX7_cutOf 2 = .ok (.iconst 0, 1) := by decide +kernel
theorem dX7_cutOf_3 : decode cX7_cutOf 3 = .ok (.istore_n 3, 1) := by decide +kernel
theorem dX7_cutOf_4 : decode cX7_cutOf 4 = .ok (.iload_n 3, 1) := by decide +kernel
theorem dX7_cutOf_5 : decode cX7_cutOf 5 = .ok (.aload_n 0, 1) := by decide +kernel
theorem dX7_cutOf_6 : decode cX7_cutOf 6 = .ok (.getfield 157, 3) := by decide +kernel
theorem dX7_cutOf_9 : decode cX7_cutOf 9 = .ok (.if_icmp .ge 58, 3) := by decide +kernel
theorem dX7_cutOf_12 : decode cX7_cutOf 12 = .ok (.iconst 0, 1) := by decide +kernel
theorem dX7_cutOf_13 : decode cX7_cutOf 13 = .ok (.istore 4, 2) := by decide +kernel
theorem dX7_cutOf_15 : decode cX7_cutOf 15 = .ok (.iload 4, 2) := by decide +kernel
theorem dX7_cutOf_17 : decode cX7_cutOf 17 = .ok (.aload_n 0, 1) := by decide +kernel
theorem dX7_cutOf_18 : decode cX7_cutOf 18 = .ok (.getfield 157, 3) := by decide +kernel
theorem dX7_cutOf_21 : decode cX7_cutOf 21 = .ok (.if_icmp .ge 40, 3) := by decide +kernel
theorem dX7_cutOf_24 : decode cX7_cutOf 24 = .ok (.iload_n 2, 1) := by decide +kernel
theorem dX7_cutOf_25 : decode cX7_cutOf 25 = .ok (.iload_n 1, 1) := by decide +kernel
theorem dX7_cutOf_26 : decode cX7_cutOf 26 = .ok (.iload_n 3, 1) := by decide +kernel
theorem dX7_cutOf_27 : decode cX7_cutOf 27 = .ok (.invokestatic 186, 3) := by decide +kernel
theorem dX7_cutOf_30 : decode cX7_cutOf 30 = .ok (.ifCond .eq 22, 3) := by decide +kernel
theorem dX7_cutOf_33 : decode cX7_cutOf 33 = .ok (.iload_n 1, 1) := by decide +kernel
theorem dX7_cutOf_34 : decode cX7_cutOf 34 = .ok (.iload 4, 2) := by decide +kernel
theorem dX7_cutOf_36 : decode cX7_cutOf 36 = .ok (.invokestatic 186, 3) := by decide +kernel
theorem dX7_cutOf_39 : decode cX7_cutOf 39 = .ok (.ifCond .ne 13, 3) := by decide +kernel
theorem dX7_cutOf_42 : decode cX7_cutOf 42 = .ok (.aload_n 0, 1) := by decide +kernel
theorem dX7_cutOf_43 : decode cX7_cutOf 43 = .ok (.iload_n 3, 1) := by decide +kernel
theorem dX7_cutOf_44 : decode cX7_cutOf 44 = .ok (.iload 4, 2) := by decide +kernel
theorem dX7_cutOf_46 : decode cX7_cutOf 46 = .ok (.invokevirtual 166, 3) := by decide +kernel
theorem dX7_cutOf_49 : decode cX7_cutOf 49 = .ok (.goto 4, 3) := by decide +kernel
theorem dX7_cutOf_52 : decode cX7_cutOf 52 = .ok (.iconst 0, 1) := by decide +kernel
theorem dX7_cutOf_53 : decode cX7_cutOf 53 = .ok (.iadd, 1) := by decide +kernel
theorem dX7_cutOf_54 : decode cX7_cutOf 54 = .ok (.istore_n 2, 1) := by decide +kernel
theorem dX7_cutOf_55 : decode cX7_cutOf 55 = .ok (.iinc 4 1, 3) := by decide +kernel
theorem dX7_cutOf_58 : decode cX7_cutOf 58 = .ok (.goto (-43), 3) := by decide +kernel
theorem dX7_cutOf_61 : decode cX7_cutOf 61 = .ok (.iinc 3 1, 3) := by decide +kernel
theorem dX7_cutOf_64 : decode cX7_cutOf 64 = .ok (.goto (-60), 3) := by decide +kernel
theorem dX7_cutOf_67 : decode cX7_cutOf 67 = .ok (.iload_n 2, 1) := by decide +kernel
theorem dX7_cutOf_68 : decode cX7_cutOf 68 = .ok (.ireturn, 1) := by decide +kernel
theorem dX7_heldOf_0 : decode cX7_heldOf 0 = .ok (.iconst 0, 1) := by decide +kernel
theorem dX7_heldOf_1 : decode cX7_heldOf 1 = .ok (.istore_n 2, 1) := by decide +kernel
theorem dX7_heldOf_2 : decode cX7_heldOf 2 = .ok (.iconst 0, 1) := by decide +kernel
theorem dX7_heldOf_3 : decode cX7_heldOf 3 = .ok (.istore_n 3, 1) := by decide +kernel
theorem dX7_heldOf_4 : decode cX7_heldOf 4 = .ok (.iload_n 3, 1) := by decide +kernel
theorem dX7_heldOf_5 : decode cX7_heldOf 5 = .ok (.aload_n 0, 1) := by decide +kernel
theorem dX7_heldOf_6 : decode cX7_heldOf 6 = .ok (.getfield 157, 3) := by decide +kernel
theorem dX7_heldOf_9 : decode cX7_heldOf 9 = .ok (.if_icmp .ge 82, 3) := by decide +kernel
theorem dX7_heldOf_12 : decode cX7_heldOf 12 = .ok (.iconst 0, 1) := by decide +kernel
theorem dX7_heldOf_13 : decode cX7_heldOf 13 = .ok (.istore 4, 2) := by decide +kernel
theorem dX7_heldOf_15 : decode cX7_heldOf 15 = .ok (.iconst 0, 1) := by decide +kernel
theorem dX7_heldOf_16 : decode cX7_heldOf 16 = .ok (.istore 5, 2) := by decide +kernel
theorem dX7_heldOf_18 : decode cX7_heldOf 18 = .ok (.iload 5, 2) := by decide +kernel
theorem dX7_heldOf_20 : decode cX7_heldOf 20 = .ok (.aload_n 0, 1) := by decide +kernel
theorem dX7_heldOf_21 : decode cX7_heldOf 21 = .ok (.getfield 157, 3) := by decide +kernel
theorem dX7_heldOf_24 : decode cX7_heldOf 24 = .ok (.if_icmp .ge 48, 3) := by decide +kernel
theorem dX7_heldOf_27 : decode cX7_heldOf 27 = .ok (.iload 4, 2) := by decide +kernel
theorem dX7_heldOf_29 : decode cX7_heldOf 29 = .ok (.ifCond .ne 30, 3) := by decide +kernel
theorem dX7_heldOf_32 : decode cX7_heldOf 32 = .ok (.iload_n 1, 1) := by decide +kernel
theorem dX7_heldOf_33 : decode cX7_heldOf 33 = .ok (.iload_n 3, 1) := by decide +kernel
theorem dX7_heldOf_34 : decode cX7_heldOf 34 = .ok (.invokestatic 186, 3) := by decide +kernel
theorem dX7_heldOf_37 : decode cX7_heldOf 37 = .ok (.ifCond .eq 26, 3) := by decide +kernel
theorem dX7_heldOf_40 : decode cX7_heldOf 40 = .ok (.iload_n 1, 1) := by decide +kernel
theorem dX7_heldOf_41 : decode cX7_heldOf 41 = .ok (.iload 5, 2) := by decide +kernel
theorem dX7_heldOf_43 : decode cX7_heldOf 43 = .ok (.invokestatic 186, 3) := by decide +kernel
theorem dX7_heldOf_46 : decode cX7_heldOf 46 = .ok (.ifCond .ne 17, 3) := by decide +kernel
theorem dX7_heldOf_49 : decode cX7_heldOf 49 = .ok (.aload_n 0, 1) := by decide +kernel
theorem dX7_heldOf_50 : decode cX7_heldOf 50 = .ok (.iload_n 3, 1) := by decide +kernel
theorem dX7_heldOf_51 : decode cX7_heldOf 51 = .ok (.iload 5, 2) := by decide +kernel
theorem dX7_heldOf_53 : decode cX7_heldOf 53 = .ok (.invokevirtual 166, 3) := by decide +kernel
theorem dX7_heldOf_56 : decode cX7_heldOf 56 = .ok (.ifCond .le 7, 3) := by decide +kernel
theorem dX7_heldOf_59 : decode cX7_heldOf 59 = .ok (.iconst 1, 1) := by decide +kernel
theorem dX7_heldOf_60 : decode cX7_heldOf 60 = .ok (.goto 4, 3) := by decide +kernel
theorem dX7_heldOf_63 : decode cX7_heldOf 63 = .ok (.iconst 0, 1) := by decide +kernel
theorem dX7_heldOf_64 : decode cX7_heldOf 64 = .ok (.istore 4, 2) := by decide +kernel
theorem dX7_heldOf_66 : decode cX7_heldOf 66 = .ok (.iinc 5 1, 3) := by decide +kernel
theorem dX7_heldOf_69 : decode cX7_heldOf 69 = .ok (.goto (-51), 3) := by decide +kernel
theorem dX7_heldOf_72 : decode cX7_heldOf 72 = .ok (.iload_n 2, 1) := by decide +kernel
theorem dX7_heldOf_73 : decode cX7_heldOf 73 = .ok (.iload 4, 2) := by decide +kernel
theorem dX7_heldOf_75 : decode cX7_heldOf 75 = .ok (.ifCond .eq 7, 3) := by decide +kernel
theorem dX7_heldOf_78 : decode cX7_heldOf 78 = .ok (.iconst 1, 1) := by decide +kernel
theorem dX7_heldOf_79 : decode cX7_heldOf 79 = .ok (.goto 4, 3) := by decide +kernel
theorem dX7_heldOf_82 : decode cX7_heldOf 82 = .ok (.iconst 0, 1) := by decide +kernel
theorem dX7_heldOf_83 : decode cX7_heldOf 83 = .ok (.iadd, 1) := by decide +kernel
theorem dX7_heldOf_84 : decode cX7_heldOf 84 = .ok (.istore_n 2, 1) := by decide +kernel
theorem dX7_heldOf_85 : decode cX7_heldOf 85 = .ok (.iinc 3 1, 3) := by decide +kernel
theorem dX7_heldOf_88 : decode cX7_heldOf 88 = .ok (.goto (-84), 3) := by decide +kernel
theorem dX7_heldOf_91 : decode cX7_heldOf 91 = .ok (.iload_n 2, 1) := by decide +kernel
theorem dX7_heldOf_92 : decode cX7_heldOf 92 = .ok (.ireturn, 1) := by decide +kernel
theorem dX7_reachNow_0 : decode cX7_reachNow 0 = .ok (.iconst 0, 1) := by decide +kernel
theorem dX7_reachNow_1 : decode cX7_reachNow 1 = .ok (.istore_n 1, 1) := by decide +kernel
theorem dX7_reachNow_2 : decode cX7_reachNow 2 = .ok (.iconst 0, 1) := by decide +kernel
theorem dX7_reachNow_3 : decode cX7_reachNow 3 = .ok (.istore_n 2, 1) := by decide +kernel
theorem dX7_reachNow_4 : decode cX7_reachNow 4 = .ok (.iload_n 2, 1) := by decide +kernel
theorem dX7_reachNow_5 : decode cX7_reachNow 5 = .ok (.aload_n 0, 1) := by decide +kernel
theorem dX7_reachNow_6 : decode cX7_reachNow 6 = .ok (.getfield 157, 3) := by decide +kernel
theorem dX7_reachNow_9 : decode cX7_reachNow 9 = .ok (.if_icmp .ge 56, 3) := by decide +kernel
theorem dX7_reachNow_12 : decode cX7_reachNow 12 = .ok (.iconst 0, 1) := by decide +kernel
theorem dX7_reachNow_13 : decode cX7_reachNow 13 = .ok (.istore_n 3, 1) := by decide +kernel
theorem dX7_reachNow_14 : decode cX7_reachNow 14 = .ok (.iload_n 3, 1) := by decide +kernel
theorem dX7_reachNow_15 : decode cX7_reachNow 15 = .ok (.aload_n 0, 1) := by decide +kernel
theorem dX7_reachNow_16 : decode cX7_reachNow 16 = .ok (.getfield 157, 3) := by decide +kernel
theorem dX7_reachNow_19 : decode cX7_reachNow 19 = .ok (.if_icmp .ge 40, 3) := by decide +kernel
theorem dX7_reachNow_22 : decode cX7_reachNow 22 = .ok (.aload_n 0, 1) := by decide +kernel
theorem dX7_reachNow_23 : decode cX7_reachNow 23 = .ok (.iload_n 2, 1) := by decide +kernel
theorem dX7_reachNow_24 : decode cX7_reachNow 24 = .ok (.iload_n 3, 1) := by decide +kernel
theorem dX7_reachNow_25 : decode cX7_reachNow 25 = .ok (.invokevirtual 166, 3) := by decide +kernel
theorem dX7_reachNow_28 : decode cX7_reachNow 28 = .ok (.ifCond .le 23, 3) := by decide +kernel
theorem dX7_reachNow_31 : decode cX7_reachNow 31 = .ok (.iload_n 1, 1) := by decide +kernel
theorem dX7_reachNow_32 : decode cX7_reachNow 32 = .ok (.aload_n 0, 1) := by decide +kernel
theorem dX7_reachNow_33 : decode cX7_reachNow 33 = .ok (.getfield 44, 3) := by decide +kernel
theorem dX7_reachNow_36 : decode cX7_reachNow 36 = .ok (.iload_n 2, 1) := by decide +kernel
theorem dX7_reachNow_37 : decode cX7_reachNow 37 = .ok (.iaload, 1) := by decide +kernel
theorem dX7_reachNow_38 : decode cX7_reachNow 38 = .ok (.aload_n 0, 1) := by decide +kernel
theorem dX7_reachNow_39 : decode cX7_reachNow 39 = .ok (.getfield 44, 3) := by decide +kernel
theorem dX7_reachNow_42 : decode cX7_reachNow 42 = .ok (.iload_n 3, 1) := by decide +kernel
theorem dX7_reachNow_43 : decode cX7_reachNow 43 = .ok (.iaload, 1) := by decide +kernel
theorem dX7_reachNow_44 : decode cX7_reachNow 44 = .ok (.isub, 1) := by decide +kernel
theorem dX7_reachNow_45 : decode cX7_reachNow 45 = .ok (.invokestatic 192, 3) := by decide +kernel
theorem dX7_reachNow_48 : decode cX7_reachNow 48 = .ok (.goto 4, 3) := by decide +kernel
theorem dX7_reachNow_51 : decode cX7_reachNow 51 = .ok (.iload_n 1, 1) := by decide +kernel
theorem dX7_reachNow_52 : decode cX7_reachNow 52 = .ok (.istore_n 1, 1) := by decide +kernel
theorem dX7_reachNow_53 : decode cX7_reachNow 53 = .ok (.iinc 3 1, 3) := by decide +kernel
theorem dX7_reachNow_56 : decode cX7_reachNow 56 = .ok (.goto (-42), 3) := by decide +kernel
theorem dX7_reachNow_59 : decode cX7_reachNow 59 = .ok (.iinc 2 1, 3) := by decide +kernel
theorem dX7_reachNow_62 : decode cX7_reachNow 62 = .ok (.goto (-58), 3) := by decide +kernel
theorem dX7_reachNow_65 : decode cX7_reachNow 65 = .ok (.iload_n 1, 1) := by decide +kernel
theorem dX7_reachNow_66 : decode cX7_reachNow 66 = .ok (.ireturn, 1) := by decide +kernel
theorem dX7_isSum_0 : decode cX7_isSum 0 = .ok (.iload_n 0, 1) := by decide +kernel
theorem dX7_isSum_1 : decode cX7_isSum 1 = .ok (.ifCond .eq 8, 3) := by decide +kernel
theorem dX7_isSum_4 : decode cX7_isSum 4 = .ok (.iload_n 0, 1) := by decide +kernel
theorem dX7_isSum_5 : decode cX7_isSum 5 = .ok (.iconst 3, 1) := by decide +kernel
theorem dX7_isSum_6 : decode cX7_isSum 6 = .ok (.if_icmp .ne 7, 3) := by decide +kernel
theorem dX7_isSum_9 : decode cX7_isSum 9 = .ok (.iconst 1, 1) := by decide +kernel
theorem dX7_isSum_10 : decode cX7_isSum 10 = .ok (.goto 4, 3) := by decide +kernel
theorem dX7_isSum_13 : decode cX7_isSum 13 = .ok (.iconst 0, 1) := by decide +kernel
theorem dX7_isSum_14 : decode cX7_isSum 14 = .ok (.ireturn, 1) := by decide +kernel
theorem dX7_edgeOf_0 : decode cX7_edgeOf 0 = .ok (.iload_n 1, 1) := by decide +kernel
theorem dX7_edgeOf_1 : decode cX7_edgeOf 1 = .ok (.ifCond .eq 8, 3) := by decide +kernel
theorem dX7_edgeOf_4 : decode cX7_edgeOf 4 = .ok (.iload_n 1, 1) := by decide +kernel
theorem dX7_edgeOf_5 : decode cX7_edgeOf 5 = .ok (.iconst 1, 1) := by decide +kernel
theorem dX7_edgeOf_6 : decode cX7_edgeOf 6 = .ok (.if_icmp .ne 11, 3) := by decide +kernel
theorem dX7_edgeOf_9 : decode cX7_edgeOf 9 = .ok (.aload_n 0, 1) := by decide +kernel
theorem dX7_edgeOf_10 : decode cX7_edgeOf 10 = .ok (.iload_n 2, 1) := by decide +kernel
theorem dX7_edgeOf_11 : decode cX7_edgeOf 11 = .ok (.invokevirtual 195, 3) := by decide +kernel
theorem dX7_edgeOf_14 : decode cX7_edgeOf 14 = .ok (.goto 8, 3) := by decide +kernel
theorem dX7_edgeOf_17 : decode cX7_edgeOf 17 = .ok (.aload_n 0, 1) := by decide +kernel
theorem dX7_edgeOf_18 : decode cX7_edgeOf 18 = .ok (.iload_n 2, 1) := by decide +kernel
theorem dX7_edgeOf_19 : decode cX7_edgeOf 19 = .ok (.invokevirtual 198, 3) := by decide +kernel
theorem dX7_edgeOf_22 : decode cX7_edgeOf 22 = .ok (.ireturn, 1) := by decide +kernel
theorem dX7_measureNow_0 : decode cX7_measureNow 0 = .ok (.iload_n 1, 1) := by decide +kernel
theorem dX7_measureNow_1 : decode cX7_measureNow 1 = .ok (.iconst 4, 1) := by decide +kernel
theorem dX7_measureNow_2 : decode cX7_measureNow 2 = .ok (.if_icmp .ne 8, 3) := by decide +kernel
theorem dX7_measureNow_5 : decode cX7_measureNow 5 = .ok (.aload_n 0, 1) := by decide +kernel
theorem dX7_measureNow_6 : decode cX7_measureNow 6 = .ok (.invokevirtual 201, 3) := by decide +kernel
theorem dX7_measureNow_9 : decode cX7_measureNow 9 = .ok (.ireturn, 1) := by decide +kernel
theorem dX7_measureNow_10 : decode cX7_measureNow 10 = .ok (.iconst 0, 1) := by decide +kernel
theorem dX7_measureNow_11 : decode cX7_measureNow 11 = .ok (.istore_n 2, 1) := by decide +kernel
theorem dX7_measureNow_12 : decode cX7_measureNow 12 = .ok (.iconst 0, 1) := by decide +kernel
theorem dX7_measureNow_13 : decode cX7_measureNow 13 = .ok (.istore_n 3, 1) := by decide +kernel
theorem dX7_measureNow_14 : decode cX7_measureNow 14 = .ok (.iconst 0, 1) := by decide +kernel
theorem dX7_measureNow_15 : decode cX7_measureNow 15 = .ok (.istore 4, 2) := by decide +kernel
theorem dX7_measureNow_17 : decode cX7_measureNow 17 = .ok (.iload 4, 2) := by decide +kernel
theorem dX7_measureNow_19 : decode cX7_measureNow 19 = .ok (.aload_n 0, 1) := by decide +kernel
theorem dX7_measureNow_20 : decode cX7_measureNow 20 = .ok (.getfield 157, 3) := by decide +kernel
theorem dX7_measureNow_23 : decode cX7_measureNow 23 = .ok (.iconst 1, 1) := by decide +kernel
theorem dX7_measureNow_24 : decode cX7_measureNow 24 = .ok (.isub, 1) := by decide +kernel
theorem dX7_measureNow_25 : decode cX7_measureNow 25 = .ok (.if_icmp .ge 50, 3) := by decide +kernel
theorem dX7_measureNow_28 : decode cX7_measureNow 28 = .ok (.iload_n 3, 1) := by decide +kernel
theorem dX7_measureNow_29 : decode cX7_measureNow 29 = .ok (.iconst 1, 1) := by decide +kernel
theorem dX7_measureNow_30 : decode cX7_measureNow 30 = .ok (.aload_n 0, 1) := by decide +kernel
theorem dX7_measureNow_31 : decode cX7_measureNow 31 = .ok (.getfield 41, 3) := by decide +kernel
theorem dX7_measureNow_34 : decode cX7_measureNow 34 = .ok (.iload 4, 2) := by decide +kernel
theorem dX7_measureNow_36 : decode cX7_measureNow 36 = .ok (.iaload, 1) := by decide +kernel
theorem dX7_measureNow_37 : decode cX7_measureNow 37 = .ok (.ishl, 1) := by decide +kernel
theorem dX7_measureNow_38 : decode cX7_measureNow 38 = .ok (.ior, 1) := by decide +kernel
theorem dX7_measureNow_39 : decode cX7_measureNow 39 = .ok (.istore_n 3, 1) := by decide +kernel
theorem dX7_measureNow_40 : decode cX7_measureNow 40 = .ok (.aload_n 0, 1) := by decide +kernel
theorem dX7_measureNow_41 : decode cX7_measureNow 41 = .ok (.iload_n 1, 1) := by decide +kernel
theorem dX7_measureNow_42 : decode cX7_measureNow 42 = .ok (.iload_n 3, 1) := by decide +kernel
theorem dX7_measureNow_43 : decode cX7_measureNow 43 = .ok (.invokevirtual 205, 3) := by decide +kernel
theorem dX7_measureNow_46 : decode cX7_measureNow 46 = .ok (.istore 5, 2) := by decide +kernel
theorem dX7_measureNow_48 : decode cX7_measureNow 48 = .ok (.iload_n 1, 1) := by decide +kernel
theorem dX7_measureNow_49 : decode cX7_measureNow 49 = .ok (.invokestatic 208, 3) := by decide +kernel
theorem dX7_measureNow_52 : decode cX7_measureNow 52 = .ok (.ifCond .eq 10, 3) := by decide +kernel
theorem dX7_measureNow_55 : decode cX7_measureNow 55 = .ok (.iload_n 2, 1) := by decide +kernel
theorem dX7_measureNow_56 : decode cX7_measureNow 56 = .ok (.iload 5, 2) := by decide +kernel
theorem dX7_measureNow_58 : decode cX7_measureNow 58 = .ok (.iadd, 1) := by decide +kernel
theorem dX7_measureNow_59 : decode cX7_measureNow 59 = .ok (.goto 9, 3) := by decide +kernel
theorem dX7_measureNow_62 : decode cX7_measureNow 62 = .ok (.iload_n 2, 1) := by decide +kernel
theorem dX7_measureNow_63 : decode cX7_measureNow 63 = .ok (.iload 5, 2) := by decide +kernel
theorem dX7_measureNow_65 : decode cX7_measureNow 65 = .ok (.invokestatic 192, 3) := by decide +kernel
theorem dX7_measureNow_68 : decode cX7_measureNow 68 = .ok (.istore_n 2, 1) := by decide +kernel
theorem dX7_measureNow_69 : decode cX7_measureNow 69 = .ok (.iinc 4 1, 3) := by decide +kernel
theorem dX7_measureNow_72 : decode cX7_measureNow 72 = .ok (.goto (-55), 3) := by decide +kernel
theorem dX7_measureNow_75 : decode cX7_measureNow 75 = .ok (.iload_n 2, 1) := by decide +kernel
theorem dX7_measureNow_76 : decode cX7_measureNow 76 = .ok (.ireturn, 1) := by decide +kernel
theorem dX7_measure_0 : decode cX7_measure 0 = .ok (.iload_n 1, 1) := by decide +kernel
theorem dX7_measure_1 : decode cX7_measure 1 = .ok (.invokestatic 211, 3) := by decide +kernel
theorem dX7_measure_4 : decode cX7_measure 4 = .ok (.ifCond .eq 10, 3) := by decide +kernel
theorem dX7_measure_7 : decode cX7_measure 7 = .ok (.iload_n 2, 1) := by decide +kernel
theorem dX7_measure_8 : decode cX7_measure 8 = .ok (.invokestatic 102, 3) := by decide +kernel
theorem dX7_measure_11 : decode cX7_measure 11 = .ok (.ifCond .ne 5, 3) := by decide +kernel
theorem dX7_measure_14 : decode cX7_measure 14 = .ok (.iconst (-1), 1) := by decide +kernel
theorem dX7_measure_15 : decode cX7_measure 15 = .ok (.ireturn, 1) := by decide +kernel
theorem dX7_measure_16 : decode cX7_measure 16 = .ok (.aload_n 0, 1) := by decide +kernel
theorem dX7_measure_17 : decode cX7_measure 17 = .ok (.iload_n 2, 1) := by decide +kernel
theorem dX7_measure_18 : decode cX7_measure 18 = .ok (.invokevirtual 214, 3) := by decide +kernel
theorem dX7_measure_21 : decode cX7_measure 21 = .ok (.istore_n 3, 1) := by decide +kernel
theorem dX7_measure_22 : decode cX7_measure 22 = .ok (.iload_n 3, 1) := by decide +kernel
theorem dX7_measure_23 : decode cX7_measure 23 = .ok (.ifCond .ge 7, 3) := by decide +kernel
theorem dX7_measure_26 : decode cX7_measure 26 = .ok (.iload_n 3, 1) := by decide +kernel
theorem dX7_measure_27 : decode cX7_measure 27 = .ok (.goto 8, 3) := by decide +kernel
theorem dX7_measure_30 : decode cX7_measure 30 = .ok (.aload_n 0, 1) := by decide +kernel
theorem dX7_measure_31 : decode cX7_measure 31 = .ok (.iload_n 1, 1) := by decide +kernel
theorem dX7_measure_32 : decode cX7_measure 32 = .ok (.invokevirtual 217, 3) := by decide +kernel
theorem dX7_measure_35 : decode cX7_measure 35 = .ok (.ireturn, 1) := by decide +kernel
theorem dX7_isKept_0 : decode cX7_isKept 0 = .ok (.aload_n 0, 1) := by decide +kernel
theorem dX7_isKept_1 : decode cX7_isKept 1 = .ok (.getfield 44, 3) := by decide +kernel
theorem dX7_isKept_4 : decode cX7_isKept 4 = .ok (.aload_n 0, 1) := by decide +kernel
theorem dX7_isKept_5 : decode cX7_isKept 5 = .ok (.iload_n 1, 1) := by decide +kernel
theorem dX7_isKept_6 : decode cX7_isKept 6 = .ok (.iconst 1, 1) := by decide +kernel
theorem dX7_isKept_7 : decode cX7_isKept 7 = .ok (.invokevirtual 180, 3) := by decide +kernel
theorem dX7_isKept_10 : decode cX7_isKept 10 = .ok (.iaload, 1) := by decide +kernel
theorem dX7_isKept_11 : decode cX7_isKept 11 = .ok (.istore_n 2, 1) := by decide +kernel
theorem dX7_isKept_12 : decode cX7_isKept 12 = .ok (.aload_n 0, 1) := by decide +kernel
theorem dX7_isKept_13 : decode cX7_isKept 13 = .ok (.iload_n 1, 1) := by decide +kernel
theorem dX7_isKept_14 : decode cX7_isKept 14 = .ok (.iconst 0, 1) := by decide +kernel
theorem dX7_isKept_15 : decode cX7_isKept 15 = .ok (.invokevirtual 180, 3) := by decide +kernel
theorem dX7_isKept_18 : decode cX7_isKept 18 = .ok (.istore_n 3, 1) := by decide +kernel
theorem dX7_isKept_19 : decode cX7_isKept 19 = .ok (.aload_n 0, 1) := by decide +kernel
theorem dX7_isKept_20 : decode cX7_isKept 20 = .ok (.iload_n 1, 1) := by decide +kernel
theorem dX7_isKept_21 : decode cX7_isKept 21 = .ok (.iconst 2, 1) := by decide +kernel
theorem dX7_isKept_22 : decode cX7_isKept 22 = .ok (.invokevirtual 180, 3) := by decide +kernel
theorem dX7_isKept_25 : decode cX7_isKept 25 = .ok (.istore 4, 2) := by decide +kernel
theorem dX7_isKept_27 : decode cX7_isKept 27 = .ok (.aload_n 0, 1) := by decide +kernel
theorem dX7_isKept_28 : decode cX7_isKept 28 = .ok (.iload_n 1, 1) := by decide +kernel
theorem dX7_isKept_29 : decode cX7_isKept 29 = .ok (.iconst 4, 1) := by decide +kernel
theorem dX7_isKept_30 : decode cX7_isKept 30 = .ok (.invokevirtual 180, 3) := by decide +kernel
theorem dX7_isKept_33 : decode cX7_isKept 33 = .ok (.iconst 1, 1) := by decide +kernel
theorem dX7_isKept_34 : decode cX7_isKept 34 = .ok (.if_icmp .eq 7, 3) := by decide +kernel
theorem dX7_isKept_37 : decode cX7_isKept 37 = .ok (.iload_n 3, 1) := by decide +kernel
theorem dX7_isKept_38 : decode cX7_isKept 38 = .ok (.ifCond .ne 5, 3) := by decide +kernel
theorem dX7_isKept_41 : decode cX7_isKept 41 = .ok (.iconst 1, 1) := by decide +kernel
theorem dX7_isKept_42 : decode cX7_isKept 42 = .ok (.ireturn, 1) := by decide +kernel
theorem dX7_isKept_43 : decode cX7_isKept 43 = .ok (.iload_n 3, 1) := by decide +kernel
theorem dX7_isKept_44 : decode cX7_isKept 44 = .ok (.iconst 3, 1) := by decide +kernel
theorem dX7_isKept_45 : decode cX7_isKept 45 = .ok (.if_icmp .ne 15, 3) := by decide +kernel
theorem dX7_isKept_48 : decode cX7_isKept 48 = .ok (.iload_n 2, 1) := by decide +kernel
theorem dX7_isKept_49 : decode cX7_isKept 49 = .ok (.iload 4, 2) := by decide +kernel
theorem dX7_isKept_51 : decode cX7_isKept 51 = .ok (.if_icmp .ne 7, 3) := by decide +kernel
theorem dX7_isKept_54 : decode cX7_isKept 54 = .ok (.iconst 1, 1) := by decide +kernel
theorem dX7_isKept_55 : decode cX7_isKept 55 = .ok (.goto 4, 3) := by decide +kernel
theorem dX7_isKept_58 : decode cX7_isKept 58 = .ok (.iconst 0, 1) := by decide +kernel
theorem dX7_isKept_59 : decode cX7_isKept 59 = .ok (.ireturn, 1) := by decide +kernel
theorem dX7_isKept_60 : decode cX7_isKept 60 = .ok (.iload_n 3, 1) := by decide +kernel
theorem dX7_isKept_61 : decode cX7_isKept 61 = .ok (.iconst 4, 1) := by decide +kernel
theorem dX7_isKept_62 : decode cX7_isKept 62 = .ok (.if_icmp .ne 15, 3) := by decide +kernel
theorem dX7_isKept_65 : decode cX7_isKept 65 = .ok (.iload_n 2, 1) := by decide +kernel
theorem dX7_isKept_66 : decode cX7_isKept 66 = .ok (.iload 4, 2) := by decide +kernel
theorem dX7_isKept_68 : decode cX7_isKept 68 = .ok (.if_icmp .gt 7, 3) := by decide +kernel
theorem dX7_isKept_71 : decode cX7_isKept 71 = .ok (.iconst 1, 1) := by decide +kernel
theorem dX7_isKept_72 : decode cX7_isKept 72 = .ok (.goto 4, 3) := by decide +kernel
theorem dX7_isKept_75 : decode cX7_isKept 75 = .ok (.iconst 0, 1) := by decide +kernel
theorem dX7_isKept_76 : decode cX7_isKept 76 = .ok (.ireturn, 1) := by decide +kernel
theorem dX7_isKept_77 : decode cX7_isKept 77 = .ok (.aload_n 0, 1) := by decide +kernel
theorem dX7_isKept_78 : decode cX7_isKept 78 = .ok (.getfield 44, 3) := by decide +kernel
theorem dX7_isKept_81 : decode cX7_isKept 81 = .ok (.iload 4, 2) := by decide +kernel
theorem dX7_isKept_83 : decode cX7_isKept 83 = .ok (.iaload, 1) := by decide +kernel
theorem dX7_isKept_84 : decode cX7_isKept 84 = .ok (.istore 5, 2) := by decide +kernel
theorem dX7_isKept_86 : decode cX7_isKept 86 = .ok (.iload_n 3, 1) := by decide +kernel
theorem dX7_isKept_87 : decode cX7_isKept 87 = .ok (.tableswitch 81 1 5 #[33, 45, 81, 81, 59], 33) := by decide +kernel
theorem dX7_isKept_120 : decode cX7_isKept 120 = .ok (.iload_n 2, 1) := by decide +kernel
theorem dX7_isKept_121 : decode cX7_isKept 121 = .ok (.iload 5, 2) := by decide +kernel
theorem dX7_isKept_123 : decode cX7_isKept 123 = .ok (.if_icmp .ge 7, 3) := by decide +kernel
theorem dX7_isKept_126 : decode cX7_isKept 126 = .ok (.iconst 1, 1) := by decide +kernel
theorem dX7_isKept_127 : decode cX7_isKept 127 = .ok (.goto 4, 3) := by decide +kernel
theorem dX7_isKept_130 : decode cX7_isKept 130 = .ok (.iconst 0, 1) := by decide +kernel
theorem dX7_isKept_131 : decode cX7_isKept 131 = .ok (.ireturn, 1) := by decide +kernel
theorem dX7_isKept_132 : decode cX7_isKept 132 = .ok (.iload_n 2, 1) := by decide +kernel
theorem dX7_isKept_133 : decode cX7_isKept 133 = .ok (.iconst 1, 1) := by decide +kernel
theorem dX7_isKept_134 : decode cX7_isKept 134 = .ok (.iadd, 1) := by decide +kernel
theorem dX7_isKept_135 : decode cX7_isKept 135 = .ok (.iload 5, 2) := by decide +kernel
theorem dX7_isKept_137 : decode cX7_isKept 137 = .ok (.if_icmp .ne 7, 3) := by decide +kernel
theorem dX7_isKept_140 : decode cX7_isKept 140 = .ok (.iconst 1, 1) := by decide +kernel
theorem dX7_isKept_141 : decode cX7_isKept 141 = .ok (.goto 4, 3) := by decide +kernel
theorem dX7_isKept_144 : decode cX7_isKept 144 = .ok (.iconst 0, 1) := by decide +kernel
theorem dX7_isKept_145 : decode cX7_isKept 145 = .ok (.ireturn, 1) := by decide +kernel
theorem dX7_isKept_146 : decode cX7_isKept 146 = .ok (.iload_n 2, 1) := by decide +kernel
theorem dX7_isKept_147 : decode cX7_isKept 147 = .ok (.iload 5, 2) := by decide +kernel
theorem dX7_isKept_149 : decode cX7_isKept 149 = .ok (.isub, 1) := by decide +kernel
theorem dX7_isKept_150 : decode cX7_isKept 150 = .ok (.iconst 1, 1) := by decide +kernel
theorem dX7_isKept_151 : decode cX7_isKept 151 = .ok (.if_icmp .gt 11, 3) := by decide +kernel
theorem dX7_isKept_154 : decode cX7_isKept 154 = .ok (.iload 5, 2) := by decide +kernel
theorem dX7_isKept_156 : decode cX7_isKept 156 = .ok (.iload_n 2, 1) := by decide +kernel
theorem dX7_isKept_157 : decode cX7_isKept 157 = .ok (.isub, 1) := by decide +kernel
theorem dX7_isKept_158 : decode cX7_isKept 158 = .ok (.iconst 1, 1) := by decide +kernel
theorem dX7_isKept_159 : decode cX7_isKept 159 = .ok (.if_icmp .le 7, 3) := by decide +kernel
theorem dX7_isKept_162 : decode cX7_isKept 162 = .ok (.iconst 1, 1) := by decide +kernel
theorem dX7_isKept_163 : decode cX7_isKept 163 = .ok (.goto 4, 3) := by decide +kernel
theorem dX7_isKept_166 : decode cX7_isKept 166 = .ok (.iconst 0, 1) := by decide +kernel
theorem dX7_isKept_167 : decode cX7_isKept 167 = .ok (.ireturn, 1) := by decide +kernel
theorem dX7_isKept_168 : decode cX7_isKept 168 = .ok (.iload 5, 2) := by decide +kernel
theorem dX7_isKept_170 : decode cX7_isKept 170 = .ok (.iload_n 2, 1) := by decide +kernel
theorem dX7_isKept_171 : decode cX7_isKept 171 = .ok (.if_icmp .ge 7, 3) := by decide +kernel
theorem dX7_isKept_174 : decode cX7_isKept 174 = .ok (.iconst 1, 1) := by decide +kernel
theorem dX7_isKept_175 : decode cX7_isKept 175 = .ok (.goto 4, 3) := by decide +kernel
theorem dX7_isKept_178 : decode cX7_isKept 178 = .ok (.iconst 0, 1) := by decide +kernel
theorem dX7_isKept_179 : decode cX7_isKept 179 = .ok (.aload_n 0, 1) := by decide +kernel
theorem dX7_isKept_180 : decode cX7_isKept 180 = .ok (.getfield 44, 3) := by decide +kernel
theorem dX7_isKept_183 : decode cX7_isKept 183 = .ok (.aload_n 0, 1) := by decide +kernel
theorem dX7_isKept_184 : decode cX7_isKept 184 = .ok (.iload_n 1, 1) := by decide +kernel
theorem dX7_isKept_185 : decode cX7_isKept 185 = .ok (.iconst 3, 1) := by decide +kernel
theorem dX7_isKept_186 : decode cX7_isKept 186 = .ok (.invokevirtual 180, 3) := by decide +kernel
theorem dX7_isKept_189 : decode cX7_isKept 189 = .ok (.iaload, 1) := by decide +kernel
theorem dX7_isKept_190 : decode cX7_isKept 190 = .ok (.iload_n 2, 1) := by decide +kernel
theorem dX7_isKept_191 : decode cX7_isKept 191 = .ok (.if_icmp .ge 7, 3) := by decide +kernel
theorem dX7_isKept_194 : decode cX7_isKept 194 = .ok (.iconst 1, 1) := by decide +kernel
theorem dX7_isKept_195 : decode cX7_isKept 195 = .ok (.goto 4, 3) := by decide +kernel
theorem dX7_isKept_198 : decode cX7_isKept 198 = .ok (.iconst 0, 1) := by decide +kernel
theorem dX7_isKept_199 : decode cX7_isKept 199 = .ok (.if_icmp .eq 7, 3) := by decide +kernel
theorem dX7_isKept_202 : decode cX7_isKept 202 = .ok (.iconst 1, 1) := by decide +kernel
theorem dX7_isKept_203 : decode cX7_isKept 203 = .ok (.goto 4, 3) := by decide +kernel
theorem dX7_isKept_206 : decode cX7_isKept 206 = .ok (.iconst 0, 1) := by decide +kernel
theorem dX7_isKept_207 : decode cX7_isKept 207 = .ok (.ireturn, 1) := by decide +kernel
theorem dX7_brokenNow_0 : decode cX7_brokenNow 0 = .ok (.iconst 0, 1) := by decide +kernel
theorem dX7_brokenNow_1 : decode cX7_brokenNow 1 = .ok (.istore_n 1, 1) := by decide +kernel
theorem dX7_brokenNow_2 : decode cX7_brokenNow 2 = .ok (.iload_n 1, 1) := by decide +kernel
theorem dX7_brokenNow_3 : decode cX7_brokenNow 3 = .ok (.aload_n 0, 1) := by decide +kernel
theorem dX7_brokenNow_4 : decode cX7_brokenNow 4 = .ok (.getfield 160, 3) := by decide +kernel
theorem dX7_brokenNow_7 : decode cX7_brokenNow 7 = .ok (.if_icmp .ge 19, 3) := by decide +kernel
theorem dX7_brokenNow_10 : decode cX7_brokenNow 10 = .ok (.aload_n 0, 1) := by decide +kernel
theorem dX7_brokenNow_11 : decode cX7_brokenNow 11 = .ok (.iload_n 1, 1) := by decide +kernel
theorem dX7_brokenNow_12 : decode cX7_brokenNow 12 = .ok (.invokevirtual 220, 3) := by decide +kernel
theorem dX7_brokenNow_15 : decode cX7_brokenNow 15 = .ok (.ifCond .ne 5, 3) := by decide +kernel
theorem dX7_brokenNow_18 : decode cX7_brokenNow 18 = .ok (.iload_n 1, 1) := by decide +kernel
theorem dX7_brokenNow_19 : decode cX7_brokenNow 19 = .ok (.ireturn, 1) := by decide +kernel
theorem dX7_brokenNow_20 : decode cX7_brokenNow 20 = .ok (.iinc 1 1, 3) := by decide +kernel
theorem dX7_brokenNow_23 : decode cX7_brokenNow 23 = .ok (.goto (-21), 3) := by decide +kernel
theorem dX7_brokenNow_26 : decode cX7_brokenNow 26 = .ok (.bipush (-9), 2) := by decide +kernel
theorem dX7_brokenNow_28 : decode cX7_brokenNow 28 = .ok (.ireturn, 1) := by decide +kernel
theorem dX7_breaks_0 : decode cX7_breaks 0 = .ok (.iload_n 1, 1) := by decide +kernel
theorem dX7_breaks_1 : decode cX7_breaks 1 = .ok (.invokestatic 102, 3) := by decide +kernel
theorem dX7_breaks_4 : decode cX7_breaks 4 = .ok (.ifCond .ne 5, 3) := by decide +kernel
theorem dX7_breaks_7 : decode cX7_breaks 7 = .ok (.iconst (-1), 1) := by decide +kernel
theorem dX7_breaks_8 : decode cX7_breaks 8 = .ok (.ireturn, 1) := by decide +kernel
theorem dX7_breaks_9 : decode cX7_breaks 9 = .ok (.aload_n 0, 1) := by decide +kernel
theorem dX7_breaks_10 : decode cX7_breaks 10 = .ok (.iload_n 1, 1) := by decide +kernel
theorem dX7_breaks_11 : decode cX7_breaks 11 = .ok (.invokevirtual 214, 3) := by decide +kernel
theorem dX7_breaks_14 : decode cX7_breaks 14 = .ok (.istore_n 2, 1) := by decide +kernel
theorem dX7_breaks_15 : decode cX7_breaks 15 = .ok (.iload_n 2, 1) := by decide +kernel
theorem dX7_breaks_16 : decode cX7_breaks 16 = .ok (.ifCond .ge 7, 3) := by decide +kernel
theorem dX7_breaks_19 : decode cX7_breaks 19 = .ok (.iload_n 2, 1) := by decide +kernel
theorem dX7_breaks_20 : decode cX7_breaks 20 = .ok (.goto 7, 3) := by decide +kernel
theorem dX7_breaks_23 : decode cX7_breaks 23 = .ok (.aload_n 0, 1) := by decide +kernel
theorem dX7_breaks_24 : decode cX7_breaks 24 = .ok (.invokevirtual 223, 3) := by decide +kernel
theorem dX7_breaks_27 : decode cX7_breaks 27 = .ok (.ireturn, 1) := by decide +kernel
theorem dX7_gap_0 : decode cX7_gap 0 = .ok (.iload_n 1, 1) := by decide +kernel
theorem dX7_gap_1 : decode cX7_gap 1 = .ok (.invokestatic 102, 3) := by decide +kernel
theorem dX7_gap_4 : decode cX7_gap 4 = .ok (.ifCond .eq 13, 3) := by decide +kernel
theorem dX7_gap_7 : decode cX7_gap 7 = .ok (.iload_n 2, 1) := by decide +kernel
theorem dX7_gap_8 : decode cX7_gap 8 = .ok (.iconst 0, 1) := by decide +kernel
theorem dX7_gap_9 : decode cX7_gap 9 = .ok (.bipush 8, 2) := by decide +kernel
theorem dX7_gap_11 : decode cX7_gap 11 = .ok (.invokestatic 92, 3) := by decide +kernel
theorem dX7_gap_14 : decode cX7_gap 14 = .ok (.ifCond .ne 5, 3) := by decide +kernel
theorem dX7_gap_17 : decode cX7_gap 17 = .ok (.iconst (-1), 1) := by decide +kernel
theorem dX7_gap_18 : decode cX7_gap 18 = .ok (.ireturn, 1) := by decide +kernel
theorem dX7_gap_19 : decode cX7_gap 19 = .ok (.aload_n 0, 1) := by decide +kernel
theorem dX7_gap_20 : decode cX7_gap 20 = .ok (.iload_n 1, 1) := by decide +kernel
theorem dX7_gap_21 : decode cX7_gap 21 = .ok (.invokevirtual 214, 3) := by decide +kernel
theorem dX7_gap_24 : decode cX7_gap 24 = .ok (.istore_n 3, 1) := by decide +kernel
theorem dX7_gap_25 : decode cX7_gap 25 = .ok (.iload_n 3, 1) := by decide +kernel
theorem dX7_gap_26 : decode cX7_gap 26 = .ok (.ifCond .ge 5, 3) := by decide +kernel
theorem dX7_gap_29 : decode cX7_gap 29 = .ok (.iload_n 3, 1) := by decide +kernel
theorem dX7_gap_30 : decode cX7_gap 30 = .ok (.ireturn, 1) := by decide +kernel
theorem dX7_gap_31 : decode cX7_gap 31 = .ok (.iload_n 2, 1) := by decide +kernel
theorem dX7_gap_32 : decode cX7_gap 32 = .ok (.aload_n 0, 1) := by decide +kernel
theorem dX7_gap_33 : decode cX7_gap 33 = .ok (.getfield 157, 3) := by decide +kernel
theorem dX7_gap_36 : decode cX7_gap 36 = .ok (.iconst 1, 1) := by decide +kernel
theorem dX7_gap_37 : decode cX7_gap 37 = .ok (.isub, 1) := by decide +kernel
theorem dX7_gap_38 : decode cX7_gap 38 = .ok (.if_icmp .lt 9, 3) := by decide +kernel
theorem dX7_gap_41 : decode cX7_gap 41 = .ok (.aload_n 0, 1) := by decide +kernel
theorem dX7_gap_42 : decode cX7_gap 42 = .ok (.iconst 2, 1) := by decide +kernel
theorem dX7_gap_43 : decode cX7_gap 43 = .ok (.invokevirtual 106, 3) := by decide +kernel
theorem dX7_gap_46 : decode cX7_gap 46 = .ok (.ireturn, 1) := by decide +kernel
theorem dX7_gap_47 : decode cX7_gap 47 = .ok (.iconst 0, 1) := by decide +kernel
theorem dX7_gap_48 : decode cX7_gap 48 = .ok (.istore 4, 2) := by decide +kernel
theorem dX7_gap_50 : decode cX7_gap 50 = .ok (.iconst 0, 1) := by decide +kernel
theorem dX7_gap_51 : decode cX7_gap 51 = .ok (.istore 5, 2) := by decide +kernel
theorem dX7_gap_53 : decode cX7_gap 53 = .ok (.iload 5, 2) := by decide +kernel
theorem dX7_gap_55 : decode cX7_gap 55 = .ok (.iload_n 2, 1) := by decide +kernel
theorem dX7_gap_56 : decode cX7_gap 56 = .ok (.if_icmp .gt 23, 3) := by decide +kernel
theorem dX7_gap_59 : decode cX7_gap 59 = .ok (.iload 4, 2) := by decide +kernel
theorem dX7_gap_61 : decode cX7_gap 61 = .ok (.iconst 1, 1) := by decide +kernel
theorem dX7_gap_62 : decode cX7_gap 62 = .ok (.aload_n 0, 1) := by decide +kernel
theorem dX7_gap_63 : decode cX7_gap 63 = .ok (.getfield 41, 3) := by decide +kernel
theorem dX7_gap_66 : decode cX7_gap 66 = .ok (.iload 5, 2) := by decide +kernel
theorem dX7_gap_68 : decode cX7_gap 68 = .ok (.iaload, 1) := by decide +kernel
theorem dX7_gap_69 : decode cX7_gap 69 = .ok (.ishl, 1) := by decide +kernel
theorem dX7_gap_70 : decode cX7_gap 70 = .ok (.ior, 1) := by decide +kernel
theorem dX7_gap_71 : decode cX7_gap 71 = .ok (.istore 4, 2) := by decide +kernel
theorem dX7_gap_73 : decode cX7_gap 73 = .ok (.iinc 5 1, 3) := by decide +kernel
theorem dX7_gap_76 : decode cX7_gap 76 = .ok (.goto (-23), 3) := by decide +kernel
theorem dX7_gap_79 : decode cX7_gap 79 = .ok (.aload_n 0, 1) := by decide +kernel
theorem dX7_gap_80 : decode cX7_gap 80 = .ok (.aload_n 0, 1) := by decide +kernel
theorem dX7_gap_81 : decode cX7_gap 81 = .ok (.iload 4, 2) := by decide +kernel
theorem dX7_gap_83 : decode cX7_gap 83 = .ok (.invokevirtual 198, 3) := by decide +kernel
theorem dX7_gap_86 : decode cX7_gap 86 = .ok (.aload_n 0, 1) := by decide +kernel
theorem dX7_gap_87 : decode cX7_gap 87 = .ok (.iload 4, 2) := by decide +kernel
theorem dX7_gap_89 : decode cX7_gap 89 = .ok (.invokevirtual 195, 3) := by decide +kernel
theorem dX7_gap_92 : decode cX7_gap 92 = .ok (.invokevirtual 114, 3) := by decide +kernel
theorem dX7_gap_95 : decode cX7_gap 95 = .ok (.ireturn, 1) := by decide +kernel
theorem dX7_spot_0 : decode cX7_spot 0 = .ok (.bipush 10, 2) := by decide +kernel
theorem dX7_spot_2 : decode cX7_spot 2 = .ok (.iload_n 0, 1) := by decide +kernel
theorem dX7_spot_3 : decode cX7_spot 3 = .ok (.imul, 1) := by decide +kernel
theorem dX7_spot_4 : decode cX7_spot 4 = .ok (.iload_n 1, 1) := by decide +kernel
theorem dX7_spot_5 : decode cX7_spot 5 = .ok (.iadd, 1) := by decide +kernel
theorem dX7_spot_6 : decode cX7_spot 6 = .ok (.ireturn, 1) := by decide +kernel
theorem dX7_mayCome_0 : decode cX7_mayCome 0 = .ok (.iload_n 1, 1) := by decide +kernel
theorem dX7_mayCome_1 : decode cX7_mayCome 1 = .ok (.invokestatic 226, 3) := by decide +kernel
theorem dX7_mayCome_4 : decode cX7_mayCome 4 = .ok (.istore 4, 2) := by decide +kernel
theorem dX7_mayCome_6 : decode cX7_mayCome 6 = .ok (.iload_n 1, 1) := by decide +kernel
theorem dX7_mayCome_7 : decode cX7_mayCome 7 = .ok (.iload_n 3, 1) := by decide +kernel
theorem dX7_mayCome_8 : decode cX7_mayCome 8 = .ok (.invokestatic 186, 3) := by decide +kernel
theorem dX7_mayCome_11 : decode cX7_mayCome 11 = .ok (.ifCond .ne 50, 3) := by decide +kernel
theorem dX7_mayCome_14 : decode cX7_mayCome 14 = .ok (.aload_n 0, 1) := by decide +kernel
theorem dX7_mayCome_15 : decode cX7_mayCome 15 = .ok (.getfield 85, 3) := by decide +kernel
theorem dX7_mayCome_18 : decode cX7_mayCome 18 = .ok (.iload_n 3, 1) := by decide +kernel
theorem dX7_mayCome_19 : decode cX7_mayCome 19 = .ok (.if_icmp .ne 12, 3) := by decide +kernel
theorem dX7_mayCome_22 : decode cX7_mayCome 22 = .ok (.aload_n 0, 1) := by decide +kernel
theorem dX7_mayCome_23 : decode cX7_mayCome 23 = .ok (.getfield 229, 3) := by decide +kernel
theorem dX7_mayCome_26 : decode cX7_mayCome 26 = .ok (.iload 4, 2) := by decide +kernel
theorem dX7_mayCome_28 : decode cX7_mayCome 28 = .ok (.if_icmp .ne 33, 3) := by decide +kernel
theorem dX7_mayCome_31 : decode cX7_mayCome 31 = .ok (.aload_n 0, 1) := by decide +kernel
theorem dX7_mayCome_32 : decode cX7_mayCome 32 = .ok (.getfield 85, 3) := by decide +kernel
theorem dX7_mayCome_35 : decode cX7_mayCome 35 = .ok (.bipush (-9), 2) := by decide +kernel
theorem dX7_mayCome_37 : decode cX7_mayCome 37 = .ok (.if_icmp .eq 20, 3) := by decide +kernel
theorem dX7_mayCome_40 : decode cX7_mayCome 40 = .ok (.aload_n 0, 1) := by decide +kernel
theorem dX7_mayCome_41 : decode cX7_mayCome 41 = .ok (.getfield 229, 3) := by decide +kernel
theorem dX7_mayCome_44 : decode cX7_mayCome 44 = .ok (.iload 4, 2) := by decide +kernel
theorem dX7_mayCome_46 : decode cX7_mayCome 46 = .ok (.if_icmp .ne 11, 3) := by decide +kernel
theorem dX7_mayCome_49 : decode cX7_mayCome 49 = .ok (.aload_n 0, 1) := by decide +kernel
theorem dX7_mayCome_50 : decode cX7_mayCome 50 = .ok (.getfield 85, 3) := by decide +kernel
theorem dX7_mayCome_53 : decode cX7_mayCome 53 = .ok (.iload_n 3, 1) := by decide +kernel
theorem dX7_mayCome_54 : decode cX7_mayCome 54 = .ok (.if_icmp .ne 7, 3) := by decide +kernel
theorem dX7_mayCome_57 : decode cX7_mayCome 57 = .ok (.iconst 1, 1) := by decide +kernel
theorem dX7_mayCome_58 : decode cX7_mayCome 58 = .ok (.goto 4, 3) := by decide +kernel
theorem dX7_mayCome_61 : decode cX7_mayCome 61 = .ok (.iconst 0, 1) := by decide +kernel
theorem dX7_mayCome_62 : decode cX7_mayCome 62 = .ok (.istore 5, 2) := by decide +kernel
theorem dX7_mayCome_64 : decode cX7_mayCome 64 = .ok (.iconst 0, 1) := by decide +kernel
theorem dX7_mayCome_65 : decode cX7_mayCome 65 = .ok (.istore 6, 2) := by decide +kernel
theorem dX7_mayCome_67 : decode cX7_mayCome 67 = .ok (.iload 6, 2) := by decide +kernel
theorem dX7_mayCome_69 : decode cX7_mayCome 69 = .ok (.aload_n 0, 1) := by decide +kernel
theorem dX7_mayCome_70 : decode cX7_mayCome 70 = .ok (.getfield 160, 3) := by decide +kernel
theorem dX7_mayCome_73 : decode cX7_mayCome 73 = .ok (.if_icmp .ge 46, 3) := by decide +kernel
theorem dX7_mayCome_76 : decode cX7_mayCome 76 = .ok (.iload 5, 2) := by decide +kernel
theorem dX7_mayCome_78 : decode cX7_mayCome 78 = .ok (.ifCond .eq 41, 3) := by decide +kernel
theorem dX7_mayCome_81 : decode cX7_mayCome 81 = .ok (.aload_n 0, 1) := by decide +kernel
theorem dX7_mayCome_82 : decode cX7_mayCome 82 = .ok (.iload 6, 2) := by decide +kernel
theorem dX7_mayCome_84 : decode cX7_mayCome 84 = .ok (.iconst 4, 1) := by decide +kernel
theorem dX7_mayCome_85 : decode cX7_mayCome 85 = .ok (.invokevirtual 180, 3) := by decide +kernel
theorem dX7_mayCome_88 : decode cX7_mayCome 88 = .ok (.iconst 1, 1) := by decide +kernel
theorem dX7_mayCome_89 : decode cX7_mayCome 89 = .ok (.if_icmp .eq 17, 3) := by decide +kernel
theorem dX7_mayCome_92 : decode cX7_mayCome 92 = .ok (.aload_n 0, 1) := by decide +kernel
theorem dX7_mayCome_93 : decode cX7_mayCome 93 = .ok (.iload 6, 2) := by decide +kernel
theorem dX7_mayCome_95 : decode cX7_mayCome 95 = .ok (.iload_n 1, 1) := by decide +kernel
theorem dX7_mayCome_96 : decode cX7_mayCome 96 = .ok (.iload_n 2, 1) := by decide +kernel
theorem dX7_mayCome_97 : decode cX7_mayCome 97 = .ok (.iload_n 3, 1) := by decide +kernel
theorem dX7_mayCome_98 : decode cX7_mayCome 98 = .ok (.iload 4, 2) := by decide +kernel
theorem dX7_mayCome_100 : decode cX7_mayCome 100 = .ok (.invokevirtual 232, 3) := by decide +kernel
theorem dX7_mayCome_103 : decode cX7_mayCome 103 = .ok (.ifCond .eq 7, 3) := by decide +kernel
theorem dX7_mayCome_106 : decode cX7_mayCome 106 = .ok (.iconst 1, 1) := by decide +kernel
theorem dX7_mayCome_107 : decode cX7_mayCome 107 = .ok (.goto 4, 3) := by decide +kernel
theorem dX7_mayCome_110 : decode cX7_mayCome 110 = .ok (.iconst 0, 1) := by decide +kernel
theorem dX7_mayCome_111 : decode cX7_mayCome 111 = .ok (.istore 5, 2) := by decide +kernel
theorem dX7_mayCome_113 : decode cX7_mayCome 113 = .ok (.iinc 6 1, 3) := by decide +kernel
theorem dX7_mayCome_116 : decode cX7_mayCome 116 = .ok (.goto (-49), 3) := by decide +kernel
theorem dX7_mayCome_119 : decode cX7_mayCome 119 = .ok (.iload 5, 2) := by decide +kernel
theorem dX7_mayCome_121 : decode cX7_mayCome 121 = .ok (.ireturn, 1) := by decide +kernel
theorem dX7_keepsBy_0 : decode cX7_keepsBy 0 = .ok (.aload_n 0, 1) := by decide +kernel
theorem dX7_keepsBy_1 : decode cX7_keepsBy 1 = .ok (.iload_n 1, 1) := by decide +kernel
theorem dX7_keepsBy_2 : decode cX7_keepsBy 2 = .ok (.iconst 1, 1) := by decide +kernel
theorem dX7_keepsBy_3 : decode cX7_keepsBy 3 = .ok (.invokevirtual 180, 3) := by decide +kernel
theorem dX7_keepsBy_6 : decode cX7_keepsBy 6 = .ok (.istore 6, 2) := by decide +kernel
theorem dX7_keepsBy_8 : decode cX7_keepsBy 8 = .ok (.aload_n 0, 1) := by decide +kernel
theorem dX7_keepsBy_9 : decode cX7_keepsBy 9 = .ok (.iload_n 1, 1) := by decide +kernel
theorem dX7_keepsBy_10 : decode cX7_keepsBy 10 = .ok (.iconst 2, 1) := by decide +kernel
theorem dX7_keepsBy_11 : decode cX7_keepsBy 11 = .ok (.invokevirtual 180, 3) := by decide +kernel
theorem dX7_keepsBy_14 : decode cX7_keepsBy 14 = .ok (.istore 7, 2) := by decide +kernel
theorem dX7_keepsBy_16 : decode cX7_keepsBy 16 = .ok (.aload_n 0, 1) := by decide +kernel
theorem dX7_keepsBy_17 : decode cX7_keepsBy 17 = .ok (.iload_n 1, 1) := by decide +kernel
theorem dX7_keepsBy_18 : decode cX7_keepsBy 18 = .ok (.iconst 0, 1) := by decide +kernel
theorem dX7_keepsBy_19 : decode cX7_keepsBy 19 = .ok (.invokevirtual 180, 3) := by decide +kernel
theorem dX7_keepsBy_22 : decode cX7_keepsBy 22 = .ok (.tableswitch 197 1 6 #[38, 60, 93, 113, 133, 165], 38) := by decide +kernel
theorem dX7_keepsBy_60 : decode cX7_keepsBy 60 = .ok (.iload 4, 2) := by decide +kernel
theorem dX7_keepsBy_62 : decode cX7_keepsBy 62 = .ok (.iload 7, 2) := by decide +kernel
theorem dX7_keepsBy_64 : decode cX7_keepsBy 64 = .ok (.if_icmp .ne 12, 3) := by decide +kernel
theorem dX7_keepsBy_67 : decode cX7_keepsBy 67 = .ok (.iload_n 2, 1) := by decide +kernel
theorem dX7_keepsBy_68 : decode cX7_keepsBy 68 = .ok (.iload 6, 2) := by decide +kernel
theorem dX7_keepsBy_70 : decode cX7_keepsBy 70 = .ok (.invokestatic 186, 3) := by decide +kernel
theorem dX7_keepsBy_73 : decode cX7_keepsBy 73 = .ok (.ifCond .eq 7, 3) := by decide +kernel
theorem dX7_keepsBy_76 : decode cX7_keepsBy 76 = .ok (.iconst 1, 1) := by decide +kernel
theorem dX7_keepsBy_77 : decode cX7_keepsBy 77 = .ok (.goto 4, 3) := by decide +kernel
theorem dX7_keepsBy_80 : decode cX7_keepsBy 80 = .ok (.iconst 0, 1) := by decide +kernel
theorem dX7_keepsBy_81 : decode cX7_keepsBy 81 = .ok (.ireturn, 1) := by decide +kernel
theorem dX7_keepsBy_82 : decode cX7_keepsBy 82 = .ok (.iload 4, 2) := by decide +kernel
theorem dX7_keepsBy_84 : decode cX7_keepsBy 84 = .ok (.iload 7, 2) := by decide +kernel
theorem dX7_keepsBy_86 : decode cX7_keepsBy 86 = .ok (.if_icmp .ne 17, 3) := by decide +kernel
theorem dX7_keepsBy_89 : decode cX7_keepsBy 89 = .ok (.iload_n 3, 1) := by decide +kernel
theorem dX7_keepsBy_90 : decode cX7_keepsBy 90 = .ok (.iload 6, 2) := by decide +kernel
theorem dX7_keepsBy_92 : decode cX7_keepsBy 92 = .ok (.if_icmp .ne 7, 3) := by decide +kernel
theorem dX7_keepsBy_95 : decode cX7_keepsBy 95 = .ok (.iconst 1, 1) := by decide +kernel
theorem dX7_keepsBy_96 : decode cX7_keepsBy 96 = .ok (.goto 18, 3) := by decide +kernel
theorem dX7_keepsBy_99 : decode cX7_keepsBy 99 = .ok (.iconst 0, 1) := by decide +kernel
theorem dX7_keepsBy_100 : decode cX7_keepsBy 100 = .ok (.goto 14, 3) := by decide +kernel
theorem dX7_keepsBy_103 : decode cX7_keepsBy 103 = .ok (.iload_n 3, 1) := by decide +kernel
theorem dX7_keepsBy_104 : decode cX7_keepsBy 104 = .ok (.iload 6, 2) := by decide +kernel
theorem dX7_keepsBy_106 : decode cX7_keepsBy 106 = .ok (.if_icmp .eq 7, 3) := by decide +kernel
theorem dX7_keepsBy_109 : decode cX7_keepsBy 109 = .ok (.iconst 1, 1) := by decide +kernel
theorem dX7_keepsBy_110 : decode cX7_keepsBy 110 = .ok (.goto 4, 3) := by decide +kernel
theorem dX7_keepsBy_113 : decode cX7_keepsBy 113 = .ok (.iconst 0, 1) := by decide +kernel
theorem dX7_keepsBy_114 : decode cX7_keepsBy 114 = .ok (.ireturn, 1) := by decide +kernel
theorem dX7_keepsBy_115 : decode cX7_keepsBy 115 = .ok (.iload 4, 2) := by decide +kernel
theorem dX7_keepsBy_117 : decode cX7_keepsBy 117 = .ok (.iload 6, 2) := by decide +kernel
theorem dX7_keepsBy_119 : decode cX7_keepsBy 119 = .ok (.if_icmp .ne 10, 3) := by decide +kernel
theorem dX7_keepsBy_122 : decode cX7_keepsBy 122 = .ok (.iload 5, 2) := by decide +kernel
theorem dX7_keepsBy_124 : decode cX7_keepsBy 124 = .ok (.iload 7, 2) := by decide +kernel
theorem dX7_keepsBy_126 : decode cX7_keepsBy 126 = .ok (.if_icmp .ne 7, 3) := by decide +kernel
theorem dX7_keepsBy_129 : decode cX7_keepsBy 129 = .ok (.iconst 1, 1) := by decide +kernel
theorem dX7_keepsBy_130 : decode cX7_keepsBy 130 = .ok (.goto 4, 3) := by decide +kernel
theorem dX7_keepsBy_133 : decode cX7_keepsBy 133 = .ok (.iconst 0, 1) := by decide +kernel
theorem dX7_keepsBy_134 : decode cX7_keepsBy 134 = .ok (.ireturn, 1) := by decide +kernel
theorem dX7_keepsBy_135 : decode cX7_keepsBy 135 = .ok (.iload 4, 2) := by decide +kernel
theorem dX7_keepsBy_137 : decode cX7_keepsBy 137 = .ok (.iload 6, 2) := by decide +kernel
theorem dX7_keepsBy_139 : decode cX7_keepsBy 139 = .ok (.if_icmp .ne 10, 3) := by decide +kernel
theorem dX7_keepsBy_142 : decode cX7_keepsBy 142 = .ok (.iload 5, 2) := by decide +kernel
theorem dX7_keepsBy_144 : decode cX7_keepsBy 144 = .ok (.iload 7, 2) := by decide +kernel
theorem dX7_keepsBy_146 : decode cX7_keepsBy 146 = .ok (.if_icmp .gt 7, 3) := by decide +kernel
theorem dX7_keepsBy_149 : decode cX7_keepsBy 149 = .ok (.iconst 1, 1) := by decide +kernel
theorem dX7_keepsBy_150 : decode cX7_keepsBy 150 = .ok (.goto 4, 3) := by decide +kernel
theorem dX7_keepsBy_153 : decode cX7_keepsBy 153 = .ok (.iconst 0, 1) := by decide +kernel
theorem dX7_keepsBy_154 : decode cX7_keepsBy 154 = .ok (.ireturn, 1) := by decide +kernel
theorem dX7_keepsBy_155 : decode cX7_keepsBy 155 = .ok (.iload 4, 2) := by decide +kernel
theorem dX7_keepsBy_157 : decode cX7_keepsBy 157 = .ok (.iload 6, 2) := by decide +kernel
theorem dX7_keepsBy_159 : decode cX7_keepsBy 159 = .ok (.if_icmp .ne 9, 3) := by decide +kernel
theorem dX7_keepsBy_162 : decode cX7_keepsBy 162 = .ok (.iload_n 3, 1) := by decide +kernel
theorem dX7_keepsBy_163 : decode cX7_keepsBy 163 = .ok (.iload 7, 2) := by decide +kernel
theorem dX7_keepsBy_165 : decode cX7_keepsBy 165 = .ok (.if_icmp .eq 20, 3) := by decide +kernel
theorem dX7_keepsBy_168 : decode cX7_keepsBy 168 = .ok (.iload 4, 2) := by decide +kernel
theorem dX7_keepsBy_170 : decode cX7_keepsBy 170 = .ok (.iload 7, 2) := by decide +kernel
theorem dX7_keepsBy_172 : decode cX7_keepsBy 172 = .ok (.if_icmp .ne 9, 3) := by decide +kernel
theorem dX7_keepsBy_175 : decode cX7_keepsBy 175 = .ok (.iload_n 3, 1) := by decide +kernel
theorem dX7_keepsBy_176 : decode cX7_keepsBy 176 = .ok (.iload 6, 2) := by decide +kernel
theorem dX7_keepsBy_178 : decode cX7_keepsBy 178 = .ok (.if_icmp .eq 7, 3) := by decide +kernel
theorem dX7_keepsBy_181 : decode cX7_keepsBy 181 = .ok (.iconst 1, 1) := by decide +kernel
theorem dX7_keepsBy_182 : decode cX7_keepsBy 182 = .ok (.goto 4, 3) := by decide +kernel
theorem dX7_keepsBy_185 : decode cX7_keepsBy 185 = .ok (.iconst 0, 1) := by decide +kernel
theorem dX7_keepsBy_186 : decode cX7_keepsBy 186 = .ok (.ireturn, 1) := by decide +kernel
theorem dX7_keepsBy_187 : decode cX7_keepsBy 187 = .ok (.iload 4, 2) := by decide +kernel
theorem dX7_keepsBy_189 : decode cX7_keepsBy 189 = .ok (.iload 6, 2) := by decide +kernel
theorem dX7_keepsBy_191 : decode cX7_keepsBy 191 = .ok (.if_icmp .ne 22, 3) := by decide +kernel
theorem dX7_keepsBy_194 : decode cX7_keepsBy 194 = .ok (.iload_n 2, 1) := by decide +kernel
theorem dX7_keepsBy_195 : decode cX7_keepsBy 195 = .ok (.iload 7, 2) := by decide +kernel
theorem dX7_keepsBy_197 : decode cX7_keepsBy 197 = .ok (.invokestatic 186, 3) := by decide +kernel
theorem dX7_keepsBy_200 : decode cX7_keepsBy 200 = .ok (.iload_n 2, 1) := by decide +kernel
theorem dX7_keepsBy_201 : decode cX7_keepsBy 201 = .ok (.aload_n 0, 1) := by decide +kernel
theorem dX7_keepsBy_202 : decode cX7_keepsBy 202 = .ok (.iload_n 1, 1) := by decide +kernel
theorem dX7_keepsBy_203 : decode cX7_keepsBy 203 = .ok (.iconst 3, 1) := by decide +kernel
theorem dX7_keepsBy_204 : decode cX7_keepsBy 204 = .ok (.invokevirtual 180, 3) := by decide +kernel
theorem dX7_keepsBy_207 : decode cX7_keepsBy 207 = .ok (.invokestatic 186, 3) := by decide +kernel
theorem dX7_keepsBy_210 : decode cX7_keepsBy 210 = .ok (.if_icmp .eq 7, 3) := by decide +kernel
theorem dX7_keepsBy_213 : decode cX7_keepsBy 213 = .ok (.iconst 1, 1) := by decide +kernel
theorem dX7_keepsBy_214 : decode cX7_keepsBy 214 = .ok (.goto 4, 3) := by decide +kernel
theorem dX7_keepsBy_217 : decode cX7_keepsBy 217 = .ok (.iconst 0, 1) := by decide +kernel
theorem dX7_keepsBy_218 : decode cX7_keepsBy 218 = .ok (.ireturn, 1) := by decide +kernel
theorem dX7_keepsBy_219 : decode cX7_keepsBy 219 = .ok (.iconst 1, 1) := by decide +kernel
theorem dX7_keepsBy_220 : decode cX7_keepsBy 220 = .ok (.ireturn, 1) := by decide +kernel
theorem dX7_full_0 : decode cX7_full 0 = .ok (.iconst 1, 1) := by decide +kernel
theorem dX7_full_1 : decode cX7_full 1 = .ok (.aload_n 0, 1) := by decide +kernel
theorem dX7_full_2 : decode cX7_full 2 = .ok (.getfield 157, 3) := by decide +kernel
theorem dX7_full_5 : decode cX7_full 5 = .ok (.ishl, 1) := by decide +kernel
theorem dX7_full_6 : decode cX7_full 6 = .ok (.iconst 1, 1) := by decide +kernel
theorem dX7_full_7 : decode cX7_full 7 = .ok (.isub, 1) := by decide +kernel
theorem dX7_full_8 : decode cX7_full 8 = .ok (.ireturn, 1) := by decide +kernel
theorem dX7_layEdges_0 : decode cX7_layEdges 0 = .ok (.iconst 0, 1) := by decide +kernel
theorem dX7_layEdges_1 : decode cX7_layEdges 1 = .ok (.istore_n 3, 1) := by decide +kernel
theorem dX7_layEdges_2 : decode cX7_layEdges 2 = .ok (.iload_n 3, 1) := by decide +kernel
theorem dX7_layEdges_3 : decode cX7_layEdges 3 = .ok (.aload_n 0, 1) := by decide +kernel
theorem dX7_layEdges_4 : decode cX7_layEdges 4 = .ok (.invokevirtual 236, 3) := by decide +kernel
theorem dX7_layEdges_7 : decode cX7_layEdges 7 = .ok (.if_icmp .gt 30, 3) := by decide +kernel
theorem dX7_layEdges_10 : decode cX7_layEdges 10 = .ok (.aload_n 2, 1) := by decide +kernel
theorem dX7_layEdges_11 : decode cX7_layEdges 11 = .ok (.iload_n 3, 1) := by decide +kernel
theorem dX7_layEdges_12 : decode cX7_layEdges 12 = .ok (.iload_n 3, 1) := by decide +kernel
theorem dX7_layEdges_13 : decode cX7_layEdges 13 = .ok (.aload_n 0, 1) := by decide +kernel
theorem dX7_layEdges_14 : decode cX7_layEdges 14 = .ok (.invokevirtual 236, 3) := by decide +kernel
theorem dX7_layEdges_17 : decode cX7_layEdges 17 = .ok (.if_icmp .ne 7, 3) := by decide +kernel
theorem dX7_layEdges_20 : decode cX7_layEdges 20 = .ok (.iconst 0, 1) := by decide +kernel
theorem dX7_layEdges_21 : decode cX7_layEdges 21 = .ok (.goto 9, 3) := by decide +kernel
theorem dX7_layEdges_24 : decode cX7_layEdges 24 = .ok (.aload_n 0, 1) := by decide +kernel
theorem dX7_layEdges_25 : decode cX7_layEdges 25 = .ok (.iload_n 1, 1) := by decide +kernel
theorem dX7_layEdges_26 : decode cX7_layEdges 26 = .ok (.iload_n 3, 1) := by decide +kernel
theorem dX7_layEdges_27 : decode cX7_layEdges 27 = .ok (.invokevirtual 205, 3) := by decide +kernel
theorem dX7_layEdges_30 : decode cX7_layEdges 30 = .ok (.iastore, 1) := by decide +kernel
theorem dX7_layEdges_31 : decode cX7_layEdges 31 = .ok (.iinc 3 1, 3) := by decide +kernel
theorem dX7_layEdges_34 : decode cX7_layEdges 34 = .ok (.goto (-32), 3) := by decide +kernel
theorem dX7_layEdges_37 : decode cX7_layEdges 37 = .ok (.return_, 1) := by decide +kernel
theorem dX7_layBests_0 : decode cX7_layBests 0 = .ok (.aload_n 0, 1) := by decide +kernel
theorem dX7_layBests_1 : decode cX7_layBests 1 = .ok (.iload_n 1, 1) := by decide +kernel
theorem dX7_layBests_2 : decode cX7_layBests 2 = .ok (.aload_n 0, 1) := by decide +kernel
theorem dX7_layBests_3 : decode cX7_layBests 3 = .ok (.getfield 47, 3) := by decide +kernel
theorem dX7_layBests_6 : decode cX7_layBests 6 = .ok (.invokevirtual 239, 3) := by decide +kernel
theorem dX7_layBests_9 : decode cX7_layBests 9 = .ok (.aload_n 0, 1) := by decide +kernel
theorem dX7_layBests_10 : decode cX7_layBests 10 = .ok (.invokevirtual 236, 3) := by decide +kernel
theorem dX7_layBests_13 : decode cX7_layBests 13 = .ok (.istore_n 2, 1) := by decide +kernel
theorem dX7_layBests_14 : decode cX7_layBests 14 = .ok (.iload_n 2, 1) := by decide +kernel
theorem dX7_layBests_15 : decode cX7_layBests 15 = .ok (.ifCond .lt 96, 3) := by decide +kernel
theorem dX7_layBests_18 : decode cX7_layBests 18 = .ok (.iconst 0, 1) := by decide +kernel
theorem dX7_layBests_19 : decode cX7_layBests 19 = .ok (.istore_n 3, 1) := by decide +kernel
theorem dX7_layBests_20 : decode cX7_layBests 20 = .ok (.iload_n 3, 1) := by decide +kernel
theorem dX7_layBests_21 : decode cX7_layBests 21 = .ok (.aload_n 0, 1) := by decide +kernel
theorem dX7_layBests_22 : decode cX7_layBests 22 = .ok (.getfield 157, 3) := by decide +kernel
theorem dX7_layBests_25 : decode cX7_layBests 25 = .ok (.if_icmp .ge 80, 3) := by decide +kernel
theorem dX7_layBests_28 : decode cX7_layBests 28 = .ok (.iload_n 2, 1) := by decide +kernel
theorem dX7_layBests_29 : decode cX7_layBests 29 = .ok (.iload_n 3, 1) := by decide +kernel
theorem dX7_layBests_30 : decode cX7_layBests 30 = .ok (.invokestatic 186, 3) := by decide +kernel
theorem dX7_layBests_33 : decode cX7_layBests 33 = .ok (.ifCond .ne 11, 3) := by decide +kernel
theorem dX7_layBests_36 : decode cX7_layBests 36 = .ok (.iload_n 2, 1) := by decide +kernel
theorem dX7_layBests_37 : decode cX7_layBests 37 = .ok (.ifCond .ne 11, 3) := by decide +kernel
theorem dX7_layBests_40 : decode cX7_layBests 40 = .ok (.iload_n 3, 1) := by decide +kernel
theorem dX7_layBests_41 : decode cX7_layBests 41 = .ok (.ifCond .ne 7, 3) := by decide +kernel
theorem dX7_layBests_44 : decode cX7_layBests 44 = .ok (.iconst 1, 1) := by decide +kernel
theorem dX7_layBests_45 : decode cX7_layBests 45 = .ok (.goto 4, 3) := by decide +kernel
theorem dX7_layBests_48 : decode cX7_layBests 48 = .ok (.iconst 0, 1) := by decide +kernel
theorem dX7_layBests_49 : decode cX7_layBests 49 = .ok (.istore 4, 2) := by decide +kernel
theorem dX7_layBests_51 : decode cX7_layBests 51 = .ok (.aload_n 0, 1) := by decide +kernel
theorem dX7_layBests_52 : decode cX7_layBests 52 = .ok (.getfield 53, 3) := by decide +kernel
theorem dX7_layBests_55 : decode cX7_layBests 55 = .ok (.iload_n 2, 1) := by decide +kernel
theorem dX7_layBests_56 : decode cX7_layBests 56 = .ok (.iload_n 3, 1) := by decide +kernel
theorem dX7_layBests_57 : decode cX7_layBests 57 = .ok (.invokestatic 243, 3) := by decide +kernel
theorem dX7_layBests_60 : decode cX7_layBests 60 = .ok (.iload 4, 2) := by decide +kernel
theorem dX7_layBests_62 : decode cX7_layBests 62 = .ok (.ifCond .ne 8, 3) := by decide +kernel
theorem dX7_layBests_65 : decode cX7_layBests 65 = .ok (.ldc 246, 2) := by decide +kernel
theorem dX7_layBests_67 : decode cX7_layBests 67 = .ok (.goto 31, 3) := by decide +kernel
theorem dX7_layBests_70 : decode cX7_layBests 70 = .ok (.iload_n 2, 1) := by decide +kernel
theorem dX7_layBests_71 : decode cX7_layBests 71 = .ok (.aload_n 0, 1) := by decide +kernel
theorem dX7_layBests_72 : decode cX7_layBests 72 = .ok (.invokevirtual 236, 3) := by decide +kernel
theorem dX7_layBests_75 : decode cX7_layBests 75 = .ok (.if_icmp .ne 7, 3) := by decide +kernel
theorem dX7_layBests_78 : decode cX7_layBests 78 = .ok (.iconst 0, 1) := by decide +kernel
theorem dX7_layBests_79 : decode cX7_layBests 79 = .ok (.goto 19, 3) := by decide +kernel
theorem dX7_layBests_82 : decode cX7_layBests 82 = .ok (.aload_n 0, 1) := by decide +kernel
theorem dX7_layBests_83 : decode cX7_layBests 83 = .ok (.iload_n 1, 1) := by decide +kernel
theorem dX7_layBests_84 : decode cX7_layBests 84 = .ok (.iload_n 2, 1) := by decide +kernel
theorem dX7_layBests_85 : decode cX7_layBests 85 = .ok (.iload_n 2, 1) := by decide +kernel
theorem dX7_layBests_86 : decode cX7_layBests 86 = .ok (.ifCond .ne 8, 3) := by decide +kernel
theorem dX7_layBests_89 : decode cX7_layBests 89 = .ok (.bipush (-9), 2) := by decide +kernel
theorem dX7_layBests_91 : decode cX7_layBests 91 = .ok (.goto 4, 3) := by decide +kernel
theorem dX7_layBests_94 : decode cX7_layBests 94 = .ok (.iload_n 3, 1) := by decide +kernel
theorem dX7_layBests_95 : decode cX7_layBests 95 = .ok (.invokevirtual 247, 3) := by decide +kernel
theorem dX7_layBests_98 : decode cX7_layBests 98 = .ok (.iastore, 1) := by decide +kernel
theorem dX7_layBests_99 : decode cX7_layBests 99 = .ok (.iinc 3 1, 3) := by decide +kernel
theorem dX7_layBests_102 : decode cX7_layBests 102 = .ok (.goto (-82), 3) := by decide +kernel
theorem dX7_layBests_105 : decode cX7_layBests 105 = .ok (.iinc 2 (-1), 3) := by decide +kernel
theorem dX7_layBests_108 : decode cX7_layBests 108 = .ok (.goto (-94), 3) := by decide +kernel
theorem dX7_layBests_111 : decode cX7_layBests 111 = .ok (.aload_n 0, 1) := by decide +kernel
theorem dX7_layBests_112 : decode cX7_layBests 112 = .ok (.aload_n 0, 1) := by decide +kernel
theorem dX7_layBests_113 : decode cX7_layBests 113 = .ok (.getfield 157, 3) := by decide +kernel
theorem dX7_layBests_116 : decode cX7_layBests 116 = .ok (.ifCond .ne 7, 3) := by decide +kernel
theorem dX7_layBests_119 : decode cX7_layBests 119 = .ok (.iconst 0, 1) := by decide +kernel
theorem dX7_layBests_120 : decode cX7_layBests 120 = .ok (.goto 13, 3) := by decide +kernel
theorem dX7_layBests_123 : decode cX7_layBests 123 = .ok (.aload_n 0, 1) := by decide +kernel
theorem dX7_layBests_124 : decode cX7_layBests 124 = .ok (.getfield 53, 3) := by decide +kernel
theorem dX7_layBests_127 : decode cX7_layBests 127 = .ok (.iconst 0, 1) := by decide +kernel
theorem dX7_layBests_128 : decode cX7_layBests 128 = .ok (.iconst 0, 1) := by decide +kernel
theorem dX7_layBests_129 : decode cX7_layBests 129 = .ok (.invokestatic 243, 3) := by decide +kernel
theorem dX7_layBests_132 : decode cX7_layBests 132 = .ok (.iaload, 1) := by decide +kernel
theorem dX7_layBests_133 : decode cX7_layBests 133 = .ok (.putfield 251, 3) := by decide +kernel
theorem dX7_layBests_136 : decode cX7_layBests 136 = .ok (.aload_n 0, 1) := by decide +kernel
theorem dX7_layBests_137 : decode cX7_layBests 137 = .ok (.getfield 251, 3) := by decide +kernel
theorem dX7_layBests_140 : decode cX7_layBests 140 = .ok (.ireturn, 1) := by decide +kernel
theorem dX7_bestFrom_0 : decode cX7_bestFrom 0 = .ok (.ldc 246, 2) := by decide +kernel
theorem dX7_bestFrom_2 : decode cX7_bestFrom 2 = .ok (.istore 4, 2) := by decide +kernel
theorem dX7_bestFrom_4 : decode cX7_bestFrom 4 = .ok (.iconst 0, 1) := by decide +kernel
theorem dX7_bestFrom_5 : decode cX7_bestFrom 5 = .ok (.istore 5, 2) := by decide +kernel
theorem dX7_bestFrom_7 : decode cX7_bestFrom 7 = .ok (.iload 5, 2) := by decide +kernel
theorem dX7_bestFrom_9 : decode cX7_bestFrom 9 = .ok (.aload_n 0, 1) := by decide +kernel
theorem dX7_bestFrom_10 : decode cX7_bestFrom 10 = .ok (.getfield 157, 3) := by decide +kernel
theorem dX7_bestFrom_13 : decode cX7_bestFrom 13 = .ok (.if_icmp .ge 97, 3) := by decide +kernel
theorem dX7_bestFrom_16 : decode cX7_bestFrom 16 = .ok (.aload_n 0, 1) := by decide +kernel
theorem dX7_bestFrom_17 : decode cX7_bestFrom 17 = .ok (.iload_n 2, 1) := by decide +kernel
theorem dX7_bestFrom_18 : decode cX7_bestFrom 18 = .ok (.iload_n 3, 1) := by decide +kernel
theorem dX7_bestFrom_19 : decode cX7_bestFrom 19 = .ok (.iload 5, 2) := by decide +kernel
theorem dX7_bestFrom_21 : decode cX7_bestFrom 21 = .ok (.invokevirtual 254, 3) := by decide +kernel
theorem dX7_bestFrom_24 : decode cX7_bestFrom 24 = .ok (.ifCond .eq 80, 3) := by decide +kernel
theorem dX7_bestFrom_27 : decode cX7_bestFrom 27 = .ok (.iload_n 2, 1) := by decide +kernel
theorem dX7_bestFrom_28 : decode cX7_bestFrom 28 = .ok (.iconst 1, 1) := by decide +kernel
theorem dX7_bestFrom_29 : decode cX7_bestFrom 29 = .ok (.iload 5, 2) := by decide +kernel
theorem dX7_bestFrom_31 : decode cX7_bestFrom 31 = .ok (.ishl, 1) := by decide +kernel
theorem dX7_bestFrom_32 : decode cX7_bestFrom 32 = .ok (.ior, 1) := by decide +kernel
theorem dX7_bestFrom_33 : decode cX7_bestFrom 33 = .ok (.istore 6, 2) := by decide +kernel
theorem dX7_bestFrom_35 : decode cX7_bestFrom 35 = .ok (.aload_n 0, 1) := by decide +kernel
theorem dX7_bestFrom_36 : decode cX7_bestFrom 36 = .ok (.getfield 53, 3) := by decide +kernel
theorem dX7_bestFrom_39 : decode cX7_bestFrom 39 = .ok (.iload 6, 2) := by decide +kernel
theorem dX7_bestFrom_41 : decode cX7_bestFrom 41 = .ok (.iload 5, 2) := by decide +kernel
theorem dX7_bestFrom_43 : decode cX7_bestFrom 43 = .ok (.invokestatic 243, 3) := by decide +kernel
theorem dX7_bestFrom_46 : decode cX7_bestFrom 46 = .ok (.iaload, 1) := by decide +kernel
theorem dX7_bestFrom_47 : decode cX7_bestFrom 47 = .ok (.istore 7, 2) := by decide +kernel
theorem dX7_bestFrom_49 : decode cX7_bestFrom 49 = .ok (.iload 7, 2) := by decide +kernel
theorem dX7_bestFrom_51 : decode cX7_bestFrom 51 = .ok (.ldc 246, 2) := by decide +kernel
theorem dX7_bestFrom_53 : decode cX7_bestFrom 53 = .ok (.if_icmp .lt 8, 3) := by decide +kernel
theorem dX7_bestFrom_56 : decode cX7_bestFrom 56 = .ok (.ldc 246, 2) := by decide +kernel
theorem dX7_bestFrom_58 : decode cX7_bestFrom 58 = .ok (.goto 35, 3) := by decide +kernel
theorem dX7_bestFrom_61 : decode cX7_bestFrom 61 = .ok (.iload_n 1, 1) := by decide +kernel
theorem dX7_bestFrom_62 : decode cX7_bestFrom 62 = .ok (.invokestatic 208, 3) := by decide +kernel
theorem dX7_bestFrom_65 : decode cX7_bestFrom 65 = .ok (.ifCond .eq 16, 3) := by decide +kernel
theorem dX7_bestFrom_68 : decode cX7_bestFrom 68 = .ok (.aload_n 0, 1) := by decide +kernel
theorem dX7_bestFrom_69 : decode cX7_bestFrom 69 = .ok (.getfield 47, 3) := by decide +kernel
theorem dX7_bestFrom_72 : decode cX7_bestFrom 72 = .ok (.iload 6, 2) := by decide +kernel
theorem dX7_bestFrom_74 : decode cX7_bestFrom 74 = .ok (.iaload, 1) := by decide +kernel
theorem dX7_bestFrom_75 : decode cX7_bestFrom 75 = .ok (.iload 7, 2) := by decide +kernel
theorem dX7_bestFrom_77 : decode cX7_bestFrom 77 = .ok (.iadd, 1) := by decide +kernel
theorem dX7_bestFrom_78 : decode cX7_bestFrom 78 = .ok (.goto 15, 3) := by decide +kernel
theorem dX7_bestFrom_81 : decode cX7_bestFrom 81 = .ok (.aload_n 0, 1) := by decide +kernel
theorem dX7_bestFrom_82 : decode cX7_bestFrom 82 = .ok (.getfield 47, 3) := by decide +kernel
theorem dX7_bestFrom_85 : decode cX7_bestFrom 85 = .ok (.iload 6, 2) := by decide +kernel
theorem dX7_bestFrom_87 : decode cX7_bestFrom 87 = .ok (.iaload, 1) := by decide +kernel
theorem dX7_bestFrom_88 : decode cX7_bestFrom 88 = .ok (.iload 7, 2) := by decide +kernel
theorem dX7_bestFrom_90 : decode cX7_bestFrom 90 = .ok (.invokestatic 192, 3) := by decide +kernel
theorem dX7_bestFrom_93 : decode cX7_bestFrom 93 = .ok (.istore 8, 2) := by decide +kernel
theorem dX7_bestFrom_95 : decode cX7_bestFrom 95 = .ok (.iload 4, 2) := by decide +kernel
theorem dX7_bestFrom_97 : decode cX7_bestFrom 97 = .ok (.iload 8, 2) := by decide +kernel
theorem dX7_bestFrom_99 : decode cX7_bestFrom 99 = .ok (.invokestatic 183, 3) := by decide +kernel
theorem dX7_bestFrom_102 : decode cX7_bestFrom 102 = .ok (.istore 4, 2) := by decide +kernel
theorem dX7_bestFrom_104 : decode cX7_bestFrom 104 = .ok (.iinc 5 1, 3) := by decide +kernel
theorem dX7_bestFrom_107 : decode cX7_bestFrom 107 = .ok (.goto (-100), 3) := by decide +kernel
theorem dX7_bestFrom_110 : decode cX7_bestFrom 110 = .ok (.iload 4, 2) := by decide +kernel
theorem dX7_bestFrom_112 : decode cX7_bestFrom 112 = .ok (.ireturn, 1) := by decide +kernel
theorem dX7_isGood_0 : decode cX7_isGood 0 = .ok (.aload_n 0, 1) := by decide +kernel
theorem dX7_isGood_1 : decode cX7_isGood 1 = .ok (.iload_n 2, 1) := by decide +kernel
theorem dX7_isGood_2 : decode cX7_isGood 2 = .ok (.iload_n 3, 1) := by decide +kernel
theorem dX7_isGood_3 : decode cX7_isGood 3 = .ok (.iload 4, 2) := by decide +kernel
theorem dX7_isGood_5 : decode cX7_isGood 5 = .ok (.invokevirtual 254, 3) := by decide +kernel
theorem dX7_isGood_8 : decode cX7_isGood 8 = .ok (.ifCond .ne 5, 3) := by decide +kernel
theorem dX7_isGood_11 : decode cX7_isGood 11 = .ok (.iconst 0, 1) := by decide +kernel
theorem dX7_isGood_12 : decode cX7_isGood 12 = .ok (.ireturn, 1) := by decide +kernel
theorem dX7_isGood_13 : decode cX7_isGood 13 = .ok (.iload_n 2, 1) := by decide +kernel
theorem dX7_isGood_14 : decode cX7_isGood 14 = .ok (.iconst 1, 1) := by decide +kernel
theorem dX7_isGood_15 : decode cX7_isGood 15 = .ok (.iload 4, 2) := by decide +kernel
theorem dX7_isGood_17 : decode cX7_isGood 17 = .ok (.ishl, 1) := by decide +kernel
theorem dX7_isGood_18 : decode cX7_isGood 18 = .ok (.ior, 1) := by decide +kernel
theorem dX7_isGood_19 : decode cX7_isGood 19 = .ok (.istore 5, 2) := by decide +kernel
theorem dX7_isGood_21 : decode cX7_isGood 21 = .ok (.aload_n 0, 1) := by decide +kernel
theorem dX7_isGood_22 : decode cX7_isGood 22 = .ok (.getfield 53, 3) := by decide +kernel
theorem dX7_isGood_25 : decode cX7_isGood 25 = .ok (.iload 5, 2) := by decide +kernel
theorem dX7_isGood_27 : decode cX7_isGood 27 = .ok (.iload 4, 2) := by decide +kernel
theorem dX7_isGood_29 : decode cX7_isGood 29 = .ok (.invokestatic 243, 3) := by decide +kernel
theorem dX7_isGood_32 : decode cX7_isGood 32 = .ok (.iaload, 1) := by decide +kernel
theorem dX7_isGood_33 : decode cX7_isGood 33 = .ok (.istore 6, 2) := by decide +kernel
theorem dX7_isGood_35 : decode cX7_isGood 35 = .ok (.iload 6, 2) := by decide +kernel
theorem dX7_isGood_37 : decode cX7_isGood 37 = .ok (.ldc 246, 2) := by decide +kernel
theorem dX7_isGood_39 : decode cX7_isGood 39 = .ok (.if_icmp .lt 5, 3) := by decide +kernel
theorem dX7_isGood_42 : decode cX7_isGood 42 = .ok (.iconst 0, 1) := by decide +kernel
theorem dX7_isGood_43 : decode cX7_isGood 43 = .ok (.ireturn, 1) := by decide +kernel
theorem dX7_isGood_44 : decode cX7_isGood 44 = .ok (.iload_n 1, 1) := by decide +kernel
theorem dX7_isGood_45 : decode cX7_isGood 45 = .ok (.invokestatic 208, 3) := by decide +kernel
theorem dX7_isGood_48 : decode cX7_isGood 48 = .ok (.ifCond .eq 42, 3) := by decide +kernel
theorem dX7_isGood_51 : decode cX7_isGood 51 = .ok (.aload_n 0, 1) := by decide +kernel
theorem dX7_isGood_52 : decode cX7_isGood 52 = .ok (.getfield 47, 3) := by decide +kernel
theorem dX7_isGood_55 : decode cX7_isGood 55 = .ok (.iload 5, 2) := by decide +kernel
theorem dX7_isGood_57 : decode cX7_isGood 57 = .ok (.iaload, 1) := by decide +kernel
theorem dX7_isGood_58 : decode cX7_isGood 58 = .ok (.iload 6, 2) := by decide +kernel
theorem dX7_isGood_60 : decode cX7_isGood 60 = .ok (.iadd, 1) := by decide +kernel
theorem dX7_isGood_61 : decode cX7_isGood 61 = .ok (.aload_n 0, 1) := by decide +kernel
theorem dX7_isGood_62 : decode cX7_isGood 62 = .ok (.getfield 53, 3) := by decide +kernel
theorem dX7_isGood_65 : decode cX7_isGood 65 = .ok (.iload_n 2, 1) := by decide +kernel
theorem dX7_isGood_66 : decode cX7_isGood 66 = .ok (.iload_n 2, 1) := by decide +kernel
theorem dX7_isGood_67 : decode cX7_isGood 67 = .ok (.ifCond .ne 7, 3) := by decide +kernel
theorem dX7_isGood_70 : decode cX7_isGood 70 = .ok (.iconst 0, 1) := by decide +kernel
theorem dX7_isGood_71 : decode cX7_isGood 71 = .ok (.goto 4, 3) := by decide +kernel
theorem dX7_isGood_74 : decode cX7_isGood 74 = .ok (.iload_n 3, 1) := by decide +kernel
theorem dX7_isGood_75 : decode cX7_isGood 75 = .ok (.invokestatic 243, 3) := by decide +kernel
theorem dX7_isGood_78 : decode cX7_isGood 78 = .ok (.iaload, 1) := by decide +kernel
theorem dX7_isGood_79 : decode cX7_isGood 79 = .ok (.if_icmp .ne 7, 3) := by decide +kernel
theorem dX7_isGood_82 : decode cX7_isGood 82 = .ok (.iconst 1, 1) := by decide +kernel
theorem dX7_isGood_83 : decode cX7_isGood 83 = .ok (.goto 35, 3) := by decide +kernel
theorem dX7_isGood_86 : decode cX7_isGood 86 = .ok (.iconst 0, 1) := by decide +kernel
theorem dX7_isGood_87 : decode cX7_isGood 87 = .ok (.goto 31, 3) := by decide +kernel
theorem dX7_isGood_90 : decode cX7_isGood 90 = .ok (.aload_n 0, 1) := by decide +kernel
theorem dX7_isGood_91 : decode cX7_isGood 91 = .ok (.getfield 47, 3) := by decide +kernel
theorem dX7_isGood_94 : decode cX7_isGood 94 = .ok (.iload 5, 2) := by decide +kernel
theorem dX7_isGood_96 : decode cX7_isGood 96 = .ok (.iaload, 1) := by decide +kernel
theorem dX7_isGood_97 : decode cX7_isGood 97 = .ok (.aload_n 0, 1) := by decide +kernel
theorem dX7_isGood_98 : decode cX7_isGood 98 = .ok (.getfield 251, 3) := by decide +kernel
theorem dX7_isGood_101 : decode cX7_isGood 101 = .ok (.if_icmp .gt 16, 3) := by decide +kernel
theorem dX7_isGood_104 : decode cX7_isGood 104 = .ok (.iload 6, 2) := by decide +kernel
theorem dX7_isGood_106 : decode cX7_isGood 106 = .ok (.aload_n 0, 1) := by decide +kernel
theorem dX7_isGood_107 : decode cX7_isGood 107 = .ok (.getfield 251, 3) := by decide +kernel
theorem dX7_isGood_110 : decode cX7_isGood 110 = .ok (.if_icmp .gt 7, 3) := by decide +kernel
theorem dX7_isGood_113 : decode cX7_isGood 113 = .ok (.iconst 1, 1) := by decide +kernel
theorem dX7_isGood_114 : decode cX7_isGood 114 = .ok (.goto 4, 3) := by decide +kernel
theorem dX7_isGood_117 : decode cX7_isGood 117 = .ok (.iconst 0, 1) := by decide +kernel
theorem dX7_isGood_118 : decode cX7_isGood 118 = .ok (.ireturn, 1) := by decide +kernel
theorem dX7_layWays_0 : decode cX7_layWays 0 = .ok (.aload_n 0, 1) := by decide +kernel
theorem dX7_layWays_1 : decode cX7_layWays 1 = .ok (.invokevirtual 236, 3) := by decide +kernel
theorem dX7_layWays_4 : decode cX7_layWays 4 = .ok (.istore_n 2, 1) := by decide +kernel
theorem dX7_layWays_5 : decode cX7_layWays 5 = .ok (.iload_n 2, 1) := by decide +kernel
theorem dX7_layWays_6 : decode cX7_layWays 6 = .ok (.ifCond .lt 148, 3) := by decide +kernel
theorem dX7_layWays_9 : decode cX7_layWays 9 = .ok (.iconst 0, 1) := by decide +kernel
theorem dX7_layWays_10 : decode cX7_layWays 10 = .ok (.istore_n 3, 1) := by decide +kernel
theorem dX7_layWays_11 : decode cX7_layWays 11 = .ok (.iload_n 3, 1) := by decide +kernel
theorem dX7_layWays_12 : decode cX7_layWays 12 = .ok (.aload_n 0, 1) := by decide +kernel
theorem dX7_layWays_13 : decode cX7_layWays 13 = .ok (.getfield 157, 3) := by decide +kernel
theorem dX7_layWays_16 : decode cX7_layWays 16 = .ok (.if_icmp .ge 132, 3) := by decide +kernel
theorem dX7_layWays_19 : decode cX7_layWays 19 = .ok (.iload_n 2, 1) := by decide +kernel
theorem dX7_layWays_20 : decode cX7_layWays 20 = .ok (.aload_n 0, 1) := by decide +kernel
theorem dX7_layWays_21 : decode cX7_layWays 21 = .ok (.invokevirtual 236, 3) := by decide +kernel
theorem dX7_layWays_24 : decode cX7_layWays 24 = .ok (.if_icmp .ne 15, 3) := by decide +kernel
theorem dX7_layWays_27 : decode cX7_layWays 27 = .ok (.iload_n 2, 1) := by decide +kernel
theorem dX7_layWays_28 : decode cX7_layWays 28 = .ok (.iload_n 3, 1) := by decide +kernel
theorem dX7_layWays_29 : decode cX7_layWays 29 = .ok (.invokestatic 186, 3) := by decide +kernel
theorem dX7_layWays_32 : decode cX7_layWays 32 = .ok (.ifCond .eq 7, 3) := by decide +kernel
theorem dX7_layWays_35 : decode cX7_layWays 35 = .ok (.iconst 1, 1) := by decide +kernel
theorem dX7_layWays_36 : decode cX7_layWays 36 = .ok (.goto 4, 3) := by decide +kernel
theorem dX7_layWays_39 : decode cX7_layWays 39 = .ok (.iconst 0, 1) := by decide +kernel
theorem dX7_layWays_40 : decode cX7_layWays 40 = .ok (.istore 4, 2) := by decide +kernel
theorem dX7_layWays_42 : decode cX7_layWays 42 = .ok (.iload_n 2, 1) := by decide +kernel
theorem dX7_layWays_43 : decode cX7_layWays 43 = .ok (.aload_n 0, 1) := by decide +kernel
theorem dX7_layWays_44 : decode cX7_layWays 44 = .ok (.invokevirtual 236, 3) := by decide +kernel
theorem dX7_layWays_47 : decode cX7_layWays 47 = .ok (.if_icmp .ge 83, 3) := by decide +kernel
theorem dX7_layWays_50 : decode cX7_layWays 50 = .ok (.iload_n 2, 1) := by decide +kernel
theorem dX7_layWays_51 : decode cX7_layWays 51 = .ok (.iload_n 3, 1) := by decide +kernel
theorem dX7_layWays_52 : decode cX7_layWays 52 = .ok (.invokestatic 186, 3) := by decide +kernel
theorem dX7_layWays_55 : decode cX7_layWays 55 = .ok (.ifCond .ne 11, 3) := by decide +kernel
theorem dX7_layWays_58 : decode cX7_layWays 58 = .ok (.iload_n 2, 1) := by decide +kernel
theorem dX7_layWays_59 : decode cX7_layWays 59 = .ok (.ifCond .ne 71, 3) := by decide +kernel
theorem dX7_layWays_62 : decode cX7_layWays 62 = .ok (.iload_n 3, 1) := by decide +kernel
theorem dX7_layWays_63 : decode cX7_layWays 63 = .ok (.ifCond .ne 67, 3) := by decide +kernel
theorem dX7_layWays_66 : decode cX7_layWays 66 = .ok (.iconst 0, 1) := by decide +kernel
theorem dX7_layWays_67 : decode cX7_layWays 67 = .ok (.istore 5, 2) := by decide +kernel
theorem dX7_layWays_69 : decode cX7_layWays 69 = .ok (.iload 5, 2) := by decide +kernel
theorem dX7_layWays_71 : decode cX7_layWays 71 = .ok (.aload_n 0, 1) := by decide +kernel
theorem dX7_layWays_72 : decode cX7_layWays 72 = .ok (.getfield 157, 3) := by decide +kernel
theorem dX7_layWays_75 : decode cX7_layWays 75 = .ok (.if_icmp .ge 55, 3) := by decide +kernel
theorem dX7_layWays_78 : decode cX7_layWays 78 = .ok (.iload 4, 2) := by decide +kernel
theorem dX7_layWays_80 : decode cX7_layWays 80 = .ok (.aload_n 0, 1) := by decide +kernel
theorem dX7_layWays_81 : decode cX7_layWays 81 = .ok (.iload_n 1, 1) := by decide +kernel
theorem dX7_layWays_82 : decode cX7_layWays 82 = .ok (.iload_n 2, 1) := by decide +kernel
theorem dX7_layWays_83 : decode cX7_layWays 83 = .ok (.iload_n 2, 1) := by decide +kernel
theorem dX7_layWays_84 : decode cX7_layWays 84 = .ok (.ifCond .ne 8, 3) := by decide +kernel
theorem dX7_layWays_87 : decode cX7_layWays 87 = .ok (.bipush (-9), 2) := by decide +kernel
theorem dX7_layWays_89 : decode cX7_layWays 89 = .ok (.goto 4, 3) := by decide +kernel
theorem dX7_layWays_92 : decode cX7_layWays 92 = .ok (.iload_n 3, 1) := by decide +kernel
theorem dX7_layWays_93 : decode cX7_layWays 93 = .ok (.iload 5, 2) := by decide +kernel
theorem dX7_layWays_95 : decode cX7_layWays 95 = .ok (.invokevirtual 257, 3) := by decide +kernel
theorem dX7_layWays_98 : decode cX7_layWays 98 = .ok (.ifCond .eq 22, 3) := by decide +kernel
theorem dX7_layWays_101 : decode cX7_layWays 101 = .ok (.aload_n 0, 1) := by decide +kernel
theorem dX7_layWays_102 : decode cX7_layWays 102 = .ok (.getfield 56, 3) := by decide +kernel
theorem dX7_layWays_105 : decode cX7_layWays 105 = .ok (.iload_n 2, 1) := by decide +kernel
theorem dX7_layWays_106 : decode cX7_layWays 106 = .ok (.iconst 1, 1) := by decide +kernel
theorem dX7_layWays_107 : decode cX7_layWays 107 = .ok (.iload 5, 2) := by decide +kernel
theorem dX7_layWays_109 : decode cX7_layWays 109 = .ok (.ishl, 1) := by decide +kernel
theorem dX7_layWays_110 : decode cX7_layWays 110 = .ok (.ior, 1) := by decide +kernel
theorem dX7_layWays_111 : decode cX7_layWays 111 = .ok (.iload 5, 2) := by decide +kernel
theorem dX7_layWays_113 : decode cX7_layWays 113 = .ok (.invokestatic 243, 3) := by decide +kernel
theorem dX7_layWays_116 : decode cX7_layWays 116 = .ok (.iaload, 1) := by decide +kernel
theorem dX7_layWays_117 : decode cX7_layWays 117 = .ok (.goto 4, 3) := by decide +kernel
theorem dX7_layWays_120 : decode cX7_layWays 120 = .ok (.iconst 0, 1) := by decide +kernel
theorem dX7_layWays_121 : decode cX7_layWays 121 = .ok (.iadd, 1) := by decide +kernel
theorem dX7_layWays_122 : decode cX7_layWays 122 = .ok (.istore 4, 2) := by decide +kernel
theorem dX7_layWays_124 : decode cX7_layWays 124 = .ok (.iinc 5 1, 3) := by decide +kernel
theorem dX7_layWays_127 : decode cX7_layWays 127 = .ok (.goto (-58), 3) := by decide +kernel
theorem dX7_layWays_130 : decode cX7_layWays 130 = .ok (.aload_n 0, 1) := by decide +kernel
theorem dX7_layWays_131 : decode cX7_layWays 131 = .ok (.getfield 56, 3) := by decide +kernel
theorem dX7_layWays_134 : decode cX7_layWays 134 = .ok (.iload_n 2, 1) := by decide +kernel
theorem dX7_layWays_135 : decode cX7_layWays 135 = .ok (.iload_n 3, 1) := by decide +kernel
theorem dX7_layWays_136 : decode cX7_layWays 136 = .ok (.invokestatic 243, 3) := by decide +kernel
theorem dX7_layWays_139 : decode cX7_layWays 139 = .ok (.iload 4, 2) := by decide +kernel
theorem dX7_layWays_141 : decode cX7_layWays 141 = .ok (.iastore, 1) := by decide +kernel
theorem dX7_layWays_142 : decode cX7_layWays 142 = .ok (.iinc 3 1, 3) := by decide +kernel
theorem dX7_layWays_145 : decode cX7_layWays 145 = .ok (.goto (-134), 3) := by decide +kernel
theorem dX7_layWays_148 : decode cX7_layWays 148 = .ok (.iinc 2 (-1), 3) := by decide +kernel
theorem dX7_layWays_151 : decode cX7_layWays 151 = .ok (.goto (-146), 3) := by decide +kernel
theorem dX7_layWays_154 : decode cX7_layWays 154 = .ok (.aload_n 0, 1) := by decide +kernel
theorem dX7_layWays_155 : decode cX7_layWays 155 = .ok (.aload_n 0, 1) := by decide +kernel
theorem dX7_layWays_156 : decode cX7_layWays 156 = .ok (.getfield 157, 3) := by decide +kernel
theorem dX7_layWays_159 : decode cX7_layWays 159 = .ok (.ifCond .ne 7, 3) := by decide +kernel
theorem dX7_layWays_162 : decode cX7_layWays 162 = .ok (.iconst 1, 1) := by decide +kernel
theorem dX7_layWays_163 : decode cX7_layWays 163 = .ok (.goto 13, 3) := by decide +kernel
theorem dX7_layWays_166 : decode cX7_layWays 166 = .ok (.aload_n 0, 1) := by decide +kernel
theorem dX7_layWays_167 : decode cX7_layWays 167 = .ok (.getfield 56, 3) := by decide +kernel
theorem dX7_layWays_170 : decode cX7_layWays 170 = .ok (.iconst 0, 1) := by decide +kernel
theorem dX7_layWays_171 : decode cX7_layWays 171 = .ok (.iconst 0, 1) := by decide +kernel
theorem dX7_layWays_172 : decode cX7_layWays 172 = .ok (.invokestatic 243, 3) := by decide +kernel
theorem dX7_layWays_175 : decode cX7_layWays 175 = .ok (.iaload, 1) := by decide +kernel
theorem dX7_layWays_176 : decode cX7_layWays 176 = .ok (.putfield 260, 3) := by decide +kernel
theorem dX7_layWays_179 : decode cX7_layWays 179 = .ok (.return_, 1) := by decide +kernel
theorem dX7_layComes_0 : decode cX7_layComes 0 = .ok (.iconst 0, 1) := by decide +kernel
theorem dX7_layComes_1 : decode cX7_layComes 1 = .ok (.istore_n 2, 1) := by decide +kernel
theorem dX7_layComes_2 : decode cX7_layComes 2 = .ok (.iload_n 2, 1) := by decide +kernel
theorem dX7_layComes_3 : decode cX7_layComes 3 = .ok (.aload_n 0, 1) := by decide +kernel
theorem dX7_layComes_4 : decode cX7_layComes 4 = .ok (.invokevirtual 236, 3) := by decide +kernel
theorem dX7_layComes_7 : decode cX7_layComes 7 = .ok (.if_icmp .gt 48, 3) := by decide +kernel
theorem dX7_layComes_10 : decode cX7_layComes 10 = .ok (.iconst 0, 1) := by decide +kernel
theorem dX7_layComes_11 : decode cX7_layComes 11 = .ok (.istore_n 3, 1) := by decide +kernel
theorem dX7_layComes_12 : decode cX7_layComes 12 = .ok (.iload_n 3, 1) := by decide +kernel
theorem dX7_layComes_13 : decode cX7_layComes 13 = .ok (.aload_n 0, 1) := by decide +kernel
theorem dX7_layComes_14 : decode cX7_layComes 14 = .ok (.getfield 157, 3) := by decide +kernel
theorem dX7_layComes_17 : decode cX7_layComes 17 = .ok (.if_icmp .ge 32, 3) := by decide +kernel
theorem dX7_layComes_20 : decode cX7_layComes 20 = .ok (.aload_n 0, 1) := by decide +kernel
theorem dX7_layComes_21 : decode cX7_layComes 21 = .ok (.getfield 59, 3) := by decide +kernel
theorem dX7_layComes_24 : decode cX7_layComes 24 = .ok (.iload_n 2, 1) := by decide +kernel
theorem dX7_layComes_25 : decode cX7_layComes 25 = .ok (.iload_n 3, 1) := by decide +kernel
theorem dX7_layComes_26 : decode cX7_layComes 26 = .ok (.invokestatic 243, 3) := by decide +kernel
theorem dX7_layComes_29 : decode cX7_layComes 29 = .ok (.iload_n 2, 1) := by decide +kernel
theorem dX7_layComes_30 : decode cX7_layComes 30 = .ok (.ifCond .ne 11, 3) := by decide +kernel
theorem dX7_layComes_33 : decode cX7_layComes 33 = .ok (.iload_n 3, 1) := by decide +kernel
theorem dX7_layComes_34 : decode cX7_layComes 34 = .ok (.ifCond .ne 7, 3) := by decide +kernel
theorem dX7_layComes_37 : decode cX7_layComes 37 = .ok (.iconst 1, 1) := by decide +kernel
theorem dX7_layComes_38 : decode cX7_layComes 38 = .ok (.goto 4, 3) := by decide +kernel
theorem dX7_layComes_41 : decode cX7_layComes 41 = .ok (.iconst 0, 1) := by decide +kernel
theorem dX7_layComes_42 : decode cX7_layComes 42 = .ok (.iastore, 1) := by decide +kernel
theorem dX7_layComes_43 : decode cX7_layComes 43 = .ok (.iinc 3 1, 3) := by decide +kernel
theorem dX7_layComes_46 : decode cX7_layComes 46 = .ok (.goto (-34), 3) := by decide +kernel
theorem dX7_layComes_49 : decode cX7_layComes 49 = .ok (.iinc 2 1, 3) := by decide +kernel
theorem dX7_layComes_52 : decode cX7_layComes 52 = .ok (.goto (-50), 3) := by decide +kernel
theorem dX7_layComes_55 : decode cX7_layComes 55 = .ok (.iconst 0, 1) := by decide +kernel
theorem dX7_layComes_56 : decode cX7_layComes 56 = .ok (.istore_n 2, 1) := by decide +kernel
theorem dX7_layComes_57 : decode cX7_layComes 57 = .ok (.iload_n 2, 1) := by decide +kernel
theorem dX7_layComes_58 : decode cX7_layComes 58 = .ok (.aload_n 0, 1) := by decide +kernel
theorem dX7_layComes_59 : decode cX7_layComes 59 = .ok (.invokevirtual 236, 3) := by decide +kernel
theorem dX7_layComes_62 : decode cX7_layComes 62 = .ok (.if_icmp .ge 106, 3) := by decide +kernel
theorem dX7_layComes_65 : decode cX7_layComes 65 = .ok (.iconst 0, 1) := by decide +kernel
theorem dX7_layComes_66 : decode cX7_layComes 66 = .ok (.istore_n 3, 1) := by decide +kernel
theorem dX7_layComes_67 : decode cX7_layComes 67 = .ok (.iload_n 3, 1) := by decide +kernel
theorem dX7_layComes_68 : decode cX7_layComes 68 = .ok (.aload_n 0, 1) := by decide +kernel
theorem dX7_layComes_69 : decode cX7_layComes 69 = .ok (.getfield 157, 3) := by decide +kernel
theorem dX7_layComes_72 : decode cX7_layComes 72 = .ok (.if_icmp .ge 90, 3) := by decide +kernel
theorem dX7_layComes_75 : decode cX7_layComes 75 = .ok (.aload_n 0, 1) := by decide +kernel
theorem dX7_layComes_76 : decode cX7_layComes 76 = .ok (.getfield 59, 3) := by decide +kernel
theorem dX7_layComes_79 : decode cX7_layComes 79 = .ok (.iload_n 2, 1) := by decide +kernel
theorem dX7_layComes_80 : decode cX7_layComes 80 = .ok (.iload_n 3, 1) := by decide +kernel
theorem dX7_layComes_81 : decode cX7_layComes 81 = .ok (.invokestatic 243, 3) := by decide +kernel
theorem dX7_layComes_84 : decode cX7_layComes 84 = .ok (.iaload, 1) := by decide +kernel
theorem dX7_layComes_85 : decode cX7_layComes 85 = .ok (.ifCond .le 71, 3) := by decide +kernel
theorem dX7_layComes_88 : decode cX7_layComes 88 = .ok (.iconst 0, 1) := by decide +kernel
theorem dX7_layComes_89 : decode cX7_layComes 89 = .ok (.istore 4, 2) := by decide +kernel
theorem dX7_layComes_91 : decode cX7_layComes 91 = .ok (.iload 4, 2) := by decide +kernel
theorem dX7_layComes_93 : decode cX7_layComes 93 = .ok (.aload_n 0, 1) := by decide +kernel
theorem dX7_layComes_94 : decode cX7_layComes 94 = .ok (.getfield 157, 3) := by decide +kernel
theorem dX7_layComes_97 : decode cX7_layComes 97 = .ok (.if_icmp .ge 59, 3) := by decide +kernel
theorem dX7_layComes_100 : decode cX7_layComes 100 = .ok (.aload_n 0, 1) := by decide +kernel
theorem dX7_layComes_101 : decode cX7_layComes 101 = .ok (.iload_n 1, 1) := by decide +kernel
theorem dX7_layComes_102 : decode cX7_layComes 102 = .ok (.iload_n 2, 1) := by decide +kernel
theorem dX7_layComes_103 : decode cX7_layComes 103 = .ok (.iload_n 2, 1) := by decide +kernel
theorem dX7_layComes_104 : decode cX7_layComes 104 = .ok (.ifCond .ne 8, 3) := by decide +kernel
theorem dX7_layComes_107 : decode cX7_layComes 107 = .ok (.bipush (-9), 2) := by decide +kernel
theorem dX7_layComes_109 : decode cX7_layComes 109 = .ok (.goto 4, 3) := by decide +kernel
theorem dX7_layComes_112 : decode cX7_layComes 112 = .ok (.iload_n 3, 1) := by decide +kernel
theorem dX7_layComes_113 : decode cX7_layComes 113 = .ok (.iload 4, 2) := by decide +kernel
theorem dX7_layComes_115 : decode cX7_layComes 115 = .ok (.invokevirtual 257, 3) := by decide +kernel
theorem dX7_layComes_118 : decode cX7_layComes 118 = .ok (.ifCond .eq 32, 3) := by decide +kernel
theorem dX7_layComes_121 : decode cX7_layComes 121 = .ok (.aload_n 0, 1) := by decide +kernel
theorem dX7_layComes_122 : decode cX7_layComes 122 = .ok (.getfield 59, 3) := by decide +kernel
theorem dX7_layComes_125 : decode cX7_layComes 125 = .ok (.iload_n 2, 1) := by decide +kernel
theorem dX7_layComes_126 : decode cX7_layComes 126 = .ok (.iconst 1, 1) := by decide +kernel
theorem dX7_layComes_127 : decode cX7_layComes 127 = .ok (.iload 4, 2) := by decide +kernel
theorem dX7_layComes_129 : decode cX7_layComes 129 = .ok (.ishl, 1) := by decide +kernel
theorem dX7_layComes_130 : decode cX7_layComes 130 = .ok (.ior, 1) := by decide +kernel
theorem dX7_layComes_131 : decode cX7_layComes 131 = .ok (.iload 4, 2) := by decide +kernel
theorem dX7_layComes_133 : decode cX7_layComes 133 = .ok (.invokestatic 243, 3) := by decide +kernel
theorem dX7_layComes_136 : decode cX7_layComes 136 = .ok (.dup2, 1) := by decide +kernel
theorem dX7_layComes_137 : decode cX7_layComes 137 = .ok (.iaload, 1) := by decide +kernel
theorem dX7_layComes_138 : decode cX7_layComes 138 = .ok (.aload_n 0, 1) := by decide +kernel
theorem dX7_layComes_139 : decode cX7_layComes 139 = .ok (.getfield 59, 3) := by decide +kernel
theorem dX7_layComes_142 : decode cX7_layComes 142 = .ok (.iload_n 2, 1) := by decide +kernel
theorem dX7_layComes_143 : decode cX7_layComes 143 = .ok (.iload_n 3, 1) := by decide +kernel
theorem dX7_layComes_144 : decode cX7_layComes 144 = .ok (.invokestatic 243, 3) := by decide +kernel
theorem dX7_layComes_147 : decode cX7_layComes 147 = .ok (.iaload, 1) := by decide +kernel
theorem dX7_layComes_148 : decode cX7_layComes 148 = .ok (.iadd, 1) := by decide +kernel
theorem dX7_layComes_149 : decode cX7_layComes 149 = .ok (.iastore, 1) := by decide +kernel
theorem dX7_layComes_150 : decode cX7_layComes 150 = .ok (.iinc 4 1, 3) := by decide +kernel
theorem dX7_layComes_153 : decode cX7_layComes 153 = .ok (.goto (-62), 3) := by decide +kernel
theorem dX7_layComes_156 : decode cX7_layComes 156 = .ok (.iinc 3 1, 3) := by decide +kernel
theorem dX7_layComes_159 : decode cX7_layComes 159 = .ok (.goto (-92), 3) := by decide +kernel
theorem dX7_layComes_162 : decode cX7_layComes 162 = .ok (.iinc 2 1, 3) := by decide +kernel
theorem dX7_layComes_165 : decode cX7_layComes 165 = .ok (.goto (-108), 3) := by decide +kernel
theorem dX7_layComes_168 : decode cX7_layComes 168 = .ok (.return_, 1) := by decide +kernel
theorem dX7_firstLine_0 : decode cX7_firstLine 0 = .ok (.iconst 0, 1) := by decide +kernel
theorem dX7_firstLine_1 : decode cX7_firstLine 1 = .ok (.istore_n 1, 1) := by decide +kernel
theorem dX7_firstLine_2 : decode cX7_firstLine 2 = .ok (.iload_n 1, 1) := by decide +kernel
theorem dX7_firstLine_3 : decode cX7_firstLine 3 = .ok (.aload_n 0, 1) := by decide +kernel
theorem dX7_firstLine_4 : decode cX7_firstLine 4 = .ok (.getfield 157, 3) := by decide +kernel
theorem dX7_firstLine_7 : decode cX7_firstLine 7 = .ok (.if_icmp .ge 16, 3) := by decide +kernel
theorem dX7_firstLine_10 : decode cX7_firstLine 10 = .ok (.aload_n 0, 1) := by decide +kernel
theorem dX7_firstLine_11 : decode cX7_firstLine 11 = .ok (.getfield 41, 3) := by decide +kernel
theorem dX7_firstLine_14 : decode cX7_firstLine 14 = .ok (.iload_n 1, 1) := by decide +kernel
theorem dX7_firstLine_15 : decode cX7_firstLine 15 = .ok (.iload_n 1, 1) := by decide +kernel
theorem dX7_firstLine_16 : decode cX7_firstLine 16 = .ok (.iastore, 1) := by decide +kernel
theorem dX7_firstLine_17 : decode cX7_firstLine 17 = .ok (.iinc 1 1, 3) := by decide +kernel
theorem dX7_firstLine_20 : decode cX7_firstLine 20 = .ok (.goto (-18), 3) := by decide +kernel
theorem dX7_firstLine_23 : decode cX7_firstLine 23 = .ok (.aload_n 0, 1) := by decide +kernel
theorem dX7_firstLine_24 : decode cX7_firstLine 24 = .ok (.invokevirtual 189, 3) := by decide +kernel
theorem dX7_firstLine_27 : decode cX7_firstLine 27 = .ok (.return_, 1) := by decide +kernel
