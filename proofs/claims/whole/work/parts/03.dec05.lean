theorem dX7_nextLine_0 : decode cX7_nextLine 0 = .ok (.aload_n 0, 1) := by decide +kernel
theorem dX7_nextLine_1 : decode cX7_nextLine 1 = .ok (.getfield 157, 3) := by decide +kernel
theorem dX7_nextLine_4 : decode cX7_nextLine 4 = .ok (.iconst 2, 1) := by decide +kernel
theorem dX7_nextLine_5 : decode cX7_nextLine 5 = .ok (.isub, 1) := by decide +kernel
theorem dX7_nextLine_6 : decode cX7_nextLine 6 = .ok (.istore_n 1, 1) := by decide +kernel
theorem dX7_nextLine_7 : decode cX7_nextLine 7 = .ok (.iload_n 1, 1) := by decide +kernel
theorem dX7_nextLine_8 : decode cX7_nextLine 8 = .ok (.ifCond .lt 26, 3) := by decide +kernel
theorem dX7_nextLine_11 : decode cX7_nextLine 11 = .ok (.aload_n 0, 1) := by decide +kernel
theorem dX7_nextLine_12 : decode cX7_nextLine 12 = .ok (.getfield 41, 3) := by decide +kernel
theorem dX7_nextLine_15 : decode cX7_nextLine 15 = .ok (.iload_n 1, 1) := by decide +kernel
theorem dX7_nextLine_16 : decode cX7_nextLine 16 = .ok (.iaload, 1) := by decide +kernel
theorem dX7_nextLine_17 : decode cX7_nextLine 17 = .ok (.aload_n 0, 1) := by decide +kernel
theorem dX7_nextLine_18 : decode cX7_nextLine 18 = .ok (.getfield 41, 3) := by decide +kernel
theorem dX7_nextLine_21 : decode cX7_nextLine 21 = .ok (.iload_n 1, 1) := by decide +kernel
theorem dX7_nextLine_22 : decode cX7_nextLine 22 = .ok (.iconst 1, 1) := by decide +kernel
theorem dX7_nextLine_23 : decode cX7_nextLine 23 = .ok (.iadd, 1) := by decide +kernel
theorem dX7_nextLine_24 : decode cX7_nextLine 24 = .ok (.iaload, 1) := by decide +kernel
theorem dX7_nextLine_25 : decode cX7_nextLine 25 = .ok (.if_icmp .le 9, 3) := by decide +kernel
theorem dX7_nextLine_28 : decode cX7_nextLine 28 = .ok (.iinc 1 (-1), 3) := by decide +kernel
theorem dX7_nextLine_31 : decode cX7_nextLine 31 = .ok (.goto (-24), 3) := by decide +kernel
theorem dX7_nextLine_34 : decode cX7_nextLine 34 = .ok (.iload_n 1, 1) := by decide +kernel
theorem dX7_nextLine_35 : decode cX7_nextLine 35 = .ok (.ifCond .ge 5, 3) := by decide +kernel
theorem dX7_nextLine_38 : decode cX7_nextLine 38 = .ok (.iconst 0, 1) := by decide +kernel
theorem dX7_nextLine_39 : decode cX7_nextLine 39 = .ok (.ireturn, 1) := by decide +kernel
theorem dX7_nextLine_40 : decode cX7_nextLine 40 = .ok (.aload_n 0, 1) := by decide +kernel
theorem dX7_nextLine_41 : decode cX7_nextLine 41 = .ok (.getfield 157, 3) := by decide +kernel
theorem dX7_nextLine_44 : decode cX7_nextLine 44 = .ok (.iconst 1, 1) := by decide +kernel
theorem dX7_nextLine_45 : decode cX7_nextLine 45 = .ok (.isub, 1) := by decide +kernel
theorem dX7_nextLine_46 : decode cX7_nextLine 46 = .ok (.istore_n 2, 1) := by decide +kernel
theorem dX7_nextLine_47 : decode cX7_nextLine 47 = .ok (.aload_n 0, 1) := by decide +kernel
theorem dX7_nextLine_48 : decode cX7_nextLine 48 = .ok (.getfield 41, 3) := by decide +kernel
theorem dX7_nextLine_51 : decode cX7_nextLine 51 = .ok (.iload_n 2, 1) := by decide +kernel
theorem dX7_nextLine_52 : decode cX7_nextLine 52 = .ok (.iaload, 1) := by decide +kernel
theorem dX7_nextLine_53 : decode cX7_nextLine 53 = .ok (.aload_n 0, 1) := by decide +kernel
theorem dX7_nextLine_54 : decode cX7_nextLine 54 = .ok (.getfield 41, 3) := by decide +kernel
theorem dX7_nextLine_57 : decode cX7_nextLine 57 = .ok (.iload_n 1, 1) := by decide +kernel
theorem dX7_nextLine_58 : decode cX7_nextLine 58 = .ok (.iaload, 1) := by decide +kernel
theorem dX7_nextLine_59 : decode cX7_nextLine 59 = .ok (.if_icmp .ge 9, 3) := by decide +kernel
theorem dX7_nextLine_62 : decode cX7_nextLine 62 = .ok (.iinc 2 (-1), 3) := by decide +kernel
theorem dX7_nextLine_65 : decode cX7_nextLine 65 = .ok (.goto (-18), 3) := by decide +kernel
theorem dX7_nextLine_68 : decode cX7_nextLine 68 = .ok (.aload_n 0, 1) := by decide +kernel
theorem dX7_nextLine_69 : decode cX7_nextLine 69 = .ok (.iload_n 1, 1) := by decide +kernel
theorem dX7_nextLine_70 : decode cX7_nextLine 70 = .ok (.iload_n 2, 1) := by decide +kernel
theorem dX7_nextLine_71 : decode cX7_nextLine 71 = .ok (.invokevirtual 263, 3) := by decide +kernel
theorem dX7_nextLine_74 : decode cX7_nextLine 74 = .ok (.iload_n 1, 1) := by decide +kernel
theorem dX7_nextLine_75 : decode cX7_nextLine 75 = .ok (.iconst 1, 1) := by decide +kernel
theorem dX7_nextLine_76 : decode cX7_nextLine 76 = .ok (.iadd, 1) := by decide +kernel
theorem dX7_nextLine_77 : decode cX7_nextLine 77 = .ok (.istore_n 3, 1) := by decide +kernel
theorem dX7_nextLine_78 : decode cX7_nextLine 78 = .ok (.aload_n 0, 1) := by decide +kernel
theorem dX7_nextLine_79 : decode cX7_nextLine 79 = .ok (.getfield 157, 3) := by decide +kernel
theorem dX7_nextLine_82 : decode cX7_nextLine 82 = .ok (.iconst 1, 1) := by decide +kernel
theorem dX7_nextLine_83 : decode cX7_nextLine 83 = .ok (.isub, 1) := by decide +kernel
theorem dX7_nextLine_84 : decode cX7_nextLine 84 = .ok (.istore 4, 2) := by decide +kernel
theorem dX7_nextLine_86 : decode cX7_nextLine 86 = .ok (.iload_n 3, 1) := by decide +kernel
theorem dX7_nextLine_87 : decode cX7_nextLine 87 = .ok (.iload 4, 2) := by decide +kernel
theorem dX7_nextLine_89 : decode cX7_nextLine 89 = .ok (.if_icmp .ge 19, 3) := by decide +kernel
theorem dX7_nextLine_92 : decode cX7_nextLine 92 = .ok (.aload_n 0, 1) := by decide +kernel
theorem dX7_nextLine_93 : decode cX7_nextLine 93 = .ok (.iload_n 3, 1) := by decide +kernel
theorem dX7_nextLine_94 : decode cX7_nextLine 94 = .ok (.iload 4, 2) := by decide +kernel
theorem dX7_nextLine_96 : decode cX7_nextLine 96 = .ok (.invokevirtual 263, 3) := by decide +kernel
theorem dX7_nextLine_99 : decode cX7_nextLine 99 = .ok (.iinc 3 1, 3) := by decide +kernel
theorem dX7_nextLine_102 : decode cX7_nextLine 102 = .ok (.iinc 4 (-1), 3) := by decide +kernel
theorem dX7_nextLine_105 : decode cX7_nextLine 105 = .ok (.goto (-19), 3) := by decide +kernel
theorem dX7_nextLine_108 : decode cX7_nextLine 108 = .ok (.aload_n 0, 1) := by decide +kernel
theorem dX7_nextLine_109 : decode cX7_nextLine 109 = .ok (.invokevirtual 189, 3) := by decide +kernel
theorem dX7_nextLine_112 : decode cX7_nextLine 112 = .ok (.iconst 1, 1) := by decide +kernel
theorem dX7_nextLine_113 : decode cX7_nextLine 113 = .ok (.ireturn, 1) := by decide +kernel
theorem dX7_swap_0 : decode cX7_swap 0 = .ok (.aload_n 0, 1) := by decide +kernel
theorem dX7_swap_1 : decode cX7_swap 1 = .ok (.getfield 41, 3) := by decide +kernel
theorem dX7_swap_4 : decode cX7_swap 4 = .ok (.iload_n 1, 1) := by decide +kernel
theorem dX7_swap_5 : decode cX7_swap 5 = .ok (.iaload, 1) := by decide +kernel
theorem dX7_swap_6 : decode cX7_swap 6 = .ok (.istore_n 3, 1) := by decide +kernel
theorem dX7_swap_7 : decode cX7_swap 7 = .ok (.aload_n 0, 1) := by decide +kernel
theorem dX7_swap_8 : decode cX7_swap 8 = .ok (.getfield 41, 3) := by decide +kernel
theorem dX7_swap_11 : decode cX7_swap 11 = .ok (.iload_n 1, 1) := by decide +kernel
theorem dX7_swap_12 : decode cX7_swap 12 = .ok (.aload_n 0, 1) := by decide +kernel
theorem dX7_swap_13 : decode cX7_swap 13 = .ok (.getfield 41, 3) := by decide +kernel
theorem dX7_swap_16 : decode cX7_swap 16 = .ok (.iload_n 2, 1) := by decide +kernel
theorem dX7_swap_17 : decode cX7_swap 17 = .ok (.iaload, 1) := by decide +kernel
theorem dX7_swap_18 : decode cX7_swap 18 = .ok (.iastore, 1) := by decide +kernel
theorem dX7_swap_19 : decode cX7_swap 19 = .ok (.aload_n 0, 1) := by decide +kernel
theorem dX7_swap_20 : decode cX7_swap 20 = .ok (.getfield 41, 3) := by decide +kernel
theorem dX7_swap_23 : decode cX7_swap 23 = .ok (.iload_n 2, 1) := by decide +kernel
theorem dX7_swap_24 : decode cX7_swap 24 = .ok (.iload_n 3, 1) := by decide +kernel
theorem dX7_swap_25 : decode cX7_swap 25 = .ok (.iastore, 1) := by decide +kernel
theorem dX7_swap_26 : decode cX7_swap 26 = .ok (.return_, 1) := by decide +kernel
theorem dX7_isAllowedNow_0 : decode cX7_isAllowedNow 0 = .ok (.aload_n 0, 1) := by decide +kernel
theorem dX7_isAllowedNow_1 : decode cX7_isAllowedNow 1 = .ok (.invokevirtual 223, 3) := by decide +kernel
theorem dX7_isAllowedNow_4 : decode cX7_isAllowedNow 4 = .ok (.bipush (-9), 2) := by decide +kernel
theorem dX7_isAllowedNow_6 : decode cX7_isAllowedNow 6 = .ok (.if_icmp .ne 32, 3) := by decide +kernel
theorem dX7_isAllowedNow_9 : decode cX7_isAllowedNow 9 = .ok (.aload_n 0, 1) := by decide +kernel
theorem dX7_isAllowedNow_10 : decode cX7_isAllowedNow 10 = .ok (.getfield 85, 3) := by decide +kernel
theorem dX7_isAllowedNow_13 : decode cX7_isAllowedNow 13 = .ok (.bipush (-9), 2) := by decide +kernel
theorem dX7_isAllowedNow_15 : decode cX7_isAllowedNow 15 = .ok (.if_icmp .eq 19, 3) := by decide +kernel
theorem dX7_isAllowedNow_18 : decode cX7_isAllowedNow 18 = .ok (.aload_n 0, 1) := by decide +kernel
theorem dX7_isAllowedNow_19 : decode cX7_isAllowedNow 19 = .ok (.getfield 44, 3) := by decide +kernel
theorem dX7_isAllowedNow_22 : decode cX7_isAllowedNow 22 = .ok (.aload_n 0, 1) := by decide +kernel
theorem dX7_isAllowedNow_23 : decode cX7_isAllowedNow 23 = .ok (.getfield 85, 3) := by decide +kernel
theorem dX7_isAllowedNow_26 : decode cX7_isAllowedNow 26 = .ok (.iaload, 1) := by decide +kernel
theorem dX7_isAllowedNow_27 : decode cX7_isAllowedNow 27 = .ok (.aload_n 0, 1) := by decide +kernel
theorem dX7_isAllowedNow_28 : decode cX7_isAllowedNow 28 = .ok (.getfield 229, 3) := by decide +kernel
theorem dX7_isAllowedNow_31 : decode cX7_isAllowedNow 31 = .ok (.if_icmp .ne 7, 3) := by decide +kernel
theorem dX7_isAllowedNow_34 : decode cX7_isAllowedNow 34 = .ok (.iconst 1, 1) := by decide +kernel
theorem dX7_isAllowedNow_35 : decode cX7_isAllowedNow 35 = .ok (.goto 4, 3) := by decide +kernel
theorem dX7_isAllowedNow_38 : decode cX7_isAllowedNow 38 = .ok (.iconst 0, 1) := by decide +kernel
theorem dX7_isAllowedNow_39 : decode cX7_isAllowedNow 39 = .ok (.ireturn, 1) := by decide +kernel
theorem dX7_leastReach_0 : decode cX7_leastReach 0 = .ok (.ldc 246, 2) := by decide +kernel
theorem dX7_leastReach_2 : decode cX7_leastReach 2 = .ok (.istore_n 1, 1) := by decide +kernel
theorem dX7_leastReach_3 : decode cX7_leastReach 3 = .ok (.aload_n 0, 1) := by decide +kernel
theorem dX7_leastReach_4 : decode cX7_leastReach 4 = .ok (.invokevirtual 267, 3) := by decide +kernel
theorem dX7_leastReach_7 : decode cX7_leastReach 7 = .ok (.iconst 1, 1) := by decide +kernel
theorem dX7_leastReach_8 : decode cX7_leastReach 8 = .ok (.istore_n 2, 1) := by decide +kernel
theorem dX7_leastReach_9 : decode cX7_leastReach 9 = .ok (.iload_n 2, 1) := by decide +kernel
theorem dX7_leastReach_10 : decode cX7_leastReach 10 = .ok (.ifCond .eq 31, 3) := by decide +kernel
theorem dX7_leastReach_13 : decode cX7_leastReach 13 = .ok (.aload_n 0, 1) := by decide +kernel
theorem dX7_leastReach_14 : decode cX7_leastReach 14 = .ok (.invokevirtual 270, 3) := by decide +kernel
theorem dX7_leastReach_17 : decode cX7_leastReach 17 = .ok (.ifCond .eq 14, 3) := by decide +kernel
theorem dX7_leastReach_20 : decode cX7_leastReach 20 = .ok (.iload_n 1, 1) := by decide +kernel
theorem dX7_leastReach_21 : decode cX7_leastReach 21 = .ok (.aload_n 0, 1) := by decide +kernel
theorem dX7_leastReach_22 : decode cX7_leastReach 22 = .ok (.invokevirtual 201, 3) := by decide +kernel
theorem dX7_leastReach_25 : decode cX7_leastReach 25 = .ok (.invokestatic 183, 3) := by decide +kernel
theorem dX7_leastReach_28 : decode cX7_leastReach 28 = .ok (.goto 4, 3) := by decide +kernel
theorem dX7_leastReach_31 : decode cX7_leastReach 31 = .ok (.iload_n 1, 1) := by decide +kernel
theorem dX7_leastReach_32 : decode cX7_leastReach 32 = .ok (.istore_n 1, 1) := by decide +kernel
theorem dX7_leastReach_33 : decode cX7_leastReach 33 = .ok (.aload_n 0, 1) := by decide +kernel
theorem dX7_leastReach_34 : decode cX7_leastReach 34 = .ok (.invokevirtual 274, 3) := by decide +kernel
theorem dX7_leastReach_37 : decode cX7_leastReach 37 = .ok (.istore_n 2, 1) := by decide +kernel
theorem dX7_leastReach_38 : decode cX7_leastReach 38 = .ok (.goto (-29), 3) := by decide +kernel
theorem dX7_leastReach_41 : decode cX7_leastReach 41 = .ok (.aload_n 0, 1) := by decide +kernel
theorem dX7_leastReach_42 : decode cX7_leastReach 42 = .ok (.iload_n 1, 1) := by decide +kernel
theorem dX7_leastReach_43 : decode cX7_leastReach 43 = .ok (.putfield 251, 3) := by decide +kernel
theorem dX7_leastReach_46 : decode cX7_leastReach 46 = .ok (.iload_n 1, 1) := by decide +kernel
theorem dX7_leastReach_47 : decode cX7_leastReach 47 = .ok (.ireturn, 1) := by decide +kernel
theorem dX7_isLeastReach_0 : decode cX7_isLeastReach 0 = .ok (.aload_n 0, 1) := by decide +kernel
theorem dX7_isLeastReach_1 : decode cX7_isLeastReach 1 = .ok (.invokevirtual 270, 3) := by decide +kernel
theorem dX7_isLeastReach_4 : decode cX7_isLeastReach 4 = .ok (.ifCond .eq 18, 3) := by decide +kernel
theorem dX7_isLeastReach_7 : decode cX7_isLeastReach 7 = .ok (.aload_n 0, 1) := by decide +kernel
theorem dX7_isLeastReach_8 : decode cX7_isLeastReach 8 = .ok (.invokevirtual 201, 3) := by decide +kernel
theorem dX7_isLeastReach_11 : decode cX7_isLeastReach 11 = .ok (.aload_n 0, 1) := by decide +kernel
theorem dX7_isLeastReach_12 : decode cX7_isLeastReach 12 = .ok (.getfield 251, 3) := by decide +kernel
theorem dX7_isLeastReach_15 : decode cX7_isLeastReach 15 = .ok (.if_icmp .ne 7, 3) := by decide +kernel
theorem dX7_isLeastReach_18 : decode cX7_isLeastReach 18 = .ok (.iconst 1, 1) := by decide +kernel
theorem dX7_isLeastReach_19 : decode cX7_isLeastReach 19 = .ok (.goto 4, 3) := by decide +kernel
theorem dX7_isLeastReach_22 : decode cX7_isLeastReach 22 = .ok (.iconst 0, 1) := by decide +kernel
theorem dX7_isLeastReach_23 : decode cX7_isLeastReach 23 = .ok (.ireturn, 1) := by decide +kernel
theorem dX7_waysReach_0 : decode cX7_waysReach 0 = .ok (.iconst 0, 1) := by decide +kernel
theorem dX7_waysReach_1 : decode cX7_waysReach 1 = .ok (.istore_n 1, 1) := by decide +kernel
theorem dX7_waysReach_2 : decode cX7_waysReach 2 = .ok (.aload_n 0, 1) := by decide +kernel
theorem dX7_waysReach_3 : decode cX7_waysReach 3 = .ok (.invokevirtual 267, 3) := by decide +kernel
theorem dX7_waysReach_6 : decode cX7_waysReach 6 = .ok (.iconst 1, 1) := by decide +kernel
theorem dX7_waysReach_7 : decode cX7_waysReach 7 = .ok (.istore_n 2, 1) := by decide +kernel
theorem dX7_waysReach_8 : decode cX7_waysReach 8 = .ok (.iload_n 2, 1) := by decide +kernel
theorem dX7_waysReach_9 : decode cX7_waysReach 9 = .ok (.ifCond .eq 26, 3) := by decide +kernel
theorem dX7_waysReach_12 : decode cX7_waysReach 12 = .ok (.iload_n 1, 1) := by decide +kernel
theorem dX7_waysReach_13 : decode cX7_waysReach 13 = .ok (.aload_n 0, 1) := by decide +kernel
theorem dX7_waysReach_14 : decode cX7_waysReach 14 = .ok (.invokevirtual 277, 3) := by decide +kernel
theorem dX7_waysReach_17 : decode cX7_waysReach 17 = .ok (.ifCond .eq 7, 3) := by decide +kernel
theorem dX7_waysReach_20 : decode cX7_waysReach 20 = .ok (.iconst 1, 1) := by decide +kernel
theorem dX7_waysReach_21 : decode cX7_waysReach 21 = .ok (.goto 4, 3) := by decide +kernel
theorem dX7_waysReach_24 : decode cX7_waysReach 24 = .ok (.iconst 0, 1) := by decide +kernel
theorem dX7_waysReach_25 : decode cX7_waysReach 25 = .ok (.iadd, 1) := by decide +kernel
theorem dX7_waysReach_26 : decode cX7_waysReach 26 = .ok (.istore_n 1, 1) := by decide +kernel
theorem dX7_waysReach_27 : decode cX7_waysReach 27 = .ok (.aload_n 0, 1) := by decide +kernel
theorem dX7_waysReach_28 : decode cX7_waysReach 28 = .ok (.invokevirtual 274, 3) := by decide +kernel
theorem dX7_waysReach_31 : decode cX7_waysReach 31 = .ok (.istore_n 2, 1) := by decide +kernel
theorem dX7_waysReach_32 : decode cX7_waysReach 32 = .ok (.goto (-24), 3) := by decide +kernel
theorem dX7_waysReach_35 : decode cX7_waysReach 35 = .ok (.aload_n 0, 1) := by decide +kernel
theorem dX7_waysReach_36 : decode cX7_waysReach 36 = .ok (.iload_n 1, 1) := by decide +kernel
theorem dX7_waysReach_37 : decode cX7_waysReach 37 = .ok (.putfield 260, 3) := by decide +kernel
theorem dX7_waysReach_40 : decode cX7_waysReach 40 = .ok (.iload_n 1, 1) := by decide +kernel
theorem dX7_waysReach_41 : decode cX7_waysReach 41 = .ok (.ireturn, 1) := by decide +kernel
theorem dX7_isTooLong_0 : decode cX7_isTooLong 0 = .ok (.iload_n 1, 1) := by decide +kernel
theorem dX7_isTooLong_1 : decode cX7_isTooLong 1 = .ok (.iconst 4, 1) := by decide +kernel
theorem dX7_isTooLong_2 : decode cX7_isTooLong 2 = .ok (.if_icmp .ne 16, 3) := by decide +kernel
theorem dX7_isTooLong_5 : decode cX7_isTooLong 5 = .ok (.aload_n 0, 1) := by decide +kernel
theorem dX7_isTooLong_6 : decode cX7_isTooLong 6 = .ok (.getfield 157, 3) := by decide +kernel
theorem dX7_isTooLong_9 : decode cX7_isTooLong 9 = .ok (.bipush 8, 2) := by decide +kernel
theorem dX7_isTooLong_11 : decode cX7_isTooLong 11 = .ok (.if_icmp .le 7, 3) := by decide +kernel
theorem dX7_isTooLong_14 : decode cX7_isTooLong 14 = .ok (.iconst 1, 1) := by decide +kernel
theorem dX7_isTooLong_15 : decode cX7_isTooLong 15 = .ok (.goto 4, 3) := by decide +kernel
theorem dX7_isTooLong_18 : decode cX7_isTooLong 18 = .ok (.iconst 0, 1) := by decide +kernel
theorem dX7_isTooLong_19 : decode cX7_isTooLong 19 = .ok (.ireturn, 1) := by decide +kernel
theorem dX7_leastOf_0 : decode cX7_leastOf 0 = .ok (.iload_n 1, 1) := by decide +kernel
theorem dX7_leastOf_1 : decode cX7_leastOf 1 = .ok (.iconst 4, 1) := by decide +kernel
theorem dX7_leastOf_2 : decode cX7_leastOf 2 = .ok (.if_icmp .ne 10, 3) := by decide +kernel
theorem dX7_leastOf_5 : decode cX7_leastOf 5 = .ok (.aload_n 0, 1) := by decide +kernel
theorem dX7_leastOf_6 : decode cX7_leastOf 6 = .ok (.invokevirtual 280, 3) := by decide +kernel
theorem dX7_leastOf_9 : decode cX7_leastOf 9 = .ok (.goto 8, 3) := by decide +kernel
theorem dX7_leastOf_12 : decode cX7_leastOf 12 = .ok (.aload_n 0, 1) := by decide +kernel
theorem dX7_leastOf_13 : decode cX7_leastOf 13 = .ok (.iload_n 1, 1) := by decide +kernel
theorem dX7_leastOf_14 : decode cX7_leastOf 14 = .ok (.invokevirtual 283, 3) := by decide +kernel
theorem dX7_leastOf_17 : decode cX7_leastOf 17 = .ok (.ireturn, 1) := by decide +kernel
theorem dX7_needLeast_0 : decode cX7_needLeast 0 = .ok (.aload_n 0, 1) := by decide +kernel
theorem dX7_needLeast_1 : decode cX7_needLeast 1 = .ok (.iload_n 1, 1) := by decide +kernel
theorem dX7_needLeast_2 : decode cX7_needLeast 2 = .ok (.invokevirtual 286, 3) := by decide +kernel
theorem dX7_needLeast_5 : decode cX7_needLeast 5 = .ok (.ifCond .eq 6, 3) := by decide +kernel
theorem dX7_needLeast_8 : decode cX7_needLeast 8 = .ok (.bipush (-6), 2) := by decide +kernel
theorem dX7_needLeast_10 : decode cX7_needLeast 10 = .ok (.ireturn, 1) := by decide +kernel
theorem dX7_needLeast_11 : decode cX7_needLeast 11 = .ok (.aload_n 0, 1) := by decide +kernel
theorem dX7_needLeast_12 : decode cX7_needLeast 12 = .ok (.iload_n 1, 1) := by decide +kernel
theorem dX7_needLeast_13 : decode cX7_needLeast 13 = .ok (.invokevirtual 289, 3) := by decide +kernel
theorem dX7_needLeast_16 : decode cX7_needLeast 16 = .ok (.ldc 246, 2) := by decide +kernel
theorem dX7_needLeast_18 : decode cX7_needLeast 18 = .ok (.if_icmp .lt 9, 3) := by decide +kernel
theorem dX7_needLeast_21 : decode cX7_needLeast 21 = .ok (.aload_n 0, 1) := by decide +kernel
theorem dX7_needLeast_22 : decode cX7_needLeast 22 = .ok (.iconst 4, 1) := by decide +kernel
theorem dX7_needLeast_23 : decode cX7_needLeast 23 = .ok (.invokevirtual 106, 3) := by decide +kernel
theorem dX7_needLeast_26 : decode cX7_needLeast 26 = .ok (.ireturn, 1) := by decide +kernel
theorem dX7_needLeast_27 : decode cX7_needLeast 27 = .ok (.iload_n 1, 1) := by decide +kernel
theorem dX7_needLeast_28 : decode cX7_needLeast 28 = .ok (.iconst 4, 1) := by decide +kernel
theorem dX7_needLeast_29 : decode cX7_needLeast 29 = .ok (.if_icmp .ne 11, 3) := by decide +kernel
theorem dX7_needLeast_32 : decode cX7_needLeast 32 = .ok (.aload_n 0, 1) := by decide +kernel
theorem dX7_needLeast_33 : decode cX7_needLeast 33 = .ok (.invokevirtual 292, 3) := by decide +kernel
theorem dX7_needLeast_36 : decode cX7_needLeast 36 = .ok (.pop, 1) := by decide +kernel
theorem dX7_needLeast_37 : decode cX7_needLeast 37 = .ok (.goto 8, 3) := by decide +kernel
theorem dX7_needLeast_40 : decode cX7_needLeast 40 = .ok (.aload_n 0, 1) := by decide +kernel
theorem dX7_needLeast_41 : decode cX7_needLeast 41 = .ok (.iload_n 1, 1) := by decide +kernel
theorem dX7_needLeast_42 : decode cX7_needLeast 42 = .ok (.invokevirtual 295, 3) := by decide +kernel
theorem dX7_needLeast_45 : decode cX7_needLeast 45 = .ok (.iconst 0, 1) := by decide +kernel
theorem dX7_needLeast_46 : decode cX7_needLeast 46 = .ok (.ireturn, 1) := by decide +kernel
theorem dX7_least_0 : decode cX7_least 0 = .ok (.iload_n 1, 1) := by decide +kernel
theorem dX7_least_1 : decode cX7_least 1 = .ok (.invokestatic 211, 3) := by decide +kernel
theorem dX7_least_4 : decode cX7_least 4 = .ok (.ifCond .ne 5, 3) := by decide +kernel
theorem dX7_least_7 : decode cX7_least 7 = .ok (.iconst (-1), 1) := by decide +kernel
theorem dX7_least_8 : decode cX7_least 8 = .ok (.ireturn, 1) := by decide +kernel
theorem dX7_least_9 : decode cX7_least 9 = .ok (.aload_n 0, 1) := by decide +kernel
theorem dX7_least_10 : decode cX7_least 10 = .ok (.iload_n 1, 1) := by decide +kernel
theorem dX7_least_11 : decode cX7_least 11 = .ok (.invokevirtual 299, 3) := by decide +kernel
theorem dX7_least_14 : decode cX7_least 14 = .ok (.istore_n 2, 1) := by decide +kernel
theorem dX7_least_15 : decode cX7_least 15 = .ok (.iload_n 2, 1) := by decide +kernel
theorem dX7_least_16 : decode cX7_least 16 = .ok (.ifCond .ge 7, 3) := by decide +kernel
theorem dX7_least_19 : decode cX7_least 19 = .ok (.iload_n 2, 1) := by decide +kernel
theorem dX7_least_20 : decode cX7_least 20 = .ok (.goto 7, 3) := by decide +kernel
theorem dX7_least_23 : decode cX7_least 23 = .ok (.aload_n 0, 1) := by decide +kernel
theorem dX7_least_24 : decode cX7_least 24 = .ok (.getfield 251, 3) := by decide +kernel
theorem dX7_least_27 : decode cX7_least 27 = .ok (.ireturn, 1) := by decide +kernel
theorem dX7_clear_0 : decode cX7_clear 0 = .ok (.aload_n 0, 1) := by decide +kernel
theorem dX7_clear_1 : decode cX7_clear 1 = .ok (.getfield 13, 3) := by decide +kernel
theorem dX7_clear_4 : decode cX7_clear 4 = .ok (.iload_n 1, 1) := by decide +kernel
theorem dX7_clear_5 : decode cX7_clear 5 = .ok (.iload_n 2, 1) := by decide +kernel
theorem dX7_clear_6 : decode cX7_clear 6 = .ok (.iastore, 1) := by decide +kernel
theorem dX7_clear_7 : decode cX7_clear 7 = .ok (.iconst 0, 1) := by decide +kernel
theorem dX7_clear_8 : decode cX7_clear 8 = .ok (.istore_n 3, 1) := by decide +kernel
theorem dX7_clear_9 : decode cX7_clear 9 = .ok (.iload_n 3, 1) := by decide +kernel
theorem dX7_clear_10 : decode cX7_clear 10 = .ok (.bipush 60, 2) := by decide +kernel
theorem dX7_clear_12 : decode cX7_clear 12 = .ok (.if_icmp .ge 21, 3) := by decide +kernel
theorem dX7_clear_15 : decode cX7_clear 15 = .ok (.aload_n 0, 1) := by decide +kernel
theorem dX7_clear_16 : decode cX7_clear 16 = .ok (.getfield 16, 3) := by decide +kernel
theorem dX7_clear_19 : decode cX7_clear 19 = .ok (.bipush 60, 2) := by decide +kernel
theorem dX7_clear_21 : decode cX7_clear 21 = .ok (.iload_n 1, 1) := by decide +kernel
theorem dX7_clear_22 : decode cX7_clear 22 = .ok (.imul, 1) := by decide +kernel
theorem dX7_clear_23 : decode cX7_clear 23 = .ok (.iload_n 3, 1) := by decide +kernel
theorem dX7_clear_24 : decode cX7_clear 24 = .ok (.iadd, 1) := by decide +kernel
theorem dX7_clear_25 : decode cX7_clear 25 = .ok (.iconst 0, 1) := by decide +kernel
theorem dX7_clear_26 : decode cX7_clear 26 = .ok (.iastore, 1) := by decide +kernel
theorem dX7_clear_27 : decode cX7_clear 27 = .ok (.iinc 3 1, 3) := by decide +kernel
theorem dX7_clear_30 : decode cX7_clear 30 = .ok (.goto (-21), 3) := by decide +kernel
theorem dX7_clear_33 : decode cX7_clear 33 = .ok (.return_, 1) := by decide +kernel
theorem dX7_lineToRow_0 : decode cX7_lineToRow 0 = .ok (.aload_n 0, 1) := by decide +kernel
theorem dX7_lineToRow_1 : decode cX7_lineToRow 1 = .ok (.iload_n 1, 1) := by decide +kernel
theorem dX7_lineToRow_2 : decode cX7_lineToRow 2 = .ok (.aload_n 0, 1) := by decide +kernel
theorem dX7_lineToRow_3 : decode cX7_lineToRow 3 = .ok (.getfield 157, 3) := by decide +kernel
theorem dX7_lineToRow_6 : decode cX7_lineToRow 6 = .ok (.invokevirtual 302, 3) := by decide +kernel
theorem dX7_lineToRow_9 : decode cX7_lineToRow 9 = .ok (.iconst 0, 1) := by decide +kernel
theorem dX7_lineToRow_10 : decode cX7_lineToRow 10 = .ok (.istore_n 2, 1) := by decide +kernel
theorem dX7_lineToRow_11 : decode cX7_lineToRow 11 = .ok (.iload_n 2, 1) := by decide +kernel
theorem dX7_lineToRow_12 : decode cX7_lineToRow 12 = .ok (.aload_n 0, 1) := by decide +kernel
theorem dX7_lineToRow_13 : decode cX7_lineToRow 13 = .ok (.getfield 157, 3) := by decide +kernel
theorem dX7_lineToRow_16 : decode cX7_lineToRow 16 = .ok (.if_icmp .ge 26, 3) := by decide +kernel
theorem dX7_lineToRow_19 : decode cX7_lineToRow 19 = .ok (.aload_n 0, 1) := by decide +kernel
theorem dX7_lineToRow_20 : decode cX7_lineToRow 20 = .ok (.getfield 16, 3) := by decide +kernel
theorem dX7_lineToRow_23 : decode cX7_lineToRow 23 = .ok (.bipush 60, 2) := by decide +kernel
theorem dX7_lineToRow_25 : decode cX7_lineToRow 25 = .ok (.iload_n 1, 1) := by decide +kernel
theorem dX7_lineToRow_26 : decode cX7_lineToRow 26 = .ok (.imul, 1) := by decide +kernel
theorem dX7_lineToRow_27 : decode cX7_lineToRow 27 = .ok (.iload_n 2, 1) := by decide +kernel
theorem dX7_lineToRow_28 : decode cX7_lineToRow 28 = .ok (.iadd, 1) := by decide +kernel
theorem dX7_lineToRow_29 : decode cX7_lineToRow 29 = .ok (.aload_n 0, 1) := by decide +kernel
theorem dX7_lineToRow_30 : decode cX7_lineToRow 30 = .ok (.getfield 41, 3) := by decide +kernel
theorem dX7_lineToRow_33 : decode cX7_lineToRow 33 = .ok (.iload_n 2, 1) := by decide +kernel
theorem dX7_lineToRow_34 : decode cX7_lineToRow 34 = .ok (.iaload, 1) := by decide +kernel
theorem dX7_lineToRow_35 : decode cX7_lineToRow 35 = .ok (.iastore, 1) := by decide +kernel
theorem dX7_lineToRow_36 : decode cX7_lineToRow 36 = .ok (.iinc 2 1, 3) := by decide +kernel
theorem dX7_lineToRow_39 : decode cX7_lineToRow 39 = .ok (.goto (-28), 3) := by decide +kernel
theorem dX7_lineToRow_42 : decode cX7_lineToRow 42 = .ok (.return_, 1) := by decide +kernel
theorem dX7_layLeast_0 : decode cX7_layLeast 0 = .ok (.iload_n 2, 1) := by decide +kernel
theorem dX7_layLeast_1 : decode cX7_layLeast 1 = .ok (.istore_n 3, 1) := by decide +kernel
theorem dX7_layLeast_2 : decode cX7_layLeast 2 = .ok (.iload_n 1, 1) := by decide +kernel
theorem dX7_layLeast_3 : decode cX7_layLeast 3 = .ok (.iconst 4, 1) := by decide +kernel
theorem dX7_layLeast_4 : decode cX7_layLeast 4 = .ok (.if_icmp .ne 42, 3) := by decide +kernel
theorem dX7_layLeast_7 : decode cX7_layLeast 7 = .ok (.aload_n 0, 1) := by decide +kernel
theorem dX7_layLeast_8 : decode cX7_layLeast 8 = .ok (.invokevirtual 267, 3) := by decide +kernel
theorem dX7_layLeast_11 : decode cX7_layLeast 11 = .ok (.aload_n 0, 1) := by decide +kernel
theorem dX7_layLeast_12 : decode cX7_layLeast 12 = .ok (.invokevirtual 277, 3) := by decide +kernel
theorem dX7_layLeast_15 : decode cX7_layLeast 15 = .ok (.ifCond .eq 7, 3) := by decide +kernel
theorem dX7_layLeast_18 : decode cX7_layLeast 18 = .ok (.iload_n 3, 1) := by decide +kernel
theorem dX7_layLeast_19 : decode cX7_layLeast 19 = .ok (.ifCond .le 26, 3) := by decide +kernel
theorem dX7_layLeast_22 : decode cX7_layLeast 22 = .ok (.iload_n 3, 1) := by decide +kernel
theorem dX7_layLeast_23 : decode cX7_layLeast 23 = .ok (.aload_n 0, 1) := by decide +kernel
theorem dX7_layLeast_24 : decode cX7_layLeast 24 = .ok (.invokevirtual 277, 3) := by decide +kernel
theorem dX7_layLeast_27 : decode cX7_layLeast 27 = .ok (.ifCond .eq 7, 3) := by decide +kernel
theorem dX7_layLeast_30 : decode cX7_layLeast 30 = .ok (.iconst 1, 1) := by decide +kernel
theorem dX7_layLeast_31 : decode cX7_layLeast 31 = .ok (.goto 4, 3) := by decide +kernel
theorem dX7_layLeast_34 : decode cX7_layLeast 34 = .ok (.iconst 0, 1) := by decide +kernel
theorem dX7_layLeast_35 : decode cX7_layLeast 35 = .ok (.isub, 1) := by decide +kernel
theorem dX7_layLeast_36 : decode cX7_layLeast 36 = .ok (.istore_n 3, 1) := by decide +kernel
theorem dX7_layLeast_37 : decode cX7_layLeast 37 = .ok (.aload_n 0, 1) := by decide +kernel
theorem dX7_layLeast_38 : decode cX7_layLeast 38 = .ok (.invokevirtual 274, 3) := by decide +kernel
theorem dX7_layLeast_41 : decode cX7_layLeast 41 = .ok (.pop, 1) := by decide +kernel
theorem dX7_layLeast_42 : decode cX7_layLeast 42 = .ok (.goto (-31), 3) := by decide +kernel
theorem dX7_layLeast_45 : decode cX7_layLeast 45 = .ok (.return_, 1) := by decide +kernel
theorem dX7_layLeast_46 : decode cX7_layLeast 46 = .ok (.iconst 0, 1) := by decide +kernel
theorem dX7_layLeast_47 : decode cX7_layLeast 47 = .ok (.istore 4, 2) := by decide +kernel
theorem dX7_layLeast_49 : decode cX7_layLeast 49 = .ok (.bipush (-9), 2) := by decide +kernel
theorem dX7_layLeast_51 : decode cX7_layLeast 51 = .ok (.istore 5, 2) := by decide +kernel
theorem dX7_layLeast_53 : decode cX7_layLeast 53 = .ok (.iconst 0, 1) := by decide +kernel
theorem dX7_layLeast_54 : decode cX7_layLeast 54 = .ok (.istore 6, 2) := by decide +kernel
theorem dX7_layLeast_56 : decode cX7_layLeast 56 = .ok (.iload 6, 2) := by decide +kernel
theorem dX7_layLeast_58 : decode cX7_layLeast 58 = .ok (.aload_n 0, 1) := by decide +kernel
theorem dX7_layLeast_59 : decode cX7_layLeast 59 = .ok (.getfield 157, 3) := by decide +kernel
theorem dX7_layLeast_62 : decode cX7_layLeast 62 = .ok (.if_icmp .ge 113, 3) := by decide +kernel
theorem dX7_layLeast_65 : decode cX7_layLeast 65 = .ok (.iconst 0, 1) := by decide +kernel
theorem dX7_layLeast_66 : decode cX7_layLeast 66 = .ok (.istore 7, 2) := by decide +kernel
theorem dX7_layLeast_68 : decode cX7_layLeast 68 = .ok (.aload_n 0, 1) := by decide +kernel
theorem dX7_layLeast_69 : decode cX7_layLeast 69 = .ok (.iload_n 1, 1) := by decide +kernel
theorem dX7_layLeast_70 : decode cX7_layLeast 70 = .ok (.iload 4, 2) := by decide +kernel
theorem dX7_layLeast_72 : decode cX7_layLeast 72 = .ok (.iload 5, 2) := by decide +kernel
theorem dX7_layLeast_74 : decode cX7_layLeast 74 = .ok (.iload 7, 2) := by decide +kernel
theorem dX7_layLeast_76 : decode cX7_layLeast 76 = .ok (.invokevirtual 257, 3) := by decide +kernel
theorem dX7_layLeast_79 : decode cX7_layLeast 79 = .ok (.ifCond .eq 24, 3) := by decide +kernel
theorem dX7_layLeast_82 : decode cX7_layLeast 82 = .ok (.iload_n 3, 1) := by decide +kernel
theorem dX7_layLeast_83 : decode cX7_layLeast 83 = .ok (.aload_n 0, 1) := by decide +kernel
theorem dX7_layLeast_84 : decode cX7_layLeast 84 = .ok (.getfield 56, 3) := by decide +kernel
theorem dX7_layLeast_87 : decode cX7_layLeast 87 = .ok (.iload 4, 2) := by decide +kernel
theorem dX7_layLeast_89 : decode cX7_layLeast 89 = .ok (.iconst 1, 1) := by decide +kernel
theorem dX7_layLeast_90 : decode cX7_layLeast 90 = .ok (.iload 7, 2) := by decide +kernel
theorem dX7_layLeast_92 : decode cX7_layLeast 92 = .ok (.ishl, 1) := by decide +kernel
theorem dX7_layLeast_93 : decode cX7_layLeast 93 = .ok (.ior, 1) := by decide +kernel
theorem dX7_layLeast_94 : decode cX7_layLeast 94 = .ok (.iload 7, 2) := by decide +kernel
theorem dX7_layLeast_96 : decode cX7_layLeast 96 = .ok (.invokestatic 243, 3) := by decide +kernel
theorem dX7_layLeast_99 : decode cX7_layLeast 99 = .ok (.iaload, 1) := by decide +kernel
theorem dX7_layLeast_100 : decode cX7_layLeast 100 = .ok (.if_icmp .lt 47, 3) := by decide +kernel
theorem dX7_layLeast_103 : decode cX7_layLeast 103 = .ok (.iload_n 3, 1) := by decide +kernel
theorem dX7_layLeast_104 : decode cX7_layLeast 104 = .ok (.aload_n 0, 1) := by decide +kernel
theorem dX7_layLeast_105 : decode cX7_layLeast 105 = .ok (.iload_n 1, 1) := by decide +kernel
theorem dX7_layLeast_106 : decode cX7_layLeast 106 = .ok (.iload 4, 2) := by decide +kernel
theorem dX7_layLeast_108 : decode cX7_layLeast 108 = .ok (.iload 5, 2) := by decide +kernel
theorem dX7_layLeast_110 : decode cX7_layLeast 110 = .ok (.iload 7, 2) := by decide +kernel
theorem dX7_layLeast_112 : decode cX7_layLeast 112 = .ok (.invokevirtual 257, 3) := by decide +kernel
theorem dX7_layLeast_115 : decode cX7_layLeast 115 = .ok (.ifCond .eq 23, 3) := by decide +kernel
theorem dX7_layLeast_118 : decode cX7_layLeast 118 = .ok (.aload_n 0, 1) := by decide +kernel
theorem dX7_layLeast_119 : decode cX7_layLeast 119 = .ok (.getfield 56, 3) := by decide +kernel
theorem dX7_layLeast_122 : decode cX7_layLeast 122 = .ok (.iload 4, 2) := by decide +kernel
theorem dX7_layLeast_124 : decode cX7_layLeast 124 = .ok (.iconst 1, 1) := by decide +kernel
theorem dX7_layLeast_125 : decode cX7_layLeast 125 = .ok (.iload 7, 2) := by decide +kernel
theorem dX7_layLeast_127 : decode cX7_layLeast 127 = .ok (.ishl, 1) := by decide +kernel
theorem dX7_layLeast_128 : decode cX7_layLeast 128 = .ok (.ior, 1) := by decide +kernel
theorem dX7_layLeast_129 : decode cX7_layLeast 129 = .ok (.iload 7, 2) := by decide +kernel
theorem dX7_layLeast_131 : decode cX7_layLeast 131 = .ok (.invokestatic 243, 3) := by decide +kernel
theorem dX7_layLeast_134 : decode cX7_layLeast 134 = .ok (.iaload, 1) := by decide +kernel
theorem dX7_layLeast_135 : decode cX7_layLeast 135 = .ok (.goto 4, 3) := by decide +kernel
theorem dX7_layLeast_138 : decode cX7_layLeast 138 = .ok (.iconst 0, 1) := by decide +kernel
theorem dX7_layLeast_139 : decode cX7_layLeast 139 = .ok (.isub, 1) := by decide +kernel
theorem dX7_layLeast_140 : decode cX7_layLeast 140 = .ok (.istore_n 3, 1) := by decide +kernel
theorem dX7_layLeast_141 : decode cX7_layLeast 141 = .ok (.iinc 7 1, 3) := by decide +kernel
theorem dX7_layLeast_144 : decode cX7_layLeast 144 = .ok (.goto (-76), 3) := by decide +kernel
theorem dX7_layLeast_147 : decode cX7_layLeast 147 = .ok (.aload_n 0, 1) := by decide +kernel
theorem dX7_layLeast_148 : decode cX7_layLeast 148 = .ok (.getfield 41, 3) := by decide +kernel
theorem dX7_layLeast_151 : decode cX7_layLeast 151 = .ok (.iload 6, 2) := by decide +kernel
theorem dX7_layLeast_153 : decode cX7_layLeast 153 = .ok (.iload 7, 2) := by decide +kernel
theorem dX7_layLeast_155 : decode cX7_layLeast 155 = .ok (.iastore, 1) := by decide +kernel
theorem dX7_layLeast_156 : decode cX7_layLeast 156 = .ok (.iload 4, 2) := by decide +kernel
theorem dX7_layLeast_158 : decode cX7_layLeast 158 = .ok (.iconst 1, 1) := by decide +kernel
theorem dX7_layLeast_159 : decode cX7_layLeast 159 = .ok (.iload 7, 2) := by decide +kernel
theorem dX7_layLeast_161 : decode cX7_layLeast 161 = .ok (.ishl, 1) := by decide +kernel
theorem dX7_layLeast_162 : decode cX7_layLeast 162 = .ok (.ior, 1) := by decide +kernel
theorem dX7_layLeast_163 : decode cX7_layLeast 163 = .ok (.istore 4, 2) := by decide +kernel
theorem dX7_layLeast_165 : decode cX7_layLeast 165 = .ok (.iload 7, 2) := by decide +kernel
theorem dX7_layLeast_167 : decode cX7_layLeast 167 = .ok (.istore 5, 2) := by decide +kernel
theorem dX7_layLeast_169 : decode cX7_layLeast 169 = .ok (.iinc 6 1, 3) := by decide +kernel
theorem dX7_layLeast_172 : decode cX7_layLeast 172 = .ok (.goto (-116), 3) := by decide +kernel
theorem dX7_layLeast_175 : decode cX7_layLeast 175 = .ok (.return_, 1) := by decide +kernel
theorem dX7_first_0 : decode cX7_first 0 = .ok (.iload_n 1, 1) := by decide +kernel
theorem dX7_first_1 : decode cX7_first 1 = .ok (.invokestatic 211, 3) := by decide +kernel
theorem dX7_first_4 : decode cX7_first 4 = .ok (.ifCond .eq 10, 3) := by decide +kernel
theorem dX7_first_7 : decode cX7_first 7 = .ok (.iload_n 2, 1) := by decide +kernel
theorem dX7_first_8 : decode cX7_first 8 = .ok (.invokestatic 102, 3) := by decide +kernel
theorem dX7_first_11 : decode cX7_first 11 = .ok (.ifCond .ne 5, 3) := by decide +kernel
theorem dX7_first_14 : decode cX7_first 14 = .ok (.iconst (-1), 1) := by decide +kernel
theorem dX7_first_15 : decode cX7_first 15 = .ok (.ireturn, 1) := by decide +kernel
theorem dX7_first_16 : decode cX7_first 16 = .ok (.aload_n 0, 1) := by decide +kernel
theorem dX7_first_17 : decode cX7_first 17 = .ok (.iload_n 1, 1) := by decide +kernel
theorem dX7_first_18 : decode cX7_first 18 = .ok (.invokevirtual 299, 3) := by decide +kernel
theorem dX7_first_21 : decode cX7_first 21 = .ok (.istore_n 3, 1) := by decide +kernel
theorem dX7_first_22 : decode cX7_first 22 = .ok (.iload_n 3, 1) := by decide +kernel
theorem dX7_first_23 : decode cX7_first 23 = .ok (.ifCond .ge 5, 3) := by decide +kernel
theorem dX7_first_26 : decode cX7_first 26 = .ok (.iload_n 3, 1) := by decide +kernel
theorem dX7_first_27 : decode cX7_first 27 = .ok (.ireturn, 1) := by decide +kernel
theorem dX7_first_28 : decode cX7_first 28 = .ok (.aload_n 0, 1) := by decide +kernel
theorem dX7_first_29 : decode cX7_first 29 = .ok (.iload_n 1, 1) := by decide +kernel
theorem dX7_first_30 : decode cX7_first 30 = .ok (.iconst 0, 1) := by decide +kernel
theorem dX7_first_31 : decode cX7_first 31 = .ok (.invokevirtual 305, 3) := by decide +kernel
theorem dX7_first_34 : decode cX7_first 34 = .ok (.aload_n 0, 1) := by decide +kernel
theorem dX7_first_35 : decode cX7_first 35 = .ok (.iload_n 2, 1) := by decide +kernel
theorem dX7_first_36 : decode cX7_first 36 = .ok (.invokevirtual 308, 3) := by decide +kernel
theorem dX7_first_39 : decode cX7_first 39 = .ok (.aload_n 0, 1) := by decide +kernel
theorem dX7_first_40 : decode cX7_first 40 = .ok (.getfield 251, 3) := by decide +kernel
theorem dX7_first_43 : decode cX7_first 43 = .ok (.ireturn, 1) := by decide +kernel
theorem dX7_ways_0 : decode cX7_ways 0 = .ok (.iload_n 1, 1) := by decide +kernel
theorem dX7_ways_1 : decode cX7_ways 1 = .ok (.invokestatic 211, 3) := by decide +kernel
theorem dX7_ways_4 : decode cX7_ways 4 = .ok (.ifCond .ne 5, 3) := by decide +kernel
theorem dX7_ways_7 : decode cX7_ways 7 = .ok (.iconst (-1), 1) := by decide +kernel
theorem dX7_ways_8 : decode cX7_ways 8 = .ok (.ireturn, 1) := by decide +kernel
theorem dX7_ways_9 : decode cX7_ways 9 = .ok (.aload_n 0, 1) := by decide +kernel
theorem dX7_ways_10 : decode cX7_ways 10 = .ok (.iload_n 1, 1) := by decide +kernel
theorem dX7_ways_11 : decode cX7_ways 11 = .ok (.invokevirtual 286, 3) := by decide +kernel
theorem dX7_ways_14 : decode cX7_ways 14 = .ok (.ifCond .eq 6, 3) := by decide +kernel
theorem dX7_ways_17 : decode cX7_ways 17 = .ok (.bipush (-6), 2) := by decide +kernel
theorem dX7_ways_19 : decode cX7_ways 19 = .ok (.ireturn, 1) := by decide +kernel
theorem dX7_ways_20 : decode cX7_ways 20 = .ok (.aload_n 0, 1) := by decide +kernel
theorem dX7_ways_21 : decode cX7_ways 21 = .ok (.iload_n 1, 1) := by decide +kernel
theorem dX7_ways_22 : decode cX7_ways 22 = .ok (.invokevirtual 289, 3) := by decide +kernel
theorem dX7_ways_25 : decode cX7_ways 25 = .ok (.ldc 246, 2) := by decide +kernel
theorem dX7_ways_27 : decode cX7_ways 27 = .ok (.if_icmp .lt 5, 3) := by decide +kernel
theorem dX7_ways_30 : decode cX7_ways 30 = .ok (.iconst 0, 1) := by decide +kernel
theorem dX7_ways_31 : decode cX7_ways 31 = .ok (.ireturn, 1) := by decide +kernel
theorem dX7_ways_32 : decode cX7_ways 32 = .ok (.iload_n 1, 1) := by decide +kernel
theorem dX7_ways_33 : decode cX7_ways 33 = .ok (.iconst 4, 1) := by decide +kernel
theorem dX7_ways_34 : decode cX7_ways 34 = .ok (.if_icmp .ne 8, 3) := by decide +kernel
theorem dX7_ways_37 : decode cX7_ways 37 = .ok (.aload_n 0, 1) := by decide +kernel
theorem dX7_ways_38 : decode cX7_ways 38 = .ok (.invokevirtual 292, 3) := by decide +kernel
theorem dX7_ways_41 : decode cX7_ways 41 = .ok (.ireturn, 1) := by decide +kernel
theorem dX7_ways_42 : decode cX7_ways 42 = .ok (.aload_n 0, 1) := by decide +kernel
theorem dX7_ways_43 : decode cX7_ways 43 = .ok (.iload_n 1, 1) := by decide +kernel
theorem dX7_ways_44 : decode cX7_ways 44 = .ok (.invokevirtual 295, 3) := by decide +kernel
theorem dX7_ways_47 : decode cX7_ways 47 = .ok (.aload_n 0, 1) := by decide +kernel
theorem dX7_ways_48 : decode cX7_ways 48 = .ok (.getfield 260, 3) := by decide +kernel
theorem dX7_ways_51 : decode cX7_ways 51 = .ok (.ireturn, 1) := by decide +kernel
theorem dX7_isWanted_0 : decode cX7_isWanted 0 = .ok (.iconst 1, 1) := by decide +kernel
theorem dX7_isWanted_1 : decode cX7_isWanted 1 = .ok (.istore_n 1, 1) := by decide +kernel
theorem dX7_isWanted_2 : decode cX7_isWanted 2 = .ok (.iconst 0, 1) := by decide +kernel
theorem dX7_isWanted_3 : decode cX7_isWanted 3 = .ok (.istore_n 2, 1) := by decide +kernel
theorem dX7_isWanted_4 : decode cX7_isWanted 4 = .ok (.iload_n 2, 1) := by decide +kernel
theorem dX7_isWanted_5 : decode cX7_isWanted 5 = .ok (.aload_n 0, 1) := by decide +kernel
theorem dX7_isWanted_6 : decode cX7_isWanted 6 = .ok (.getfield 157, 3) := by decide +kernel
theorem dX7_isWanted_9 : decode cX7_isWanted 9 = .ok (.if_icmp .ge 34, 3) := by decide +kernel
theorem dX7_isWanted_12 : decode cX7_isWanted 12 = .ok (.iload_n 1, 1) := by decide +kernel
theorem dX7_isWanted_13 : decode cX7_isWanted 13 = .ok (.ifCond .eq 22, 3) := by decide +kernel
theorem dX7_isWanted_16 : decode cX7_isWanted 16 = .ok (.aload_n 0, 1) := by decide +kernel
theorem dX7_isWanted_17 : decode cX7_isWanted 17 = .ok (.getfield 41, 3) := by decide +kernel
theorem dX7_isWanted_20 : decode cX7_isWanted 20 = .ok (.iload_n 2, 1) := by decide +kernel
theorem dX7_isWanted_21 : decode cX7_isWanted 21 = .ok (.iaload, 1) := by decide +kernel
theorem dX7_isWanted_22 : decode cX7_isWanted 22 = .ok (.aload_n 0, 1) := by decide +kernel
theorem dX7_isWanted_23 : decode cX7_isWanted 23 = .ok (.getfield 62, 3) := by decide +kernel
theorem dX7_isWanted_26 : decode cX7_isWanted 26 = .ok (.iload_n 2, 1) := by decide +kernel
theorem dX7_isWanted_27 : decode cX7_isWanted 27 = .ok (.iaload, 1) := by decide +kernel
theorem dX7_isWanted_28 : decode cX7_isWanted 28 = .ok (.if_icmp .ne 7, 3) := by decide +kernel
theorem dX7_isWanted_31 : decode cX7_isWanted 31 = .ok (.iconst 1, 1) := by decide +kernel
theorem dX7_isWanted_32 : decode cX7_isWanted 32 = .ok (.goto 4, 3) := by decide +kernel
theorem dX7_isWanted_35 : decode cX7_isWanted 35 = .ok (.iconst 0, 1) := by decide +kernel
theorem dX7_isWanted_36 : decode cX7_isWanted 36 = .ok (.istore_n 1, 1) := by decide +kernel
theorem dX7_isWanted_37 : decode cX7_isWanted 37 = .ok (.iinc 2 1, 3) := by decide +kernel
theorem dX7_isWanted_40 : decode cX7_isWanted 40 = .ok (.goto (-36), 3) := by decide +kernel
theorem dX7_isWanted_43 : decode cX7_isWanted 43 = .ok (.iload_n 1, 1) := by decide +kernel
theorem dX7_isWanted_44 : decode cX7_isWanted 44 = .ok (.ireturn, 1) := by decide +kernel
theorem dX7_rank_0 : decode cX7_rank 0 = .ok (.iload_n 1, 1) := by decide +kernel
theorem dX7_rank_1 : decode cX7_rank 1 = .ok (.invokestatic 211, 3) := by decide +kernel
theorem dX7_rank_4 : decode cX7_rank 4 = .ok (.ifCond .eq 10, 3) := by decide +kernel
theorem dX7_rank_7 : decode cX7_rank 7 = .ok (.iload_n 2, 1) := by decide +kernel
theorem dX7_rank_8 : decode cX7_rank 8 = .ok (.invokestatic 102, 3) := by decide +kernel
theorem dX7_rank_11 : decode cX7_rank 11 = .ok (.ifCond .ne 5, 3) := by decide +kernel
theorem dX7_rank_14 : decode cX7_rank 14 = .ok (.iconst (-1), 1) := by decide +kernel
theorem dX7_rank_15 : decode cX7_rank 15 = .ok (.ireturn, 1) := by decide +kernel
theorem dX7_rank_16 : decode cX7_rank 16 = .ok (.aload_n 0, 1) := by decide +kernel
theorem dX7_rank_17 : decode cX7_rank 17 = .ok (.iload_n 2, 1) := by decide +kernel
theorem dX7_rank_18 : decode cX7_rank 18 = .ok (.invokevirtual 214, 3) := by decide +kernel
theorem dX7_rank_21 : decode cX7_rank 21 = .ok (.istore_n 3, 1) := by decide +kernel
theorem dX7_rank_22 : decode cX7_rank 22 = .ok (.iload_n 3, 1) := by decide +kernel
theorem dX7_rank_23 : decode cX7_rank 23 = .ok (.ifCond .ge 5, 3) := by decide +kernel
theorem dX7_rank_26 : decode cX7_rank 26 = .ok (.iload_n 3, 1) := by decide +kernel
theorem dX7_rank_27 : decode cX7_rank 27 = .ok (.ireturn, 1) := by decide +kernel
theorem dX7_rank_28 : decode cX7_rank 28 = .ok (.iconst 0, 1) := by decide +kernel
theorem dX7_rank_29 : decode cX7_rank 29 = .ok (.istore 4, 2) := by decide +kernel
theorem dX7_rank_31 : decode cX7_rank 31 = .ok (.iload 4, 2) := by decide +kernel
theorem dX7_rank_33 : decode cX7_rank 33 = .ok (.aload_n 0, 1) := by decide +kernel
theorem dX7_rank_34 : decode cX7_rank 34 = .ok (.getfield 157, 3) := by decide +kernel
theorem dX7_rank_37 : decode cX7_rank 37 = .ok (.if_icmp .ge 23, 3) := by decide +kernel
theorem dX7_rank_40 : decode cX7_rank 40 = .ok (.aload_n 0, 1) := by decide +kernel
theorem dX7_rank_41 : decode cX7_rank 41 = .ok (.getfield 62, 3) := by decide +kernel
theorem dX7_rank_44 : decode cX7_rank 44 = .ok (.iload 4, 2) := by decide +kernel
theorem dX7_rank_46 : decode cX7_rank 46 = .ok (.aload_n 0, 1) := by decide +kernel
theorem dX7_rank_47 : decode cX7_rank 47 = .ok (.getfield 41, 3) := by decide +kernel
theorem dX7_rank_50 : decode cX7_rank 50 = .ok (.iload 4, 2) := by decide +kernel
theorem dX7_rank_52 : decode cX7_rank 52 = .ok (.iaload, 1) := by decide +kernel
theorem dX7_rank_53 : decode cX7_rank 53 = .ok (.iastore, 1) := by decide +kernel
theorem dX7_rank_54 : decode cX7_rank 54 = .ok (.iinc 4 1, 3) := by decide +kernel
theorem dX7_rank_57 : decode cX7_rank 57 = .ok (.goto (-26), 3) := by decide +kernel
theorem dX7_rank_60 : decode cX7_rank 60 = .ok (.aload_n 0, 1) := by decide +kernel
theorem dX7_rank_61 : decode cX7_rank 61 = .ok (.iload_n 1, 1) := by decide +kernel
theorem dX7_rank_62 : decode cX7_rank 62 = .ok (.invokevirtual 299, 3) := by decide +kernel
theorem dX7_rank_65 : decode cX7_rank 65 = .ok (.istore_n 3, 1) := by decide +kernel
theorem dX7_rank_66 : decode cX7_rank 66 = .ok (.iload_n 3, 1) := by decide +kernel
theorem dX7_rank_67 : decode cX7_rank 67 = .ok (.ifCond .ge 5, 3) := by decide +kernel
theorem dX7_rank_70 : decode cX7_rank 70 = .ok (.iload_n 3, 1) := by decide +kernel
theorem dX7_rank_71 : decode cX7_rank 71 = .ok (.ireturn, 1) := by decide +kernel
theorem dX7_rank_72 : decode cX7_rank 72 = .ok (.iload_n 1, 1) := by decide +kernel
theorem dX7_rank_73 : decode cX7_rank 73 = .ok (.iconst 4, 1) := by decide +kernel
theorem dX7_rank_74 : decode cX7_rank 74 = .ok (.if_icmp .ne 10, 3) := by decide +kernel
theorem dX7_rank_77 : decode cX7_rank 77 = .ok (.aload_n 0, 1) := by decide +kernel
theorem dX7_rank_78 : decode cX7_rank 78 = .ok (.invokevirtual 311, 3) := by decide +kernel
theorem dX7_rank_81 : decode cX7_rank 81 = .ok (.goto 8, 3) := by decide +kernel
theorem dX7_rank_84 : decode cX7_rank 84 = .ok (.aload_n 0, 1) := by decide +kernel
theorem dX7_rank_85 : decode cX7_rank 85 = .ok (.iload_n 1, 1) := by decide +kernel
theorem dX7_rank_86 : decode cX7_rank 86 = .ok (.invokevirtual 314, 3) := by decide +kernel
theorem dX7_rank_89 : decode cX7_rank 89 = .ok (.ireturn, 1) := by decide +kernel
theorem dX7_rankReach_0 : decode cX7_rankReach 0 = .ok (.iconst 0, 1) := by decide +kernel
theorem dX7_rankReach_1 : decode cX7_rankReach 1 = .ok (.istore_n 1, 1) := by decide +kernel
theorem dX7_rankReach_2 : decode cX7_rankReach 2 = .ok (.aload_n 0, 1) := by decide +kernel
theorem dX7_rankReach_3 : decode cX7_rankReach 3 = .ok (.invokevirtual 267, 3) := by decide +kernel
theorem dX7_rankReach_6 : decode cX7_rankReach 6 = .ok (.aload_n 0, 1) := by decide +kernel
theorem dX7_rankReach_7 : decode cX7_rankReach 7 = .ok (.invokevirtual 317, 3) := by decide +kernel
theorem dX7_rankReach_10 : decode cX7_rankReach 10 = .ok (.ifCond .ne 26, 3) := by decide +kernel
theorem dX7_rankReach_13 : decode cX7_rankReach 13 = .ok (.iload_n 1, 1) := by decide +kernel
theorem dX7_rankReach_14 : decode cX7_rankReach 14 = .ok (.aload_n 0, 1) := by decide +kernel
theorem dX7_rankReach_15 : decode cX7_rankReach 15 = .ok (.invokevirtual 277, 3) := by decide +kernel
theorem dX7_rankReach_18 : decode cX7_rankReach 18 = .ok (.ifCond .eq 7, 3) := by decide +kernel
theorem dX7_rankReach_21 : decode cX7_rankReach 21 = .ok (.iconst 1, 1) := by decide +kernel
theorem dX7_rankReach_22 : decode cX7_rankReach 22 = .ok (.goto 4, 3) := by decide +kernel
theorem dX7_rankReach_25 : decode cX7_rankReach 25 = .ok (.iconst 0, 1) := by decide +kernel
theorem dX7_rankReach_26 : decode cX7_rankReach 26 = .ok (.iadd, 1) := by decide +kernel
theorem dX7_rankReach_27 : decode cX7_rankReach 27 = .ok (.istore_n 1, 1) := by decide +kernel
theorem dX7_rankReach_28 : decode cX7_rankReach 28 = .ok (.aload_n 0, 1) := by decide +kernel
theorem dX7_rankReach_29 : decode cX7_rankReach 29 = .ok (.invokevirtual 274, 3) := by decide +kernel
theorem dX7_rankReach_32 : decode cX7_rankReach 32 = .ok (.pop, 1) := by decide +kernel
theorem dX7_rankReach_33 : decode cX7_rankReach 33 = .ok (.goto (-27), 3) := by decide +kernel
theorem dX7_rankReach_36 : decode cX7_rankReach 36 = .ok (.aload_n 0, 1) := by decide +kernel
theorem dX7_rankReach_37 : decode cX7_rankReach 37 = .ok (.invokevirtual 277, 3) := by decide +kernel
theorem dX7_rankReach_40 : decode cX7_rankReach 40 = .ok (.ifCond .eq 7, 3) := by decide +kernel
theorem dX7_rankReach_43 : decode cX7_rankReach 43 = .ok (.iload_n 1, 1) := by decide +kernel
theorem dX7_rankReach_44 : decode cX7_rankReach 44 = .ok (.goto 5, 3) := by decide +kernel
theorem dX7_rankReach_47 : decode cX7_rankReach 47 = .ok (.bipush (-9), 2) := by decide +kernel
theorem dX7_rankReach_49 : decode cX7_rankReach 49 = .ok (.ireturn, 1) := by decide +kernel
theorem dX7_rankBySets_0 : decode cX7_rankBySets 0 = .ok (.iconst 0, 1) := by decide +kernel
theorem dX7_rankBySets_1 : decode cX7_rankBySets 1 = .ok (.istore_n 2, 1) := by decide +kernel
theorem dX7_rankBySets_2 : decode cX7_rankBySets 2 = .ok (.iconst 0, 1) := by decide +kernel
theorem dX7_rankBySets_3 : decode cX7_rankBySets 3 = .ok (.istore_n 3, 1) := by decide +kernel
theorem dX7_rankBySets_4 : decode cX7_rankBySets 4 = .ok (.bipush (-9), 2) := by decide +kernel
theorem dX7_rankBySets_6 : decode cX7_rankBySets 6 = .ok (.istore 4, 2) := by decide +kernel
theorem dX7_rankBySets_8 : decode cX7_rankBySets 8 = .ok (.iconst 0, 1) := by decide +kernel
theorem dX7_rankBySets_9 : decode cX7_rankBySets 9 = .ok (.istore 5, 2) := by decide +kernel
theorem dX7_rankBySets_11 : decode cX7_rankBySets 11 = .ok (.iload 5, 2) := by decide +kernel
theorem dX7_rankBySets_13 : decode cX7_rankBySets 13 = .ok (.aload_n 0, 1) := by decide +kernel
theorem dX7_rankBySets_14 : decode cX7_rankBySets 14 = .ok (.getfield 157, 3) := by decide +kernel
theorem dX7_rankBySets_17 : decode cX7_rankBySets 17 = .ok (.if_icmp .ge 108, 3) := by decide +kernel
theorem dX7_rankBySets_20 : decode cX7_rankBySets 20 = .ok (.iconst 0, 1) := by decide +kernel
theorem dX7_rankBySets_21 : decode cX7_rankBySets 21 = .ok (.istore 6, 2) := by decide +kernel
theorem dX7_rankBySets_23 : decode cX7_rankBySets 23 = .ok (.iload 6, 2) := by decide +kernel
theorem dX7_rankBySets_25 : decode cX7_rankBySets 25 = .ok (.aload_n 0, 1) := by decide +kernel
theorem dX7_rankBySets_26 : decode cX7_rankBySets 26 = .ok (.getfield 62, 3) := by decide +kernel
theorem dX7_rankBySets_29 : decode cX7_rankBySets 29 = .ok (.iload 5, 2) := by decide +kernel
theorem dX7_rankBySets_31 : decode cX7_rankBySets 31 = .ok (.iaload, 1) := by decide +kernel
theorem dX7_rankBySets_32 : decode cX7_rankBySets 32 = .ok (.if_icmp .ge 45, 3) := by decide +kernel
theorem dX7_rankBySets_35 : decode cX7_rankBySets 35 = .ok (.iload_n 2, 1) := by decide +kernel
theorem dX7_rankBySets_36 : decode cX7_rankBySets 36 = .ok (.aload_n 0, 1) := by decide +kernel
theorem dX7_rankBySets_37 : decode cX7_rankBySets 37 = .ok (.iload_n 1, 1) := by decide +kernel
theorem dX7_rankBySets_38 : decode cX7_rankBySets 38 = .ok (.iload_n 3, 1) := by decide +kernel
theorem dX7_rankBySets_39 : decode cX7_rankBySets 39 = .ok (.iload 4, 2) := by decide +kernel
theorem dX7_rankBySets_41 : decode cX7_rankBySets 41 = .ok (.iload 6, 2) := by decide +kernel
theorem dX7_rankBySets_43 : decode cX7_rankBySets 43 = .ok (.invokevirtual 257, 3) := by decide +kernel
theorem dX7_rankBySets_46 : decode cX7_rankBySets 46 = .ok (.ifCond .eq 22, 3) := by decide +kernel
theorem dX7_rankBySets_49 : decode cX7_rankBySets 49 = .ok (.aload_n 0, 1) := by decide +kernel
theorem dX7_rankBySets_50 : decode cX7_rankBySets 50 = .ok (.getfield 56, 3) := by decide +kernel
theorem dX7_rankBySets_53 : decode cX7_rankBySets 53 = .ok (.iload_n 3, 1) := by decide +kernel
theorem dX7_rankBySets_54 : decode cX7_rankBySets 54 = .ok (.iconst 1, 1) := by decide +kernel
theorem dX7_rankBySets_55 : decode cX7_rankBySets 55 = .ok (.iload 6, 2) := by decide +kernel
theorem dX7_rankBySets_57 : decode cX7_rankBySets 57 = .ok (.ishl, 1) := by decide +kernel
theorem dX7_rankBySets_58 : decode cX7_rankBySets 58 = .ok (.ior, 1) := by decide +kernel
theorem dX7_rankBySets_59 : decode cX7_rankBySets 59 = .ok (.iload 6, 2) := by decide +kernel
theorem dX7_rankBySets_61 : decode cX7_rankBySets 61 = .ok (.invokestatic 243, 3) := by decide +kernel
theorem dX7_rankBySets_64 : decode cX7_rankBySets 64 = .ok (.iaload, 1) := by decide +kernel
theorem dX7_rankBySets_65 : decode cX7_rankBySets 65 = .ok (.goto 4, 3) := by decide +kernel
theorem dX7_rankBySets_68 : decode cX7_rankBySets 68 = .ok (.iconst 0, 1) := by decide +kernel
theorem dX7_rankBySets_69 : decode cX7_rankBySets 69 = .ok (.iadd, 1) := by decide +kernel
theorem dX7_rankBySets_70 : decode cX7_rankBySets 70 = .ok (.istore_n 2, 1) := by decide +kernel
theorem dX7_rankBySets_71 : decode cX7_rankBySets 71 = .ok (.iinc 6 1, 3) := by decide +kernel
theorem dX7_rankBySets_74 : decode cX7_rankBySets 74 = .ok (.goto (-51), 3) := by decide +kernel
theorem dX7_rankBySets_77 : decode cX7_rankBySets 77 = .ok (.aload_n 0, 1) := by decide +kernel
theorem dX7_rankBySets_78 : decode cX7_rankBySets 78 = .ok (.iload_n 1, 1) := by decide +kernel
theorem dX7_rankBySets_79 : decode cX7_rankBySets 79 = .ok (.iload_n 3, 1) := by decide +kernel
theorem dX7_rankBySets_80 : decode cX7_rankBySets 80 = .ok (.iload 4, 2) := by decide +kernel
theorem dX7_rankBySets_82 : decode cX7_rankBySets 82 = .ok (.aload_n 0, 1) := by decide +kernel
theorem dX7_rankBySets_83 : decode cX7_rankBySets 83 = .ok (.getfield 62, 3) := by decide +kernel
theorem dX7_rankBySets_86 : decode cX7_rankBySets 86 = .ok (.iload 5, 2) := by decide +kernel
theorem dX7_rankBySets_88 : decode cX7_rankBySets 88 = .ok (.iaload, 1) := by decide +kernel
theorem dX7_rankBySets_89 : decode cX7_rankBySets 89 = .ok (.invokevirtual 257, 3) := by decide +kernel
theorem dX7_rankBySets_92 : decode cX7_rankBySets 92 = .ok (.ifCond .ne 6, 3) := by decide +kernel
theorem dX7_rankBySets_95 : decode cX7_rankBySets 95 = .ok (.bipush (-9), 2) := by decide +kernel
theorem dX7_rankBySets_97 : decode cX7_rankBySets 97 = .ok (.ireturn, 1) := by decide +kernel
theorem dX7_rankBySets_98 : decode cX7_rankBySets 98 = .ok (.iload_n 3, 1) := by decide +kernel
theorem dX7_rankBySets_99 : decode cX7_rankBySets 99 = .ok (.iconst 1, 1) := by decide +kernel
theorem dX7_rankBySets_100 : decode cX7_rankBySets 100 = .ok (.aload_n 0, 1) := by decide +kernel
theorem dX7_rankBySets_101 : decode cX7_rankBySets 101 = .ok (.getfield 62, 3) := by decide +kernel
theorem dX7_rankBySets_104 : decode cX7_rankBySets 104 = .ok (.iload 5, 2) := by decide +kernel
theorem dX7_rankBySets_106 : decode cX7_rankBySets 106 = .ok (.iaload, 1) := by decide +kernel
theorem dX7_rankBySets_107 : decode cX7_rankBySets 107 = .ok (.ishl, 1) := by decide +kernel
theorem dX7_rankBySets_108 : decode cX7_rankBySets 108 = .ok (.ior, 1) := by decide +kernel
theorem dX7_rankBySets_109 : decode cX7_rankBySets 109 = .ok (.istore_n 3, 1) := by decide +kernel
theorem dX7_rankBySets_110 : decode cX7_rankBySets 110 = .ok (.aload_n 0, 1) := by decide +kernel
theorem dX7_rankBySets_111 : decode cX7_rankBySets 111 = .ok (.getfield 62, 3) := by decide +kernel
theorem dX7_rankBySets_114 : decode cX7_rankBySets 114 = .ok (.iload 5, 2) := by decide +kernel
theorem dX7_rankBySets_116 : decode cX7_rankBySets 116 = .ok (.iaload, 1) := by decide +kernel
theorem dX7_rankBySets_117 : decode cX7_rankBySets 117 = .ok (.istore 4, 2) := by decide +kernel
theorem dX7_rankBySets_119 : decode cX7_rankBySets 119 = .ok (.iinc 5 1, 3) := by decide +kernel
theorem dX7_rankBySets_122 : decode cX7_rankBySets 122 = .ok (.goto (-111), 3) := by decide +kernel
theorem dX7_rankBySets_125 : decode cX7_rankBySets 125 = .ok (.iload_n 2, 1) := by decide +kernel
theorem dX7_rankBySets_126 : decode cX7_rankBySets 126 = .ok (.ireturn, 1) := by decide +kernel
theorem dX7_order_0 : decode cX7_order 0 = .ok (.iload_n 1, 1) := by decide +kernel
theorem dX7_order_1 : decode cX7_order 1 = .ok (.invokestatic 211, 3) := by decide +kernel
theorem dX7_order_4 : decode cX7_order 4 = .ok (.ifCond .eq 14, 3) := by decide +kernel
theorem dX7_order_7 : decode cX7_order 7 = .ok (.iload_n 2, 1) := by decide +kernel
theorem dX7_order_8 : decode cX7_order 8 = .ok (.ifCond .lt 10, 3) := by decide +kernel
theorem dX7_order_11 : decode cX7_order 11 = .ok (.iload_n 3, 1) := by decide +kernel
theorem dX7_order_12 : decode cX7_order 12 = .ok (.invokestatic 102, 3) := by decide +kernel
theorem dX7_order_15 : decode cX7_order 15 = .ok (.ifCond .ne 5, 3) := by decide +kernel
theorem dX7_order_18 : decode cX7_order 18 = .ok (.iconst (-1), 1) := by decide +kernel
theorem dX7_order_19 : decode cX7_order 19 = .ok (.ireturn, 1) := by decide +kernel
theorem dX7_order_20 : decode cX7_order 20 = .ok (.aload_n 0, 1) := by decide +kernel
theorem dX7_order_21 : decode cX7_order 21 = .ok (.iload_n 1, 1) := by decide +kernel
theorem dX7_order_22 : decode cX7_order 22 = .ok (.invokevirtual 299, 3) := by decide +kernel
theorem dX7_order_25 : decode cX7_order 25 = .ok (.istore 4, 2) := by decide +kernel
theorem dX7_order_27 : decode cX7_order 27 = .ok (.iload 4, 2) := by decide +kernel
theorem dX7_order_29 : decode cX7_order 29 = .ok (.ifCond .ge 6, 3) := by decide +kernel
theorem dX7_order_32 : decode cX7_order 32 = .ok (.iload 4, 2) := by decide +kernel
theorem dX7_order_34 : decode cX7_order 34 = .ok (.ireturn, 1) := by decide +kernel
theorem dX7_order_35 : decode cX7_order 35 = .ok (.iload_n 2, 1) := by decide +kernel
theorem dX7_order_36 : decode cX7_order 36 = .ok (.aload_n 0, 1) := by decide +kernel
theorem dX7_order_37 : decode cX7_order 37 = .ok (.getfield 260, 3) := by decide +kernel
theorem dX7_order_40 : decode cX7_order 40 = .ok (.if_icmp .lt 9, 3) := by decide +kernel
theorem dX7_order_43 : decode cX7_order 43 = .ok (.aload_n 0, 1) := by decide +kernel
theorem dX7_order_44 : decode cX7_order 44 = .ok (.iconst 2, 1) := by decide +kernel
theorem dX7_order_45 : decode cX7_order 45 = .ok (.invokevirtual 106, 3) := by decide +kernel
theorem dX7_order_48 : decode cX7_order 48 = .ok (.ireturn, 1) := by decide +kernel
theorem dX7_order_49 : decode cX7_order 49 = .ok (.aload_n 0, 1) := by decide +kernel
theorem dX7_order_50 : decode cX7_order 50 = .ok (.iload_n 1, 1) := by decide +kernel
theorem dX7_order_51 : decode cX7_order 51 = .ok (.iload_n 2, 1) := by decide +kernel
theorem dX7_order_52 : decode cX7_order 52 = .ok (.invokevirtual 305, 3) := by decide +kernel
theorem dX7_order_55 : decode cX7_order 55 = .ok (.aload_n 0, 1) := by decide +kernel
theorem dX7_order_56 : decode cX7_order 56 = .ok (.iload_n 3, 1) := by decide +kernel
theorem dX7_order_57 : decode cX7_order 57 = .ok (.invokevirtual 308, 3) := by decide +kernel
theorem dX7_order_60 : decode cX7_order 60 = .ok (.iconst 1, 1) := by decide +kernel
theorem dX7_order_61 : decode cX7_order 61 = .ok (.ireturn, 1) := by decide +kernel
theorem dX7_allowedMany_0 : decode cX7_allowedMany 0 = .ok (.aload_n 0, 1) := by decide +kernel
theorem dX7_allowedMany_1 : decode cX7_allowedMany 1 = .ok (.invokevirtual 236, 3) := by decide +kernel
theorem dX7_allowedMany_4 : decode cX7_allowedMany 4 = .ok (.istore_n 1, 1) := by decide +kernel
theorem dX7_allowedMany_5 : decode cX7_allowedMany 5 = .ok (.iload_n 1, 1) := by decide +kernel
theorem dX7_allowedMany_6 : decode cX7_allowedMany 6 = .ok (.ifCond .lt 143, 3) := by decide +kernel
theorem dX7_allowedMany_9 : decode cX7_allowedMany 9 = .ok (.iconst 0, 1) := by decide +kernel
theorem dX7_allowedMany_10 : decode cX7_allowedMany 10 = .ok (.istore_n 2, 1) := by decide +kernel
theorem dX7_allowedMany_11 : decode cX7_allowedMany 11 = .ok (.iload_n 2, 1) := by decide +kernel
theorem dX7_allowedMany_12 : decode cX7_allowedMany 12 = .ok (.aload_n 0, 1) := by decide +kernel
theorem dX7_allowedMany_13 : decode cX7_allowedMany 13 = .ok (.getfield 157, 3) := by decide +kernel
theorem dX7_allowedMany_16 : decode cX7_allowedMany 16 = .ok (.if_icmp .ge 127, 3) := by decide +kernel
theorem dX7_allowedMany_19 : decode cX7_allowedMany 19 = .ok (.iload_n 1, 1) := by decide +kernel
theorem dX7_allowedMany_20 : decode cX7_allowedMany 20 = .ok (.aload_n 0, 1) := by decide +kernel
theorem dX7_allowedMany_21 : decode cX7_allowedMany 21 = .ok (.invokevirtual 236, 3) := by decide +kernel
theorem dX7_allowedMany_24 : decode cX7_allowedMany 24 = .ok (.if_icmp .ne 15, 3) := by decide +kernel
theorem dX7_allowedMany_27 : decode cX7_allowedMany 27 = .ok (.iload_n 1, 1) := by decide +kernel
theorem dX7_allowedMany_28 : decode cX7_allowedMany 28 = .ok (.iload_n 2, 1) := by decide +kernel
theorem dX7_allowedMany_29 : decode cX7_allowedMany 29 = .ok (.invokestatic 186, 3) := by decide +kernel
theorem dX7_allowedMany_32 : decode cX7_allowedMany 32 = .ok (.ifCond .eq 7, 3) := by decide +kernel
theorem dX7_allowedMany_35 : decode cX7_allowedMany 35 = .ok (.iconst 1, 1) := by decide +kernel
theorem dX7_allowedMany_36 : decode cX7_allowedMany 36 = .ok (.goto 4, 3) := by decide +kernel
theorem dX7_allowedMany_39 : decode cX7_allowedMany 39 = .ok (.iconst 0, 1) := by decide +kernel
theorem dX7_allowedMany_40 : decode cX7_allowedMany 40 = .ok (.istore_n 3, 1) := by decide +kernel
theorem dX7_allowedMany_41 : decode cX7_allowedMany 41 = .ok (.iload_n 1, 1) := by decide +kernel
theorem dX7_allowedMany_42 : decode cX7_allowedMany 42 = .ok (.aload_n 0, 1) := by decide +kernel
theorem dX7_allowedMany_43 : decode cX7_allowedMany 43 = .ok (.invokevirtual 236, 3) := by decide +kernel
theorem dX7_allowedMany_46 : decode cX7_allowedMany 46 = .ok (.if_icmp .ge 80, 3) := by decide +kernel
theorem dX7_allowedMany_49 : decode cX7_allowedMany 49 = .ok (.iload_n 1, 1) := by decide +kernel
theorem dX7_allowedMany_50 : decode cX7_allowedMany 50 = .ok (.iload_n 2, 1) := by decide +kernel
theorem dX7_allowedMany_51 : decode cX7_allowedMany 51 = .ok (.invokestatic 186, 3) := by decide +kernel
theorem dX7_allowedMany_54 : decode cX7_allowedMany 54 = .ok (.ifCond .ne 11, 3) := by decide +kernel
theorem dX7_allowedMany_57 : decode cX7_allowedMany 57 = .ok (.iload_n 1, 1) := by decide +kernel
theorem dX7_allowedMany_58 : decode cX7_allowedMany 58 = .ok (.ifCond .ne 68, 3) := by decide +kernel
theorem dX7_allowedMany_61 : decode cX7_allowedMany 61 = .ok (.iload_n 2, 1) := by decide +kernel
theorem dX7_allowedMany_62 : decode cX7_allowedMany 62 = .ok (.ifCond .ne 64, 3) := by decide +kernel
theorem dX7_allowedMany_65 : decode cX7_allowedMany 65 = .ok (.iconst 0, 1) := by decide +kernel
theorem dX7_allowedMany_66 : decode cX7_allowedMany 66 = .ok (.istore 4, 2) := by decide +kernel
theorem dX7_allowedMany_68 : decode cX7_allowedMany 68 = .ok (.iload 4, 2) := by decide +kernel
theorem dX7_allowedMany_70 : decode cX7_allowedMany 70 = .ok (.aload_n 0, 1) := by decide +kernel
theorem dX7_allowedMany_71 : decode cX7_allowedMany 71 = .ok (.getfield 157, 3) := by decide +kernel
theorem dX7_allowedMany_74 : decode cX7_allowedMany 74 = .ok (.if_icmp .ge 52, 3) := by decide +kernel
theorem dX7_allowedMany_77 : decode cX7_allowedMany 77 = .ok (.iload_n 3, 1) := by decide +kernel
theorem dX7_allowedMany_78 : decode cX7_allowedMany 78 = .ok (.aload_n 0, 1) := by decide +kernel
theorem dX7_allowedMany_79 : decode cX7_allowedMany 79 = .ok (.iload_n 1, 1) := by decide +kernel
theorem dX7_allowedMany_80 : decode cX7_allowedMany 80 = .ok (.iload_n 1, 1) := by decide +kernel
theorem dX7_allowedMany_81 : decode cX7_allowedMany 81 = .ok (.ifCond .ne 8, 3) := by decide +kernel
theorem dX7_allowedMany_84 : decode cX7_allowedMany 84 = .ok (.bipush (-9), 2) := by decide +kernel
theorem dX7_allowedMany_86 : decode cX7_allowedMany 86 = .ok (.goto 4, 3) := by decide +kernel
theorem dX7_allowedMany_89 : decode cX7_allowedMany 89 = .ok (.iload_n 2, 1) := by decide +kernel
theorem dX7_allowedMany_90 : decode cX7_allowedMany 90 = .ok (.iload 4, 2) := by decide +kernel
theorem dX7_allowedMany_92 : decode cX7_allowedMany 92 = .ok (.invokevirtual 254, 3) := by decide +kernel
theorem dX7_allowedMany_95 : decode cX7_allowedMany 95 = .ok (.ifCond .eq 22, 3) := by decide +kernel
theorem dX7_allowedMany_98 : decode cX7_allowedMany 98 = .ok (.aload_n 0, 1) := by decide +kernel
theorem dX7_allowedMany_99 : decode cX7_allowedMany 99 = .ok (.getfield 56, 3) := by decide +kernel
theorem dX7_allowedMany_102 : decode cX7_allowedMany 102 = .ok (.iload_n 1, 1) := by decide +kernel
theorem dX7_allowedMany_103 : decode cX7_allowedMany 103 = .ok (.iconst 1, 1) := by decide +kernel
theorem dX7_allowedMany_104 : decode cX7_allowedMany 104 = .ok (.iload 4, 2) := by decide +kernel
theorem dX7_allowedMany_106 : decode cX7_allowedMany 106 = .ok (.ishl, 1) := by decide +kernel
theorem dX7_allowedMany_107 : decode cX7_allowedMany 107 = .ok (.ior, 1) := by decide +kernel
theorem dX7_allowedMany_108 : decode cX7_allowedMany 108 = .ok (.iload 4, 2) := by decide +kernel
theorem dX7_allowedMany_110 : decode cX7_allowedMany 110 = .ok (.invokestatic 243, 3) := by decide +kernel
theorem dX7_allowedMany_113 : decode cX7_allowedMany 113 = .ok (.iaload, 1) := by decide +kernel
theorem dX7_allowedMany_114 : decode cX7_allowedMany 114 = .ok (.goto 4, 3) := by decide +kernel
theorem dX7_allowedMany_117 : decode cX7_allowedMany 117 = .ok (.iconst 0, 1) := by decide +kernel
theorem dX7_allowedMany_118 : decode cX7_allowedMany 118 = .ok (.iadd, 1) := by decide +kernel
theorem dX7_allowedMany_119 : decode cX7_allowedMany 119 = .ok (.istore_n 3, 1) := by decide +kernel
theorem dX7_allowedMany_120 : decode cX7_allowedMany 120 = .ok (.iinc 4 1, 3) := by decide +kernel
theorem dX7_allowedMany_123 : decode cX7_allowedMany 123 = .ok (.goto (-55), 3) := by decide +kernel
theorem dX7_allowedMany_126 : decode cX7_allowedMany 126 = .ok (.aload_n 0, 1) := by decide +kernel
theorem dX7_allowedMany_127 : decode cX7_allowedMany 127 = .ok (.getfield 56, 3) := by decide +kernel
theorem dX7_allowedMany_130 : decode cX7_allowedMany 130 = .ok (.iload_n 1, 1) := by decide +kernel
theorem dX7_allowedMany_131 : decode cX7_allowedMany 131 = .ok (.iload_n 2, 1) := by decide +kernel
theorem dX7_allowedMany_132 : decode cX7_allowedMany 132 = .ok (.invokestatic 243, 3) := by decide +kernel
theorem dX7_allowedMany_135 : decode cX7_allowedMany 135 = .ok (.iload_n 3, 1) := by decide +kernel
theorem dX7_allowedMany_136 : decode cX7_allowedMany 136 = .ok (.iastore, 1) := by decide +kernel
theorem dX7_allowedMany_137 : decode cX7_allowedMany 137 = .ok (.iinc 2 1, 3) := by decide +kernel
theorem dX7_allowedMany_140 : decode cX7_allowedMany 140 = .ok (.goto (-129), 3) := by decide +kernel
theorem dX7_allowedMany_143 : decode cX7_allowedMany 143 = .ok (.iinc 1 (-1), 3) := by decide +kernel
theorem dX7_allowedMany_146 : decode cX7_allowedMany 146 = .ok (.goto (-141), 3) := by decide +kernel
theorem dX7_allowedMany_149 : decode cX7_allowedMany 149 = .ok (.aload_n 0, 1) := by decide +kernel
theorem dX7_allowedMany_150 : decode cX7_allowedMany 150 = .ok (.getfield 157, 3) := by decide +kernel
theorem dX7_allowedMany_153 : decode cX7_allowedMany 153 = .ok (.ifCond .ne 7, 3) := by decide +kernel
theorem dX7_allowedMany_156 : decode cX7_allowedMany 156 = .ok (.iconst 1, 1) := by decide +kernel
theorem dX7_allowedMany_157 : decode cX7_allowedMany 157 = .ok (.goto 13, 3) := by decide +kernel
theorem dX7_allowedMany_160 : decode cX7_allowedMany 160 = .ok (.aload_n 0, 1) := by decide +kernel
theorem dX7_allowedMany_161 : decode cX7_allowedMany 161 = .ok (.getfield 56, 3) := by decide +kernel
theorem dX7_allowedMany_164 : decode cX7_allowedMany 164 = .ok (.iconst 0, 1) := by decide +kernel
theorem dX7_allowedMany_165 : decode cX7_allowedMany 165 = .ok (.iconst 0, 1) := by decide +kernel
theorem dX7_allowedMany_166 : decode cX7_allowedMany 166 = .ok (.invokestatic 243, 3) := by decide +kernel
theorem dX7_allowedMany_169 : decode cX7_allowedMany 169 = .ok (.iaload, 1) := by decide +kernel
theorem dX7_allowedMany_170 : decode cX7_allowedMany 170 = .ok (.ireturn, 1) := by decide +kernel
theorem dX7_all_0 : decode cX7_all 0 = .ok (.aload_n 0, 1) := by decide +kernel
theorem dX7_all_1 : decode cX7_all 1 = .ok (.invokevirtual 320, 3) := by decide +kernel
theorem dX7_all_4 : decode cX7_all 4 = .ok (.ireturn, 1) := by decide +kernel
theorem dX7_nearestOf_0 : decode cX7_nearestOf 0 = .ok (.iconst 0, 1) := by decide +kernel
theorem dX7_nearestOf_1 : decode cX7_nearestOf 1 = .ok (.istore_n 2, 1) := by decide +kernel
theorem dX7_nearestOf_2 : decode cX7_nearestOf 2 = .ok (.iload_n 2, 1) := by decide +kernel
theorem dX7_nearestOf_3 : decode cX7_nearestOf 3 = .ok (.aload_n 0, 1) := by decide +kernel
theorem dX7_nearestOf_4 : decode cX7_nearestOf 4 = .ok (.getfield 157, 3) := by decide +kernel
theorem dX7_nearestOf_7 : decode cX7_nearestOf 7 = .ok (.if_icmp .ge 21, 3) := by decide +kernel
theorem dX7_nearestOf_10 : decode cX7_nearestOf 10 = .ok (.aload_n 0, 1) := by decide +kernel
theorem dX7_nearestOf_11 : decode cX7_nearestOf 11 = .ok (.getfield 65, 3) := by decide +kernel
theorem dX7_nearestOf_14 : decode cX7_nearestOf 14 = .ok (.iload_n 2, 1) := by decide +kernel
theorem dX7_nearestOf_15 : decode cX7_nearestOf 15 = .ok (.aload_n 0, 1) := by decide +kernel
theorem dX7_nearestOf_16 : decode cX7_nearestOf 16 = .ok (.iload_n 1, 1) := by decide +kernel
theorem dX7_nearestOf_17 : decode cX7_nearestOf 17 = .ok (.iload_n 2, 1) := by decide +kernel
theorem dX7_nearestOf_18 : decode cX7_nearestOf 18 = .ok (.invokevirtual 166, 3) := by decide +kernel
theorem dX7_nearestOf_21 : decode cX7_nearestOf 21 = .ok (.iastore, 1) := by decide +kernel
theorem dX7_nearestOf_22 : decode cX7_nearestOf 22 = .ok (.iinc 2 1, 3) := by decide +kernel
theorem dX7_nearestOf_25 : decode cX7_nearestOf 25 = .ok (.goto (-23), 3) := by decide +kernel
theorem dX7_nearestOf_28 : decode cX7_nearestOf 28 = .ok (.iconst 0, 1) := by decide +kernel
theorem dX7_nearestOf_29 : decode cX7_nearestOf 29 = .ok (.istore_n 2, 1) := by decide +kernel
theorem dX7_nearestOf_30 : decode cX7_nearestOf 30 = .ok (.iconst 0, 1) := by decide +kernel
theorem dX7_nearestOf_31 : decode cX7_nearestOf 31 = .ok (.istore_n 3, 1) := by decide +kernel
theorem dX7_nearestOf_32 : decode cX7_nearestOf 32 = .ok (.iload_n 3, 1) := by decide +kernel
theorem dX7_nearestOf_33 : decode cX7_nearestOf 33 = .ok (.aload_n 0, 1) := by decide +kernel
theorem dX7_nearestOf_34 : decode cX7_nearestOf 34 = .ok (.getfield 157, 3) := by decide +kernel
theorem dX7_nearestOf_37 : decode cX7_nearestOf 37 = .ok (.if_icmp .ge 80, 3) := by decide +kernel
theorem dX7_nearestOf_40 : decode cX7_nearestOf 40 = .ok (.iconst 0, 1) := by decide +kernel
theorem dX7_nearestOf_41 : decode cX7_nearestOf 41 = .ok (.istore 4, 2) := by decide +kernel
theorem dX7_nearestOf_43 : decode cX7_nearestOf 43 = .ok (.iconst 1, 1) := by decide +kernel
theorem dX7_nearestOf_44 : decode cX7_nearestOf 44 = .ok (.istore 5, 2) := by decide +kernel
theorem dX7_nearestOf_46 : decode cX7_nearestOf 46 = .ok (.iload 5, 2) := by decide +kernel
theorem dX7_nearestOf_48 : decode cX7_nearestOf 48 = .ok (.aload_n 0, 1) := by decide +kernel
theorem dX7_nearestOf_49 : decode cX7_nearestOf 49 = .ok (.getfield 157, 3) := by decide +kernel
theorem dX7_nearestOf_52 : decode cX7_nearestOf 52 = .ok (.if_icmp .ge 35, 3) := by decide +kernel
theorem dX7_nearestOf_55 : decode cX7_nearestOf 55 = .ok (.aload_n 0, 1) := by decide +kernel
theorem dX7_nearestOf_56 : decode cX7_nearestOf 56 = .ok (.getfield 65, 3) := by decide +kernel
theorem dX7_nearestOf_59 : decode cX7_nearestOf 59 = .ok (.iload 5, 2) := by decide +kernel
theorem dX7_nearestOf_61 : decode cX7_nearestOf 61 = .ok (.iaload, 1) := by decide +kernel
theorem dX7_nearestOf_62 : decode cX7_nearestOf 62 = .ok (.aload_n 0, 1) := by decide +kernel
theorem dX7_nearestOf_63 : decode cX7_nearestOf 63 = .ok (.getfield 65, 3) := by decide +kernel
theorem dX7_nearestOf_66 : decode cX7_nearestOf 66 = .ok (.iload 4, 2) := by decide +kernel
theorem dX7_nearestOf_68 : decode cX7_nearestOf 68 = .ok (.iaload, 1) := by decide +kernel
theorem dX7_nearestOf_69 : decode cX7_nearestOf 69 = .ok (.if_icmp .le 8, 3) := by decide +kernel
theorem dX7_nearestOf_72 : decode cX7_nearestOf 72 = .ok (.iload 5, 2) := by decide +kernel
theorem dX7_nearestOf_74 : decode cX7_nearestOf 74 = .ok (.goto 5, 3) := by decide +kernel
theorem dX7_nearestOf_77 : decode cX7_nearestOf 77 = .ok (.iload 4, 2) := by decide +kernel
theorem dX7_nearestOf_79 : decode cX7_nearestOf 79 = .ok (.istore 4, 2) := by decide +kernel
theorem dX7_nearestOf_81 : decode cX7_nearestOf 81 = .ok (.iinc 5 1, 3) := by decide +kernel
theorem dX7_nearestOf_84 : decode cX7_nearestOf 84 = .ok (.goto (-38), 3) := by decide +kernel
theorem dX7_nearestOf_87 : decode cX7_nearestOf 87 = .ok (.iload_n 2, 1) := by decide +kernel
theorem dX7_nearestOf_88 : decode cX7_nearestOf 88 = .ok (.aload_n 0, 1) := by decide +kernel
theorem dX7_nearestOf_89 : decode cX7_nearestOf 89 = .ok (.getfield 65, 3) := by decide +kernel
theorem dX7_nearestOf_92 : decode cX7_nearestOf 92 = .ok (.iload 4, 2) := by decide +kernel
theorem dX7_nearestOf_94 : decode cX7_nearestOf 94 = .ok (.iaload, 1) := by decide +kernel
theorem dX7_nearestOf_95 : decode cX7_nearestOf 95 = .ok (.iload_n 3, 1) := by decide +kernel
theorem dX7_nearestOf_96 : decode cX7_nearestOf 96 = .ok (.iconst 2, 1) := by decide +kernel
theorem dX7_nearestOf_97 : decode cX7_nearestOf 97 = .ok (.idiv, 1) := by decide +kernel
theorem dX7_nearestOf_98 : decode cX7_nearestOf 98 = .ok (.iconst 1, 1) := by decide +kernel
theorem dX7_nearestOf_99 : decode cX7_nearestOf 99 = .ok (.iadd, 1) := by decide +kernel
theorem dX7_nearestOf_100 : decode cX7_nearestOf 100 = .ok (.imul, 1) := by decide +kernel
theorem dX7_nearestOf_101 : decode cX7_nearestOf 101 = .ok (.iadd, 1) := by decide +kernel
theorem dX7_nearestOf_102 : decode cX7_nearestOf 102 = .ok (.istore_n 2, 1) := by decide +kernel
theorem dX7_nearestOf_103 : decode cX7_nearestOf 103 = .ok (.aload_n 0, 1) := by decide +kernel
theorem dX7_nearestOf_104 : decode cX7_nearestOf 104 = .ok (.getfield 65, 3) := by decide +kernel
theorem dX7_nearestOf_107 : decode cX7_nearestOf 107 = .ok (.iload 4, 2) := by decide +kernel
theorem dX7_nearestOf_109 : decode cX7_nearestOf 109 = .ok (.iconst 0, 1) := by decide +kernel
theorem dX7_nearestOf_110 : decode cX7_nearestOf 110 = .ok (.iastore, 1) := by decide +kernel
theorem dX7_nearestOf_111 : decode cX7_nearestOf 111 = .ok (.iinc 3 1, 3) := by decide +kernel
theorem dX7_nearestOf_114 : decode cX7_nearestOf 114 = .ok (.goto (-82), 3) := by decide +kernel
theorem dX7_nearestOf_117 : decode cX7_nearestOf 117 = .ok (.iload_n 2, 1) := by decide +kernel
theorem dX7_nearestOf_118 : decode cX7_nearestOf 118 = .ok (.ireturn, 1) := by decide +kernel
theorem dX7_tiesOf_0 : decode cX7_tiesOf 0 = .ok (.iconst 0, 1) := by decide +kernel
theorem dX7_tiesOf_1 : decode cX7_tiesOf 1 = .ok (.istore_n 2, 1) := by decide +kernel
theorem dX7_tiesOf_2 : decode cX7_tiesOf 2 = .ok (.iconst 0, 1) := by decide +kernel
theorem dX7_tiesOf_3 : decode cX7_tiesOf 3 = .ok (.istore_n 3, 1) := by decide +kernel
theorem dX7_tiesOf_4 : decode cX7_tiesOf 4 = .ok (.iload_n 3, 1) := by decide +kernel
theorem dX7_tiesOf_5 : decode cX7_tiesOf 5 = .ok (.aload_n 0, 1) := by decide +kernel
theorem dX7_tiesOf_6 : decode cX7_tiesOf 6 = .ok (.getfield 157, 3) := by decide +kernel
theorem dX7_tiesOf_9 : decode cX7_tiesOf 9 = .ok (.if_icmp .ge 26, 3) := by decide +kernel
theorem dX7_tiesOf_12 : decode cX7_tiesOf 12 = .ok (.iload_n 2, 1) := by decide +kernel
theorem dX7_tiesOf_13 : decode cX7_tiesOf 13 = .ok (.aload_n 0, 1) := by decide +kernel
theorem dX7_tiesOf_14 : decode cX7_tiesOf 14 = .ok (.iload_n 1, 1) := by decide +kernel
theorem dX7_tiesOf_15 : decode cX7_tiesOf 15 = .ok (.iload_n 3, 1) := by decide +kernel
theorem dX7_tiesOf_16 : decode cX7_tiesOf 16 = .ok (.invokevirtual 166, 3) := by decide +kernel
theorem dX7_tiesOf_19 : decode cX7_tiesOf 19 = .ok (.ifCond .le 7, 3) := by decide +kernel
theorem dX7_tiesOf_22 : decode cX7_tiesOf 22 = .ok (.iconst 1, 1) := by decide +kernel
theorem dX7_tiesOf_23 : decode cX7_tiesOf 23 = .ok (.goto 4, 3) := by decide +kernel
theorem dX7_tiesOf_26 : decode cX7_tiesOf 26 = .ok (.iconst 0, 1) := by decide +kernel
theorem dX7_tiesOf_27 : decode cX7_tiesOf 27 = .ok (.iadd, 1) := by decide +kernel
theorem dX7_tiesOf_28 : decode cX7_tiesOf 28 = .ok (.istore_n 2, 1) := by decide +kernel
theorem dX7_tiesOf_29 : decode cX7_tiesOf 29 = .ok (.iinc 3 1, 3) := by decide +kernel
theorem dX7_tiesOf_32 : decode cX7_tiesOf 32 = .ok (.goto (-28), 3) := by decide +kernel
theorem dX7_tiesOf_35 : decode cX7_tiesOf 35 = .ok (.iload_n 2, 1) := by decide +kernel
theorem dX7_tiesOf_36 : decode cX7_tiesOf 36 = .ok (.ireturn, 1) := by decide +kernel
theorem dX7_weightOf_0 : decode cX7_weightOf 0 = .ok (.iconst 0, 1) := by decide +kernel
theorem dX7_weightOf_1 : decode cX7_weightOf 1 = .ok (.istore_n 2, 1) := by decide +kernel
theorem dX7_weightOf_2 : decode cX7_weightOf 2 = .ok (.iconst 0, 1) := by decide +kernel
theorem dX7_weightOf_3 : decode cX7_weightOf 3 = .ok (.istore_n 3, 1) := by decide +kernel
theorem dX7_weightOf_4 : decode cX7_weightOf 4 = .ok (.iload_n 3, 1) := by decide +kernel
theorem dX7_weightOf_5 : decode cX7_weightOf 5 = .ok (.aload_n 0, 1) := by decide +kernel
theorem dX7_weightOf_6 : decode cX7_weightOf 6 = .ok (.getfield 157, 3) := by decide +kernel
theorem dX7_weightOf_9 : decode cX7_weightOf 9 = .ok (.if_icmp .ge 18, 3) := by decide +kernel
theorem dX7_weightOf_12 : decode cX7_weightOf 12 = .ok (.iload_n 2, 1) := by decide +kernel
theorem dX7_weightOf_13 : decode cX7_weightOf 13 = .ok (.aload_n 0, 1) := by decide +kernel
theorem dX7_weightOf_14 : decode cX7_weightOf 14 = .ok (.iload_n 1, 1) := by decide +kernel
theorem dX7_weightOf_15 : decode cX7_weightOf 15 = .ok (.iload_n 3, 1) := by decide +kernel
theorem dX7_weightOf_16 : decode cX7_weightOf 16 = .ok (.invokevirtual 166, 3) := by decide +kernel
theorem dX7_weightOf_19 : decode cX7_weightOf 19 = .ok (.iadd, 1) := by decide +kernel
theorem dX7_weightOf_20 : decode cX7_weightOf 20 = .ok (.istore_n 2, 1) := by decide +kernel
theorem dX7_weightOf_21 : decode cX7_weightOf 21 = .ok (.iinc 3 1, 3) := by decide +kernel
theorem dX7_weightOf_24 : decode cX7_weightOf 24 = .ok (.goto (-20), 3) := by decide +kernel
theorem dX7_weightOf_27 : decode cX7_weightOf 27 = .ok (.iload_n 2, 1) := by decide +kernel
theorem dX7_weightOf_28 : decode cX7_weightOf 28 = .ok (.ireturn, 1) := by decide +kernel
theorem dX7_groups_0 : decode cX7_groups 0 = .ok (.aload_n 0, 1) := by decide +kernel
theorem dX7_groups_1 : decode cX7_groups 1 = .ok (.invokevirtual 236, 3) := by decide +kernel
theorem dX7_groups_4 : decode cX7_groups 4 = .ok (.istore_n 1, 1) := by decide +kernel
theorem dX7_groups_5 : decode cX7_groups 5 = .ok (.iconst 0, 1) := by decide +kernel
theorem dX7_groups_6 : decode cX7_groups 6 = .ok (.istore_n 2, 1) := by decide +kernel
theorem dX7_groups_7 : decode cX7_groups 7 = .ok (.iload_n 1, 1) := by decide +kernel
theorem dX7_groups_8 : decode cX7_groups 8 = .ok (.ifCond .eq 114, 3) := by decide +kernel
theorem dX7_groups_11 : decode cX7_groups 11 = .ok (.iload_n 1, 1) := by decide +kernel
theorem dX7_groups_12 : decode cX7_groups 12 = .ok (.iload_n 1, 1) := by decide +kernel
theorem dX7_groups_13 : decode cX7_groups 13 = .ok (.ineg, 1) := by decide +kernel
theorem dX7_groups_14 : decode cX7_groups 14 = .ok (.iand, 1) := by decide +kernel
theorem dX7_groups_15 : decode cX7_groups 15 = .ok (.istore_n 3, 1) := by decide +kernel
theorem dX7_groups_16 : decode cX7_groups 16 = .ok (.iconst 1, 1) := by decide +kernel
theorem dX7_groups_17 : decode cX7_groups 17 = .ok (.istore 4, 2) := by decide +kernel
theorem dX7_groups_19 : decode cX7_groups 19 = .ok (.iload 4, 2) := by decide +kernel
theorem dX7_groups_21 : decode cX7_groups 21 = .ok (.ifCond .eq 89, 3) := by decide +kernel
theorem dX7_groups_24 : decode cX7_groups 24 = .ok (.iload_n 3, 1) := by decide +kernel
theorem dX7_groups_25 : decode cX7_groups 25 = .ok (.istore 5, 2) := by decide +kernel
theorem dX7_groups_27 : decode cX7_groups 27 = .ok (.iconst 0, 1) := by decide +kernel
theorem dX7_groups_28 : decode cX7_groups 28 = .ok (.istore 6, 2) := by decide +kernel
theorem dX7_groups_30 : decode cX7_groups 30 = .ok (.iload 6, 2) := by decide +kernel
theorem dX7_groups_32 : decode cX7_groups 32 = .ok (.aload_n 0, 1) := by decide +kernel
theorem dX7_groups_33 : decode cX7_groups 33 = .ok (.getfield 157, 3) := by decide +kernel
theorem dX7_groups_36 : decode cX7_groups 36 = .ok (.if_icmp .ge 58, 3) := by decide +kernel
theorem dX7_groups_39 : decode cX7_groups 39 = .ok (.iconst 0, 1) := by decide +kernel
theorem dX7_groups_40 : decode cX7_groups 40 = .ok (.istore 7, 2) := by decide +kernel
theorem dX7_groups_42 : decode cX7_groups 42 = .ok (.iload 7, 2) := by decide +kernel
theorem dX7_groups_44 : decode cX7_groups 44 = .ok (.aload_n 0, 1) := by decide +kernel
theorem dX7_groups_45 : decode cX7_groups 45 = .ok (.getfield 157, 3) := by decide +kernel
theorem dX7_groups_48 : decode cX7_groups 48 = .ok (.if_icmp .ge 40, 3) := by decide +kernel
theorem dX7_groups_51 : decode cX7_groups 51 = .ok (.iload_n 3, 1) := by decide +kernel
theorem dX7_groups_52 : decode cX7_groups 52 = .ok (.iload_n 3, 1) := by decide +kernel
theorem dX7_groups_53 : decode cX7_groups 53 = .ok (.iload 6, 2) := by decide +kernel
theorem dX7_groups_55 : decode cX7_groups 55 = .ok (.invokestatic 186, 3) := by decide +kernel
theorem dX7_groups_58 : decode cX7_groups 58 = .ok (.ifCond .eq 21, 3) := by decide +kernel
theorem dX7_groups_61 : decode cX7_groups 61 = .ok (.aload_n 0, 1) := by decide +kernel
theorem dX7_groups_62 : decode cX7_groups 62 = .ok (.iload 6, 2) := by decide +kernel
theorem dX7_groups_64 : decode cX7_groups 64 = .ok (.iload 7, 2) := by decide +kernel
theorem dX7_groups_66 : decode cX7_groups 66 = .ok (.invokevirtual 166, 3) := by decide +kernel
theorem dX7_groups_69 : decode cX7_groups 69 = .ok (.ifCond .le 10, 3) := by decide +kernel
theorem dX7_groups_72 : decode cX7_groups 72 = .ok (.iconst 1, 1) := by decide +kernel
theorem dX7_groups_73 : decode cX7_groups 73 = .ok (.iload 7, 2) := by decide +kernel
theorem dX7_groups_75 : decode cX7_groups 75 = .ok (.ishl, 1) := by decide +kernel
theorem dX7_groups_76 : decode cX7_groups 76 = .ok (.goto 4, 3) := by decide +kernel
theorem dX7_groups_79 : decode cX7_groups 79 = .ok (.iconst 0, 1) := by decide +kernel
theorem dX7_groups_80 : decode cX7_groups 80 = .ok (.ior, 1) := by decide +kernel
theorem dX7_groups_81 : decode cX7_groups 81 = .ok (.istore_n 3, 1) := by decide +kernel
theorem dX7_groups_82 : decode cX7_groups 82 = .ok (.iinc 7 1, 3) := by decide +kernel
theorem dX7_groups_85 : decode cX7_groups 85 = .ok (.goto (-43), 3) := by decide +kernel
theorem dX7_groups_88 : decode cX7_groups 88 = .ok (.iinc 6 1, 3) := by decide +kernel
theorem dX7_groups_91 : decode cX7_groups 91 = .ok (.goto (-61), 3) := by decide +kernel
theorem dX7_groups_94 : decode cX7_groups 94 = .ok (.iload_n 3, 1) := by decide +kernel
theorem dX7_groups_95 : decode cX7_groups 95 = .ok (.iload 5, 2) := by decide +kernel
theorem dX7_groups_97 : decode cX7_groups 97 = .ok (.if_icmp .eq 7, 3) := by decide +kernel
theorem dX7_groups_100 : decode cX7_groups 100 = .ok (.iconst 1, 1) := by decide +kernel
theorem dX7_groups_101 : decode cX7_groups 101 = .ok (.goto 4, 3) := by decide +kernel
theorem dX7_groups_104 : decode cX7_groups 104 = .ok (.iconst 0, 1) := by decide +kernel
theorem dX7_groups_105 : decode cX7_groups 105 = .ok (.istore 4, 2) := by decide +kernel
theorem dX7_groups_107 : decode cX7_groups 107 = .ok (.goto (-88), 3) := by decide +kernel
theorem dX7_groups_110 : decode cX7_groups 110 = .ok (.iload_n 1, 1) := by decide +kernel
theorem dX7_groups_111 : decode cX7_groups 111 = .ok (.iload_n 3, 1) := by decide +kernel
theorem dX7_groups_112 : decode cX7_groups 112 = .ok (.iconst (-1), 1) := by decide +kernel
theorem dX7_groups_113 : decode cX7_groups 113 = .ok (.ixor, 1) := by decide +kernel
theorem dX7_groups_114 : decode cX7_groups 114 = .ok (.iand, 1) := by decide +kernel
theorem dX7_groups_115 : decode cX7_groups 115 = .ok (.istore_n 1, 1) := by decide +kernel
theorem dX7_groups_116 : decode cX7_groups 116 = .ok (.iinc 2 1, 3) := by decide +kernel
theorem dX7_groups_119 : decode cX7_groups 119 = .ok (.goto (-112), 3) := by decide +kernel
theorem dX7_groups_122 : decode cX7_groups 122 = .ok (.iload_n 2, 1) := by decide +kernel
theorem dX7_groups_123 : decode cX7_groups 123 = .ok (.ireturn, 1) := by decide +kernel
theorem dX7_bound_0 : decode cX7_bound 0 = .ok (.iload_n 1, 1) := by decide +kernel
theorem dX7_bound_1 : decode cX7_bound 1 = .ok (.invokestatic 211, 3) := by decide +kernel
theorem dX7_bound_4 : decode cX7_bound 4 = .ok (.ifCond .ne 5, 3) := by decide +kernel
theorem dX7_bound_7 : decode cX7_bound 7 = .ok (.iconst (-1), 1) := by decide +kernel
theorem dX7_bound_8 : decode cX7_bound 8 = .ok (.ireturn, 1) := by decide +kernel
theorem dX7_bound_9 : decode cX7_bound 9 = .ok (.iconst 0, 1) := by decide +kernel
theorem dX7_bound_10 : decode cX7_bound 10 = .ok (.istore_n 2, 1) := by decide +kernel
theorem dX7_bound_11 : decode cX7_bound 11 = .ok (.iconst 0, 1) := by decide +kernel
theorem dX7_bound_12 : decode cX7_bound 12 = .ok (.istore_n 3, 1) := by decide +kernel
theorem dX7_bound_13 : decode cX7_bound 13 = .ok (.iconst 0, 1) := by decide +kernel
theorem dX7_bound_14 : decode cX7_bound 14 = .ok (.istore 4, 2) := by decide +kernel
theorem dX7_bound_16 : decode cX7_bound 16 = .ok (.aload_n 0, 1) := by decide +kernel
theorem dX7_bound_17 : decode cX7_bound 17 = .ok (.getfield 157, 3) := by decide +kernel
theorem dX7_bound_20 : decode cX7_bound 20 = .ok (.ifCond .ne 7, 3) := by decide +kernel
theorem dX7_bound_23 : decode cX7_bound 23 = .ok (.iconst 0, 1) := by decide +kernel
theorem dX7_bound_24 : decode cX7_bound 24 = .ok (.goto 5, 3) := by decide +kernel
theorem dX7_bound_27 : decode cX7_bound 27 = .ok (.bipush 10, 2) := by decide +kernel
theorem dX7_bound_29 : decode cX7_bound 29 = .ok (.istore 5, 2) := by decide +kernel
theorem dX7_bound_31 : decode cX7_bound 31 = .ok (.iconst 0, 1) := by decide +kernel
theorem dX7_bound_32 : decode cX7_bound 32 = .ok (.istore 6, 2) := by decide +kernel
theorem dX7_bound_34 : decode cX7_bound 34 = .ok (.iload 6, 2) := by decide +kernel
theorem dX7_bound_36 : decode cX7_bound 36 = .ok (.aload_n 0, 1) := by decide +kernel
theorem dX7_bound_37 : decode cX7_bound 37 = .ok (.getfield 157, 3) := by decide +kernel
theorem dX7_bound_40 : decode cX7_bound 40 = .ok (.if_icmp .ge 55, 3) := by decide +kernel
theorem dX7_bound_43 : decode cX7_bound 43 = .ok (.iload_n 2, 1) := by decide +kernel
theorem dX7_bound_44 : decode cX7_bound 44 = .ok (.aload_n 0, 1) := by decide +kernel
theorem dX7_bound_45 : decode cX7_bound 45 = .ok (.iload 6, 2) := by decide +kernel
theorem dX7_bound_47 : decode cX7_bound 47 = .ok (.invokevirtual 323, 3) := by decide +kernel
theorem dX7_bound_50 : decode cX7_bound 50 = .ok (.iadd, 1) := by decide +kernel
theorem dX7_bound_51 : decode cX7_bound 51 = .ok (.istore_n 2, 1) := by decide +kernel
theorem dX7_bound_52 : decode cX7_bound 52 = .ok (.iload_n 3, 1) := by decide +kernel
theorem dX7_bound_53 : decode cX7_bound 53 = .ok (.aload_n 0, 1) := by decide +kernel
theorem dX7_bound_54 : decode cX7_bound 54 = .ok (.iload 6, 2) := by decide +kernel
theorem dX7_bound_56 : decode cX7_bound 56 = .ok (.invokevirtual 326, 3) := by decide +kernel
theorem dX7_bound_59 : decode cX7_bound 59 = .ok (.invokestatic 192, 3) := by decide +kernel
theorem dX7_bound_62 : decode cX7_bound 62 = .ok (.istore_n 3, 1) := by decide +kernel
theorem dX7_bound_63 : decode cX7_bound 63 = .ok (.iload 4, 2) := by decide +kernel
theorem dX7_bound_65 : decode cX7_bound 65 = .ok (.aload_n 0, 1) := by decide +kernel
theorem dX7_bound_66 : decode cX7_bound 66 = .ok (.iload 6, 2) := by decide +kernel
theorem dX7_bound_68 : decode cX7_bound 68 = .ok (.invokevirtual 329, 3) := by decide +kernel
theorem dX7_bound_71 : decode cX7_bound 71 = .ok (.invokestatic 192, 3) := by decide +kernel
theorem dX7_bound_74 : decode cX7_bound 74 = .ok (.istore 4, 2) := by decide +kernel
theorem dX7_bound_76 : decode cX7_bound 76 = .ok (.iload 5, 2) := by decide +kernel
theorem dX7_bound_78 : decode cX7_bound 78 = .ok (.aload_n 0, 1) := by decide +kernel
theorem dX7_bound_79 : decode cX7_bound 79 = .ok (.iload 6, 2) := by decide +kernel
theorem dX7_bound_81 : decode cX7_bound 81 = .ok (.invokevirtual 326, 3) := by decide +kernel
theorem dX7_bound_84 : decode cX7_bound 84 = .ok (.invokestatic 183, 3) := by decide +kernel
theorem dX7_bound_87 : decode cX7_bound 87 = .ok (.istore 5, 2) := by decide +kernel
theorem dX7_bound_89 : decode cX7_bound 89 = .ok (.iinc 6 1, 3) := by decide +kernel
theorem dX7_bound_92 : decode cX7_bound 92 = .ok (.goto (-58), 3) := by decide +kernel
theorem dX7_bound_95 : decode cX7_bound 95 = .ok (.iload_n 1, 1) := by decide +kernel
theorem dX7_bound_96 : decode cX7_bound 96 = .ok (.tableswitch 58 0 3 #[32, 38, 45, 48], 32) := by decide +kernel
theorem dX7_bound_128 : decode cX7_bound 128 = .ok (.iload_n 2, 1) := by decide +kernel
theorem dX7_bound_129 : decode cX7_bound 129 = .ok (.iconst 1, 1) := by decide +kernel
theorem dX7_bound_130 : decode cX7_bound 130 = .ok (.iadd, 1) := by decide +kernel
theorem dX7_bound_131 : decode cX7_bound 131 = .ok (.iconst 2, 1) := by decide +kernel
theorem dX7_bound_132 : decode cX7_bound 132 = .ok (.idiv, 1) := by decide +kernel
theorem dX7_bound_133 : decode cX7_bound 133 = .ok (.ireturn, 1) := by decide +kernel
theorem dX7_bound_134 : decode cX7_bound 134 = .ok (.iload 4, 2) := by decide +kernel
theorem dX7_bound_136 : decode cX7_bound 136 = .ok (.iconst 1, 1) := by decide +kernel
theorem dX7_bound_137 : decode cX7_bound 137 = .ok (.iadd, 1) := by decide +kernel
theorem dX7_bound_138 : decode cX7_bound 138 = .ok (.iconst 2, 1) := by decide +kernel
theorem dX7_bound_139 : decode cX7_bound 139 = .ok (.idiv, 1) := by decide +kernel
theorem dX7_bound_140 : decode cX7_bound 140 = .ok (.ireturn, 1) := by decide +kernel
theorem dX7_bound_141 : decode cX7_bound 141 = .ok (.iload 5, 2) := by decide +kernel
theorem dX7_bound_143 : decode cX7_bound 143 = .ok (.ireturn, 1) := by decide +kernel
theorem dX7_bound_144 : decode cX7_bound 144 = .ok (.aload_n 0, 1) := by decide +kernel
theorem dX7_bound_145 : decode cX7_bound 145 = .ok (.getfield 157, 3) := by decide +kernel
theorem dX7_bound_148 : decode cX7_bound 148 = .ok (.aload_n 0, 1) := by decide +kernel
theorem dX7_bound_149 : decode cX7_bound 149 = .ok (.invokevirtual 332, 3) := by decide +kernel
theorem dX7_bound_152 : decode cX7_bound 152 = .ok (.isub, 1) := by decide +kernel
theorem dX7_bound_153 : decode cX7_bound 153 = .ok (.ireturn, 1) := by decide +kernel
theorem dX7_bound_154 : decode cX7_bound 154 = .ok (.iload_n 3, 1) := by decide +kernel
theorem dX7_bound_155 : decode cX7_bound 155 = .ok (.iconst 1, 1) := by decide +kernel
theorem dX7_bound_156 : decode cX7_bound 156 = .ok (.iadd, 1) := by decide +kernel
theorem dX7_bound_157 : decode cX7_bound 157 = .ok (.iconst 2, 1) := by decide +kernel
theorem dX7_bound_158 : decode cX7_bound 158 = .ok (.idiv, 1) := by decide +kernel
theorem dX7_bound_159 : decode cX7_bound 159 = .ok (.ireturn, 1) := by decide +kernel
theorem dX7_costs_0 : decode cX7_costs 0 = .ok (.iload_n 1, 1) := by decide +kernel
theorem dX7_costs_1 : decode cX7_costs 1 = .ok (.invokestatic 211, 3) := by decide +kernel
theorem dX7_costs_4 : decode cX7_costs 4 = .ok (.ifCond .eq 24, 3) := by decide +kernel
theorem dX7_costs_7 : decode cX7_costs 7 = .ok (.aload_n 0, 1) := by decide +kernel
theorem dX7_costs_8 : decode cX7_costs 8 = .ok (.iload_n 2, 1) := by decide +kernel
theorem dX7_costs_9 : decode cX7_costs 9 = .ok (.invokevirtual 163, 3) := by decide +kernel
theorem dX7_costs_12 : decode cX7_costs 12 = .ok (.ifCond .eq 16, 3) := by decide +kernel
theorem dX7_costs_15 : decode cX7_costs 15 = .ok (.aload_n 0, 1) := by decide +kernel
theorem dX7_costs_16 : decode cX7_costs 16 = .ok (.iload_n 3, 1) := by decide +kernel
theorem dX7_costs_17 : decode cX7_costs 17 = .ok (.invokevirtual 163, 3) := by decide +kernel
theorem dX7_costs_20 : decode cX7_costs 20 = .ok (.ifCond .eq 8, 3) := by decide +kernel
theorem dX7_costs_23 : decode cX7_costs 23 = .ok (.iload_n 2, 1) := by decide +kernel
theorem dX7_costs_24 : decode cX7_costs 24 = .ok (.iload_n 3, 1) := by decide +kernel
theorem dX7_costs_25 : decode cX7_costs 25 = .ok (.if_icmp .ne 5, 3) := by decide +kernel
theorem dX7_costs_28 : decode cX7_costs 28 = .ok (.iconst (-1), 1) := by decide +kernel
theorem dX7_costs_29 : decode cX7_costs 29 = .ok (.ireturn, 1) := by decide +kernel
theorem dX7_costs_30 : decode cX7_costs 30 = .ok (.aload_n 0, 1) := by decide +kernel
theorem dX7_costs_31 : decode cX7_costs 31 = .ok (.iload_n 1, 1) := by decide +kernel
theorem dX7_costs_32 : decode cX7_costs 32 = .ok (.invokevirtual 286, 3) := by decide +kernel
theorem dX7_costs_35 : decode cX7_costs 35 = .ok (.ifCond .eq 6, 3) := by decide +kernel
theorem dX7_costs_38 : decode cX7_costs 38 = .ok (.bipush (-6), 2) := by decide +kernel
theorem dX7_costs_40 : decode cX7_costs 40 = .ok (.ireturn, 1) := by decide +kernel
theorem dX7_costs_41 : decode cX7_costs 41 = .ok (.aload_n 0, 1) := by decide +kernel
theorem dX7_costs_42 : decode cX7_costs 42 = .ok (.iload_n 1, 1) := by decide +kernel
theorem dX7_costs_43 : decode cX7_costs 43 = .ok (.invokevirtual 289, 3) := by decide +kernel
theorem dX7_costs_46 : decode cX7_costs 46 = .ok (.istore 4, 2) := by decide +kernel
theorem dX7_costs_48 : decode cX7_costs 48 = .ok (.iload 4, 2) := by decide +kernel
theorem dX7_costs_50 : decode cX7_costs 50 = .ok (.ldc 246, 2) := by decide +kernel
theorem dX7_costs_52 : decode cX7_costs 52 = .ok (.if_icmp .lt 9, 3) := by decide +kernel
theorem dX7_costs_55 : decode cX7_costs 55 = .ok (.aload_n 0, 1) := by decide +kernel
theorem dX7_costs_56 : decode cX7_costs 56 = .ok (.iconst 4, 1) := by decide +kernel
theorem dX7_costs_57 : decode cX7_costs 57 = .ok (.invokevirtual 106, 3) := by decide +kernel
theorem dX7_costs_60 : decode cX7_costs 60 = .ok (.ireturn, 1) := by decide +kernel
theorem dX7_costs_61 : decode cX7_costs 61 = .ok (.aload_n 0, 1) := by decide +kernel
theorem dX7_costs_62 : decode cX7_costs 62 = .ok (.iload_n 2, 1) := by decide +kernel
theorem dX7_costs_63 : decode cX7_costs 63 = .ok (.iload_n 3, 1) := by decide +kernel
theorem dX7_costs_64 : decode cX7_costs 64 = .ok (.invokevirtual 166, 3) := by decide +kernel
theorem dX7_costs_67 : decode cX7_costs 67 = .ok (.istore 5, 2) := by decide +kernel
theorem dX7_costs_69 : decode cX7_costs 69 = .ok (.aload_n 0, 1) := by decide +kernel
theorem dX7_costs_70 : decode cX7_costs 70 = .ok (.iload_n 2, 1) := by decide +kernel
theorem dX7_costs_71 : decode cX7_costs 71 = .ok (.iload_n 3, 1) := by decide +kernel
theorem dX7_costs_72 : decode cX7_costs 72 = .ok (.iconst 0, 1) := by decide +kernel
theorem dX7_costs_73 : decode cX7_costs 73 = .ok (.invokevirtual 169, 3) := by decide +kernel
theorem dX7_costs_76 : decode cX7_costs 76 = .ok (.aload_n 0, 1) := by decide +kernel
theorem dX7_costs_77 : decode cX7_costs 77 = .ok (.iload_n 1, 1) := by decide +kernel
theorem dX7_costs_78 : decode cX7_costs 78 = .ok (.invokevirtual 289, 3) := by decide +kernel
theorem dX7_costs_81 : decode cX7_costs 81 = .ok (.istore 6, 2) := by decide +kernel
theorem dX7_costs_83 : decode cX7_costs 83 = .ok (.aload_n 0, 1) := by decide +kernel
theorem dX7_costs_84 : decode cX7_costs 84 = .ok (.iload_n 2, 1) := by decide +kernel
theorem dX7_costs_85 : decode cX7_costs 85 = .ok (.iload_n 3, 1) := by decide +kernel
theorem dX7_costs_86 : decode cX7_costs 86 = .ok (.iload 5, 2) := by decide +kernel
theorem dX7_costs_88 : decode cX7_costs 88 = .ok (.invokevirtual 169, 3) := by decide +kernel
theorem dX7_costs_91 : decode cX7_costs 91 = .ok (.iload 4, 2) := by decide +kernel
theorem dX7_costs_93 : decode cX7_costs 93 = .ok (.iload 6, 2) := by decide +kernel
theorem dX7_costs_95 : decode cX7_costs 95 = .ok (.isub, 1) := by decide +kernel
theorem dX7_costs_96 : decode cX7_costs 96 = .ok (.ireturn, 1) := by decide +kernel
theorem dX7_bars_0 : decode cX7_bars 0 = .ok (.iload_n 1, 1) := by decide +kernel
theorem dX7_bars_1 : decode cX7_bars 1 = .ok (.invokestatic 211, 3) := by decide +kernel
theorem dX7_bars_4 : decode cX7_bars 4 = .ok (.ifCond .eq 11, 3) := by decide +kernel
theorem dX7_bars_7 : decode cX7_bars 7 = .ok (.aload_n 0, 1) := by decide +kernel
theorem dX7_bars_8 : decode cX7_bars 8 = .ok (.iload_n 2, 1) := by decide +kernel
theorem dX7_bars_9 : decode cX7_bars 9 = .ok (.invokevirtual 177, 3) := by decide +kernel
theorem dX7_bars_12 : decode cX7_bars 12 = .ok (.ifCond .ne 5, 3) := by decide +kernel
theorem dX7_bars_15 : decode cX7_bars 15 = .ok (.iconst (-1), 1) := by decide +kernel
theorem dX7_bars_16 : decode cX7_bars 16 = .ok (.ireturn, 1) := by decide +kernel
theorem dX7_bars_17 : decode cX7_bars 17 = .ok (.aload_n 0, 1) := by decide +kernel
theorem dX7_bars_18 : decode cX7_bars 18 = .ok (.iload_n 1, 1) := by decide +kernel
theorem dX7_bars_19 : decode cX7_bars 19 = .ok (.invokevirtual 286, 3) := by decide +kernel
theorem dX7_bars_22 : decode cX7_bars 22 = .ok (.ifCond .eq 6, 3) := by decide +kernel
theorem dX7_bars_25 : decode cX7_bars 25 = .ok (.bipush (-6), 2) := by decide +kernel
theorem dX7_bars_27 : decode cX7_bars 27 = .ok (.ireturn, 1) := by decide +kernel
theorem dX7_bars_28 : decode cX7_bars 28 = .ok (.aload_n 0, 1) := by decide +kernel
theorem dX7_bars_29 : decode cX7_bars 29 = .ok (.iload_n 1, 1) := by decide +kernel
theorem dX7_bars_30 : decode cX7_bars 30 = .ok (.invokevirtual 289, 3) := by decide +kernel
theorem dX7_bars_33 : decode cX7_bars 33 = .ok (.istore_n 3, 1) := by decide +kernel
theorem dX7_bars_34 : decode cX7_bars 34 = .ok (.iload_n 3, 1) := by decide +kernel
theorem dX7_bars_35 : decode cX7_bars 35 = .ok (.ldc 246, 2) := by decide +kernel
theorem dX7_bars_37 : decode cX7_bars 37 = .ok (.if_icmp .lt 9, 3) := by decide +kernel
theorem dX7_bars_40 : decode cX7_bars 40 = .ok (.aload_n 0, 1) := by decide +kernel
theorem dX7_bars_41 : decode cX7_bars 41 = .ok (.iconst 4, 1) := by decide +kernel
theorem dX7_bars_42 : decode cX7_bars 42 = .ok (.invokevirtual 106, 3) := by decide +kernel
theorem dX7_bars_45 : decode cX7_bars 45 = .ok (.ireturn, 1) := by decide +kernel
theorem dX7_bars_46 : decode cX7_bars 46 = .ok (.aload_n 0, 1) := by decide +kernel
theorem dX7_bars_47 : decode cX7_bars 47 = .ok (.iload_n 2, 1) := by decide +kernel
theorem dX7_bars_48 : decode cX7_bars 48 = .ok (.iconst 4, 1) := by decide +kernel
theorem dX7_bars_49 : decode cX7_bars 49 = .ok (.invokevirtual 180, 3) := by decide +kernel
theorem dX7_bars_52 : decode cX7_bars 52 = .ok (.istore 4, 2) := by decide +kernel
theorem dX7_bars_54 : decode cX7_bars 54 = .ok (.aload_n 0, 1) := by decide +kernel
theorem dX7_bars_55 : decode cX7_bars 55 = .ok (.getfield 32, 3) := by decide +kernel
theorem dX7_bars_58 : decode cX7_bars 58 = .ok (.iconst 5, 1) := by decide +kernel
theorem dX7_bars_59 : decode cX7_bars 59 = .ok (.iload_n 2, 1) := by decide +kernel
theorem dX7_bars_60 : decode cX7_bars 60 = .ok (.imul, 1) := by decide +kernel
theorem dX7_bars_61 : decode cX7_bars 61 = .ok (.iconst 4, 1) := by decide +kernel
theorem dX7_bars_62 : decode cX7_bars 62 = .ok (.iadd, 1) := by decide +kernel
theorem dX7_bars_63 : decode cX7_bars 63 = .ok (.iconst 1, 1) := by decide +kernel
theorem dX7_bars_64 : decode cX7_bars 64 = .ok (.iastore, 1) := by decide +kernel
theorem dX7_bars_65 : decode cX7_bars 65 = .ok (.aload_n 0, 1) := by decide +kernel
theorem dX7_bars_66 : decode cX7_bars 66 = .ok (.iload_n 1, 1) := by decide +kernel
theorem dX7_bars_67 : decode cX7_bars 67 = .ok (.invokevirtual 289, 3) := by decide +kernel
theorem dX7_bars_70 : decode cX7_bars 70 = .ok (.istore 5, 2) := by decide +kernel
theorem dX7_bars_72 : decode cX7_bars 72 = .ok (.aload_n 0, 1) := by decide +kernel
theorem dX7_bars_73 : decode cX7_bars 73 = .ok (.getfield 32, 3) := by decide +kernel
theorem dX7_bars_76 : decode cX7_bars 76 = .ok (.iconst 5, 1) := by decide +kernel
theorem dX7_bars_77 : decode cX7_bars 77 = .ok (.iload_n 2, 1) := by decide +kernel
theorem dX7_bars_78 : decode cX7_bars 78 = .ok (.imul, 1) := by decide +kernel
theorem dX7_bars_79 : decode cX7_bars 79 = .ok (.iconst 4, 1) := by decide +kernel
theorem dX7_bars_80 : decode cX7_bars 80 = .ok (.iadd, 1) := by decide +kernel
theorem dX7_bars_81 : decode cX7_bars 81 = .ok (.iload 4, 2) := by decide +kernel
theorem dX7_bars_83 : decode cX7_bars 83 = .ok (.iastore, 1) := by decide +kernel
theorem dX7_bars_84 : decode cX7_bars 84 = .ok (.iload_n 3, 1) := by decide +kernel
theorem dX7_bars_85 : decode cX7_bars 85 = .ok (.iload 5, 2) := by decide +kernel
theorem dX7_bars_87 : decode cX7_bars 87 = .ok (.isub, 1) := by decide +kernel
theorem dX7_bars_88 : decode cX7_bars 88 = .ok (.ireturn, 1) := by decide +kernel
theorem dX7_where_0 : decode cX7_where 0 = .ok (.iload_n 1, 1) := by decide +kernel
theorem dX7_where_1 : decode cX7_where 1 = .ok (.invokestatic 211, 3) := by decide +kernel
theorem dX7_where_4 : decode cX7_where 4 = .ok (.ifCond .eq 19, 3) := by decide +kernel
theorem dX7_where_7 : decode cX7_where 7 = .ok (.aload_n 0, 1) := by decide +kernel
theorem dX7_where_8 : decode cX7_where 8 = .ok (.iload_n 2, 1) := by decide +kernel
theorem dX7_where_9 : decode cX7_where 9 = .ok (.invokevirtual 163, 3) := by decide +kernel
theorem dX7_where_12 : decode cX7_where 12 = .ok (.ifCond .eq 11, 3) := by decide +kernel
theorem dX7_where_15 : decode cX7_where 15 = .ok (.aload_n 0, 1) := by decide +kernel
theorem dX7_where_16 : decode cX7_where 16 = .ok (.iload_n 3, 1) := by decide +kernel
theorem dX7_where_17 : decode cX7_where 17 = .ok (.invokevirtual 163, 3) := by decide +kernel
theorem dX7_where_20 : decode cX7_where 20 = .ok (.ifCond .ne 5, 3) := by decide +kernel
theorem dX7_where_23 : decode cX7_where 23 = .ok (.iconst (-1), 1) := by decide +kernel
theorem dX7_where_24 : decode cX7_where 24 = .ok (.ireturn, 1) := by decide +kernel
theorem dX7_where_25 : decode cX7_where 25 = .ok (.aload_n 0, 1) := by decide +kernel
theorem dX7_where_26 : decode cX7_where 26 = .ok (.iload_n 1, 1) := by decide +kernel
theorem dX7_where_27 : decode cX7_where 27 = .ok (.invokevirtual 286, 3) := by decide +kernel
theorem dX7_where_30 : decode cX7_where 30 = .ok (.ifCond .eq 6, 3) := by decide +kernel
theorem dX7_where_33 : decode cX7_where 33 = .ok (.bipush (-6), 2) := by decide +kernel
theorem dX7_where_35 : decode cX7_where 35 = .ok (.ireturn, 1) := by decide +kernel
theorem dX7_where_36 : decode cX7_where 36 = .ok (.aload_n 0, 1) := by decide +kernel
theorem dX7_where_37 : decode cX7_where 37 = .ok (.invokevirtual 320, 3) := by decide +kernel
theorem dX7_where_40 : decode cX7_where 40 = .ok (.ifCond .ne 9, 3) := by decide +kernel
theorem dX7_where_43 : decode cX7_where 43 = .ok (.aload_n 0, 1) := by decide +kernel
theorem dX7_where_44 : decode cX7_where 44 = .ok (.iconst 4, 1) := by decide +kernel
theorem dX7_where_45 : decode cX7_where 45 = .ok (.invokevirtual 106, 3) := by decide +kernel
theorem dX7_where_48 : decode cX7_where 48 = .ok (.ireturn, 1) := by decide +kernel
theorem dX7_where_49 : decode cX7_where 49 = .ok (.aload_n 0, 1) := by decide +kernel
theorem dX7_where_50 : decode cX7_where 50 = .ok (.iload_n 2, 1) := by decide +kernel
theorem dX7_where_51 : decode cX7_where 51 = .ok (.putfield 85, 3) := by decide +kernel
theorem dX7_where_54 : decode cX7_where 54 = .ok (.aload_n 0, 1) := by decide +kernel
theorem dX7_where_55 : decode cX7_where 55 = .ok (.iload_n 3, 1) := by decide +kernel
theorem dX7_where_56 : decode cX7_where 56 = .ok (.putfield 229, 3) := by decide +kernel
theorem dX7_where_59 : decode cX7_where 59 = .ok (.aload_n 0, 1) := by decide +kernel
theorem dX7_where_60 : decode cX7_where 60 = .ok (.iload_n 1, 1) := by decide +kernel
theorem dX7_where_61 : decode cX7_where 61 = .ok (.invokevirtual 289, 3) := by decide +kernel
theorem dX7_where_64 : decode cX7_where 64 = .ok (.istore 4, 2) := by decide +kernel
theorem dX7_where_66 : decode cX7_where 66 = .ok (.aload_n 0, 1) := by decide +kernel
theorem dX7_where_67 : decode cX7_where 67 = .ok (.bipush (-9), 2) := by decide +kernel
theorem dX7_where_69 : decode cX7_where 69 = .ok (.putfield 85, 3) := by decide +kernel
theorem dX7_where_72 : decode cX7_where 72 = .ok (.iload 4, 2) := by decide +kernel
theorem dX7_where_74 : decode cX7_where 74 = .ok (.ldc 246, 2) := by decide +kernel
theorem dX7_where_76 : decode cX7_where 76 = .ok (.if_icmp .lt 8, 3) := by decide +kernel
theorem dX7_where_79 : decode cX7_where 79 = .ok (.bipush (-9), 2) := by decide +kernel
theorem dX7_where_81 : decode cX7_where 81 = .ok (.goto 5, 3) := by decide +kernel
theorem dX7_where_84 : decode cX7_where 84 = .ok (.iload 4, 2) := by decide +kernel
theorem dX7_where_86 : decode cX7_where 86 = .ok (.ireturn, 1) := by decide +kernel
theorem dX7_layPlaceMany_0 : decode cX7_layPlaceMany 0 = .ok (.iconst 0, 1) := by decide +kernel
theorem dX7_layPlaceMany_1 : decode cX7_layPlaceMany 1 = .ok (.istore_n 3, 1) := by decide +kernel
theorem dX7_layPlaceMany_2 : decode cX7_layPlaceMany 2 = .ok (.iload_n 3, 1) := by decide +kernel
theorem dX7_layPlaceMany_3 : decode cX7_layPlaceMany 3 = .ok (.bipush 10, 2) := by decide +kernel
theorem dX7_layPlaceMany_5 : decode cX7_layPlaceMany 5 = .ok (.if_icmp .ge 16, 3) := by decide +kernel
theorem dX7_layPlaceMany_8 : decode cX7_layPlaceMany 8 = .ok (.aload_n 0, 1) := by decide +kernel
theorem dX7_layPlaceMany_9 : decode cX7_layPlaceMany 9 = .ok (.getfield 68, 3) := by decide +kernel
theorem dX7_layPlaceMany_12 : decode cX7_layPlaceMany 12 = .ok (.iload_n 3, 1) := by decide +kernel
theorem dX7_layPlaceMany_13 : decode cX7_layPlaceMany 13 = .ok (.iconst 0, 1) := by decide +kernel
theorem dX7_layPlaceMany_14 : decode cX7_layPlaceMany 14 = .ok (.iastore, 1) := by decide +kernel
theorem dX7_layPlaceMany_15 : decode cX7_layPlaceMany 15 = .ok (.iinc 3 1, 3) := by decide +kernel
theorem dX7_layPlaceMany_18 : decode cX7_layPlaceMany 18 = .ok (.goto (-16), 3) := by decide +kernel
theorem dX7_layPlaceMany_21 : decode cX7_layPlaceMany 21 = .ok (.iload_n 1, 1) := by decide +kernel
theorem dX7_layPlaceMany_22 : decode cX7_layPlaceMany 22 = .ok (.iconst 4, 1) := by decide +kernel
theorem dX7_layPlaceMany_23 : decode cX7_layPlaceMany 23 = .ok (.if_icmp .ne 50, 3) := by decide +kernel
theorem dX7_layPlaceMany_26 : decode cX7_layPlaceMany 26 = .ok (.aload_n 0, 1) := by decide +kernel
theorem dX7_layPlaceMany_27 : decode cX7_layPlaceMany 27 = .ok (.invokevirtual 267, 3) := by decide +kernel
theorem dX7_layPlaceMany_30 : decode cX7_layPlaceMany 30 = .ok (.iconst 1, 1) := by decide +kernel
theorem dX7_layPlaceMany_31 : decode cX7_layPlaceMany 31 = .ok (.istore_n 3, 1) := by decide +kernel
theorem dX7_layPlaceMany_32 : decode cX7_layPlaceMany 32 = .ok (.iload_n 3, 1) := by decide +kernel
theorem dX7_layPlaceMany_33 : decode cX7_layPlaceMany 33 = .ok (.ifCond .eq 37, 3) := by decide +kernel
theorem dX7_layPlaceMany_36 : decode cX7_layPlaceMany 36 = .ok (.aload_n 0, 1) := by decide +kernel
theorem dX7_layPlaceMany_37 : decode cX7_layPlaceMany 37 = .ok (.getfield 68, 3) := by decide +kernel
theorem dX7_layPlaceMany_40 : decode cX7_layPlaceMany 40 = .ok (.aload_n 0, 1) := by decide +kernel
theorem dX7_layPlaceMany_41 : decode cX7_layPlaceMany 41 = .ok (.getfield 44, 3) := by decide +kernel
theorem dX7_layPlaceMany_44 : decode cX7_layPlaceMany 44 = .ok (.iload_n 2, 1) := by decide +kernel
theorem dX7_layPlaceMany_45 : decode cX7_layPlaceMany 45 = .ok (.iaload, 1) := by decide +kernel
theorem dX7_layPlaceMany_46 : decode cX7_layPlaceMany 46 = .ok (.dup2, 1) := by decide +kernel
theorem dX7_layPlaceMany_47 : decode cX7_layPlaceMany 47 = .ok (.iaload, 1) := by decide +kernel
theorem dX7_layPlaceMany_48 : decode cX7_layPlaceMany 48 = .ok (.aload_n 0, 1) := by decide +kernel
theorem dX7_layPlaceMany_49 : decode cX7_layPlaceMany 49 = .ok (.invokevirtual 277, 3) := by decide +kernel
theorem dX7_layPlaceMany_52 : decode cX7_layPlaceMany 52 = .ok (.ifCond .eq 7, 3) := by decide +kernel
theorem dX7_layPlaceMany_55 : decode cX7_layPlaceMany 55 = .ok (.iconst 1, 1) := by decide +kernel
theorem dX7_layPlaceMany_56 : decode cX7_layPlaceMany 56 = .ok (.goto 4, 3) := by decide +kernel
theorem dX7_layPlaceMany_59 : decode cX7_layPlaceMany 59 = .ok (.iconst 0, 1) := by decide +kernel
theorem dX7_layPlaceMany_60 : decode cX7_layPlaceMany 60 = .ok (.iadd, 1) := by decide +kernel
theorem dX7_layPlaceMany_61 : decode cX7_layPlaceMany 61 = .ok (.iastore, 1) := by decide +kernel
theorem dX7_layPlaceMany_62 : decode cX7_layPlaceMany 62 = .ok (.aload_n 0, 1) := by decide +kernel
theorem dX7_layPlaceMany_63 : decode cX7_layPlaceMany 63 = .ok (.invokevirtual 274, 3) := by decide +kernel
theorem dX7_layPlaceMany_66 : decode cX7_layPlaceMany 66 = .ok (.istore_n 3, 1) := by decide +kernel
theorem dX7_layPlaceMany_67 : decode cX7_layPlaceMany 67 = .ok (.goto (-35), 3) := by decide +kernel
theorem dX7_layPlaceMany_70 : decode cX7_layPlaceMany 70 = .ok (.goto 67, 3) := by decide +kernel
theorem dX7_layPlaceMany_73 : decode cX7_layPlaceMany 73 = .ok (.aload_n 0, 1) := by decide +kernel
theorem dX7_layPlaceMany_74 : decode cX7_layPlaceMany 74 = .ok (.iload_n 1, 1) := by decide +kernel
theorem dX7_layPlaceMany_75 : decode cX7_layPlaceMany 75 = .ok (.invokevirtual 335, 3) := by decide +kernel
theorem dX7_layPlaceMany_78 : decode cX7_layPlaceMany 78 = .ok (.iconst 1, 1) := by decide +kernel
theorem dX7_layPlaceMany_79 : decode cX7_layPlaceMany 79 = .ok (.istore_n 3, 1) := by decide +kernel
theorem dX7_layPlaceMany_80 : decode cX7_layPlaceMany 80 = .ok (.iload_n 3, 1) := by decide +kernel
theorem dX7_layPlaceMany_81 : decode cX7_layPlaceMany 81 = .ok (.aload_n 0, 1) := by decide +kernel
theorem dX7_layPlaceMany_82 : decode cX7_layPlaceMany 82 = .ok (.invokevirtual 236, 3) := by decide +kernel
theorem dX7_layPlaceMany_85 : decode cX7_layPlaceMany 85 = .ok (.if_icmp .gt 52, 3) := by decide +kernel
theorem dX7_layPlaceMany_88 : decode cX7_layPlaceMany 88 = .ok (.iload_n 3, 1) := by decide +kernel
theorem dX7_layPlaceMany_89 : decode cX7_layPlaceMany 89 = .ok (.iload_n 2, 1) := by decide +kernel
theorem dX7_layPlaceMany_90 : decode cX7_layPlaceMany 90 = .ok (.invokestatic 186, 3) := by decide +kernel
theorem dX7_layPlaceMany_93 : decode cX7_layPlaceMany 93 = .ok (.ifCond .eq 38, 3) := by decide +kernel
theorem dX7_layPlaceMany_96 : decode cX7_layPlaceMany 96 = .ok (.aload_n 0, 1) := by decide +kernel
theorem dX7_layPlaceMany_97 : decode cX7_layPlaceMany 97 = .ok (.getfield 68, 3) := by decide +kernel
theorem dX7_layPlaceMany_100 : decode cX7_layPlaceMany 100 = .ok (.iload_n 3, 1) := by decide +kernel
theorem dX7_layPlaceMany_101 : decode cX7_layPlaceMany 101 = .ok (.invokestatic 226, 3) := by decide +kernel
theorem dX7_layPlaceMany_104 : decode cX7_layPlaceMany 104 = .ok (.iconst 1, 1) := by decide +kernel
theorem dX7_layPlaceMany_105 : decode cX7_layPlaceMany 105 = .ok (.isub, 1) := by decide +kernel
theorem dX7_layPlaceMany_106 : decode cX7_layPlaceMany 106 = .ok (.dup2, 1) := by decide +kernel
theorem dX7_layPlaceMany_107 : decode cX7_layPlaceMany 107 = .ok (.iaload, 1) := by decide +kernel
theorem dX7_layPlaceMany_108 : decode cX7_layPlaceMany 108 = .ok (.aload_n 0, 1) := by decide +kernel
theorem dX7_layPlaceMany_109 : decode cX7_layPlaceMany 109 = .ok (.getfield 59, 3) := by decide +kernel
theorem dX7_layPlaceMany_112 : decode cX7_layPlaceMany 112 = .ok (.iload_n 3, 1) := by decide +kernel
theorem dX7_layPlaceMany_113 : decode cX7_layPlaceMany 113 = .ok (.iload_n 2, 1) := by decide +kernel
theorem dX7_layPlaceMany_114 : decode cX7_layPlaceMany 114 = .ok (.invokestatic 243, 3) := by decide +kernel
theorem dX7_layPlaceMany_117 : decode cX7_layPlaceMany 117 = .ok (.iaload, 1) := by decide +kernel
theorem dX7_layPlaceMany_118 : decode cX7_layPlaceMany 118 = .ok (.aload_n 0, 1) := by decide +kernel
theorem dX7_layPlaceMany_119 : decode cX7_layPlaceMany 119 = .ok (.getfield 56, 3) := by decide +kernel
theorem dX7_layPlaceMany_122 : decode cX7_layPlaceMany 122 = .ok (.iload_n 3, 1) := by decide +kernel
theorem dX7_layPlaceMany_123 : decode cX7_layPlaceMany 123 = .ok (.iload_n 2, 1) := by decide +kernel
theorem dX7_layPlaceMany_124 : decode cX7_layPlaceMany 124 = .ok (.invokestatic 243, 3) := by decide +kernel
theorem dX7_layPlaceMany_127 : decode cX7_layPlaceMany 127 = .ok (.iaload, 1) := by decide +kernel
theorem dX7_layPlaceMany_128 : decode cX7_layPlaceMany 128 = .ok (.imul, 1) := by decide +kernel
theorem dX7_layPlaceMany_129 : decode cX7_layPlaceMany 129 = .ok (.iadd, 1) := by decide +kernel
theorem dX7_layPlaceMany_130 : decode cX7_layPlaceMany 130 = .ok (.iastore, 1) := by decide +kernel
theorem dX7_layPlaceMany_131 : decode cX7_layPlaceMany 131 = .ok (.iinc 3 1, 3) := by decide +kernel
theorem dX7_layPlaceMany_134 : decode cX7_layPlaceMany 134 = .ok (.goto (-54), 3) := by decide +kernel
theorem dX7_layPlaceMany_137 : decode cX7_layPlaceMany 137 = .ok (.return_, 1) := by decide +kernel
theorem dX7_places_0 : decode cX7_places 0 = .ok (.iload_n 1, 1) := by decide +kernel
theorem dX7_places_1 : decode cX7_places 1 = .ok (.invokestatic 211, 3) := by decide +kernel
theorem dX7_places_4 : decode cX7_places 4 = .ok (.ifCond .eq 11, 3) := by decide +kernel
theorem dX7_places_7 : decode cX7_places 7 = .ok (.aload_n 0, 1) := by decide +kernel
theorem dX7_places_8 : decode cX7_places 8 = .ok (.iload_n 2, 1) := by decide +kernel
theorem dX7_places_9 : decode cX7_places 9 = .ok (.invokevirtual 163, 3) := by decide +kernel
theorem dX7_places_12 : decode cX7_places 12 = .ok (.ifCond .ne 5, 3) := by decide +kernel
theorem dX7_places_15 : decode cX7_places 15 = .ok (.iconst (-1), 1) := by decide +kernel
theorem dX7_places_16 : decode cX7_places 16 = .ok (.ireturn, 1) := by decide +kernel
theorem dX7_places_17 : decode cX7_places 17 = .ok (.aload_n 0, 1) := by decide +kernel
theorem dX7_places_18 : decode cX7_places 18 = .ok (.iload_n 1, 1) := by decide +kernel
theorem dX7_places_19 : decode cX7_places 19 = .ok (.invokevirtual 299, 3) := by decide +kernel
theorem dX7_places_22 : decode cX7_places 22 = .ok (.istore_n 3, 1) := by decide +kernel
theorem dX7_places_23 : decode cX7_places 23 = .ok (.iload_n 3, 1) := by decide +kernel
theorem dX7_places_24 : decode cX7_places 24 = .ok (.ifCond .ge 5, 3) := by decide +kernel
theorem dX7_places_27 : decode cX7_places 27 = .ok (.iload_n 3, 1) := by decide +kernel
theorem dX7_places_28 : decode cX7_places 28 = .ok (.ireturn, 1) := by decide +kernel
theorem dX7_places_29 : decode cX7_places 29 = .ok (.aload_n 0, 1) := by decide +kernel
theorem dX7_places_30 : decode cX7_places 30 = .ok (.iload_n 1, 1) := by decide +kernel
theorem dX7_places_31 : decode cX7_places 31 = .ok (.iload_n 2, 1) := by decide +kernel
theorem dX7_places_32 : decode cX7_places 32 = .ok (.invokevirtual 338, 3) := by decide +kernel
theorem dX7_places_35 : decode cX7_places 35 = .ok (.iconst 0, 1) := by decide +kernel
theorem dX7_places_36 : decode cX7_places 36 = .ok (.istore 4, 2) := by decide +kernel
theorem dX7_places_38 : decode cX7_places 38 = .ok (.iconst 0, 1) := by decide +kernel
theorem dX7_places_39 : decode cX7_places 39 = .ok (.istore 5, 2) := by decide +kernel
theorem dX7_places_41 : decode cX7_places 41 = .ok (.iload 5, 2) := by decide +kernel
theorem dX7_places_43 : decode cX7_places 43 = .ok (.aload_n 0, 1) := by decide +kernel
theorem dX7_places_44 : decode cX7_places 44 = .ok (.getfield 157, 3) := by decide +kernel
theorem dX7_places_47 : decode cX7_places 47 = .ok (.if_icmp .ge 32, 3) := by decide +kernel
theorem dX7_places_50 : decode cX7_places 50 = .ok (.iload 4, 2) := by decide +kernel
theorem dX7_places_52 : decode cX7_places 52 = .ok (.aload_n 0, 1) := by decide +kernel
theorem dX7_places_53 : decode cX7_places 53 = .ok (.getfield 68, 3) := by decide +kernel
theorem dX7_places_56 : decode cX7_places 56 = .ok (.iload 5, 2) := by decide +kernel
theorem dX7_places_58 : decode cX7_places 58 = .ok (.iaload, 1) := by decide +kernel
theorem dX7_places_59 : decode cX7_places 59 = .ok (.ifCond .le 10, 3) := by decide +kernel
theorem dX7_places_62 : decode cX7_places 62 = .ok (.iconst 1, 1) := by decide +kernel
theorem dX7_places_63 : decode cX7_places 63 = .ok (.iload 5, 2) := by decide +kernel
theorem dX7_places_65 : decode cX7_places 65 = .ok (.ishl, 1) := by decide +kernel
theorem dX7_places_66 : decode cX7_places 66 = .ok (.goto 4, 3) := by decide +kernel
theorem dX7_places_69 : decode cX7_places 69 = .ok (.iconst 0, 1) := by decide +kernel
theorem dX7_places_70 : decode cX7_places 70 = .ok (.ior, 1) := by decide +kernel
theorem dX7_places_71 : decode cX7_places 71 = .ok (.istore 4, 2) := by decide +kernel
theorem dX7_places_73 : decode cX7_places 73 = .ok (.iinc 5 1, 3) := by decide +kernel
theorem dX7_places_76 : decode cX7_places 76 = .ok (.goto (-35), 3) := by decide +kernel
theorem dX7_places_79 : decode cX7_places 79 = .ok (.iload 4, 2) := by decide +kernel
theorem dX7_places_81 : decode cX7_places 81 = .ok (.ireturn, 1) := by decide +kernel
theorem dX7_middle_0 : decode cX7_middle 0 = .ok (.iload_n 1, 1) := by decide +kernel
theorem dX7_middle_1 : decode cX7_middle 1 = .ok (.invokestatic 211, 3) := by decide +kernel
theorem dX7_middle_4 : decode cX7_middle 4 = .ok (.ifCond .eq 11, 3) := by decide +kernel
theorem dX7_middle_7 : decode cX7_middle 7 = .ok (.aload_n 0, 1) := by decide +kernel
theorem dX7_middle_8 : decode cX7_middle 8 = .ok (.iload_n 2, 1) := by decide +kernel
theorem dX7_middle_9 : decode cX7_middle 9 = .ok (.invokevirtual 163, 3) := by decide +kernel
theorem dX7_middle_12 : decode cX7_middle 12 = .ok (.ifCond .ne 5, 3) := by decide +kernel
theorem dX7_middle_15 : decode cX7_middle 15 = .ok (.iconst (-1), 1) := by decide +kernel
theorem dX7_middle_16 : decode cX7_middle 16 = .ok (.ireturn, 1) := by decide +kernel
theorem dX7_middle_17 : decode cX7_middle 17 = .ok (.aload_n 0, 1) := by decide +kernel
theorem dX7_middle_18 : decode cX7_middle 18 = .ok (.iload_n 1, 1) := by decide +kernel
theorem dX7_middle_19 : decode cX7_middle 19 = .ok (.invokevirtual 299, 3) := by decide +kernel
theorem dX7_middle_22 : decode cX7_middle 22 = .ok (.istore_n 3, 1) := by decide +kernel
theorem dX7_middle_23 : decode cX7_middle 23 = .ok (.iload_n 3, 1) := by decide +kernel
theorem dX7_middle_24 : decode cX7_middle 24 = .ok (.ifCond .ge 5, 3) := by decide +kernel
theorem dX7_middle_27 : decode cX7_middle 27 = .ok (.iload_n 3, 1) := by decide +kernel
theorem dX7_middle_28 : decode cX7_middle 28 = .ok (.ireturn, 1) := by decide +kernel
theorem dX7_middle_29 : decode cX7_middle 29 = .ok (.aload_n 0, 1) := by decide +kernel
theorem dX7_middle_30 : decode cX7_middle 30 = .ok (.iload_n 1, 1) := by decide +kernel
theorem dX7_middle_31 : decode cX7_middle 31 = .ok (.iload_n 2, 1) := by decide +kernel
theorem dX7_middle_32 : decode cX7_middle 32 = .ok (.invokevirtual 338, 3) := by decide +kernel
theorem dX7_middle_35 : decode cX7_middle 35 = .ok (.lconst 0, 1) := by decide +kernel
theorem dX7_middle_36 : decode cX7_middle 36 = .ok (.lstore 4, 2) := by decide +kernel
theorem dX7_middle_38 : decode cX7_middle 38 = .ok (.iconst 0, 1) := by decide +kernel
theorem dX7_middle_39 : decode cX7_middle 39 = .ok (.istore 6, 2) := by decide +kernel
theorem dX7_middle_41 : decode cX7_middle 41 = .ok (.iload 6, 2) := by decide +kernel
theorem dX7_middle_43 : decode cX7_middle 43 = .ok (.aload_n 0, 1) := by decide +kernel
theorem dX7_middle_44 : decode cX7_middle 44 = .ok (.getfield 157, 3) := by decide +kernel
theorem dX7_middle_47 : decode cX7_middle 47 = .ok (.if_icmp .ge 26, 3) := by decide +kernel
theorem dX7_middle_50 : decode cX7_middle 50 = .ok (.lload 4, 2) := by decide +kernel
theorem dX7_middle_52 : decode cX7_middle 52 = .ok (.iload 6, 2) := by decide +kernel
theorem dX7_middle_54 : decode cX7_middle 54 = .ok (.i2l, 1) := by decide +kernel
theorem dX7_middle_55 : decode cX7_middle 55 = .ok (.aload_n 0, 1) := by decide +kernel
theorem dX7_middle_56 : decode cX7_middle 56 = .ok (.getfield 68, 3) := by decide +kernel
theorem dX7_middle_59 : decode cX7_middle 59 = .ok (.iload 6, 2) := by decide +kernel
theorem dX7_middle_61 : decode cX7_middle 61 = .ok (.iaload, 1) := by decide +kernel
theorem dX7_middle_62 : decode cX7_middle 62 = .ok (.i2l, 1) := by decide +kernel
theorem dX7_middle_63 : decode cX7_middle 63 = .ok (.lmul, 1) := by decide +kernel
theorem dX7_middle_64 : decode cX7_middle 64 = .ok (.ladd, 1) := by decide +kernel
theorem dX7_middle_65 : decode cX7_middle 65 = .ok (.lstore 4, 2) := by decide +kernel
theorem dX7_middle_67 : decode cX7_middle 67 = .ok (.iinc 6 1, 3) := by decide +kernel
theorem dX7_middle_70 : decode cX7_middle 70 = .ok (.goto (-29), 3) := by decide +kernel
theorem dX7_middle_73 : decode cX7_middle 73 = .ok (.aload_n 0, 1) := by decide +kernel
theorem dX7_middle_74 : decode cX7_middle 74 = .ok (.lload 4, 2) := by decide +kernel
theorem dX7_middle_76 : decode cX7_middle 76 = .ok (.aload_n 0, 1) := by decide +kernel
theorem dX7_middle_77 : decode cX7_middle 77 = .ok (.getfield 260, 3) := by decide +kernel
theorem dX7_middle_80 : decode cX7_middle 80 = .ok (.i2l, 1) := by decide +kernel
theorem dX7_middle_81 : decode cX7_middle 81 = .ok (.aload_n 0, 1) := by decide +kernel
theorem dX7_middle_82 : decode cX7_middle 82 = .ok (.getfield 260, 3) := by decide +kernel
theorem dX7_middle_85 : decode cX7_middle 85 = .ok (.invokevirtual 341, 3) := by decide +kernel
theorem dX7_middle_88 : decode cX7_middle 88 = .ok (.ireturn, 1) := by decide +kernel
theorem dX7_leadMany_0 : decode cX7_leadMany 0 = .ok (.iconst 0, 1) := by decide +kernel
theorem dX7_leadMany_1 : decode cX7_leadMany 1 = .ok (.istore 4, 2) := by decide +kernel
theorem dX7_leadMany_3 : decode cX7_leadMany 3 = .ok (.iload_n 1, 1) := by decide +kernel
theorem dX7_leadMany_4 : decode cX7_leadMany 4 = .ok (.iconst 4, 1) := by decide +kernel
theorem dX7_leadMany_5 : decode cX7_leadMany 5 = .ok (.if_icmp .ne 59, 3) := by decide +kernel
theorem dX7_leadMany_8 : decode cX7_leadMany 8 = .ok (.aload_n 0, 1) := by decide +kernel
theorem dX7_leadMany_9 : decode cX7_leadMany 9 = .ok (.invokevirtual 267, 3) := by decide +kernel
theorem dX7_leadMany_12 : decode cX7_leadMany 12 = .ok (.iconst 1, 1) := by decide +kernel
theorem dX7_leadMany_13 : decode cX7_leadMany 13 = .ok (.istore 5, 2) := by decide +kernel
theorem dX7_leadMany_15 : decode cX7_leadMany 15 = .ok (.iload 5, 2) := by decide +kernel
theorem dX7_leadMany_17 : decode cX7_leadMany 17 = .ok (.ifCond .eq 44, 3) := by decide +kernel
theorem dX7_leadMany_20 : decode cX7_leadMany 20 = .ok (.iload 4, 2) := by decide +kernel
theorem dX7_leadMany_22 : decode cX7_leadMany 22 = .ok (.aload_n 0, 1) := by decide +kernel
theorem dX7_leadMany_23 : decode cX7_leadMany 23 = .ok (.invokevirtual 277, 3) := by decide +kernel
theorem dX7_leadMany_26 : decode cX7_leadMany 26 = .ok (.ifCond .eq 22, 3) := by decide +kernel
theorem dX7_leadMany_29 : decode cX7_leadMany 29 = .ok (.aload_n 0, 1) := by decide +kernel
theorem dX7_leadMany_30 : decode cX7_leadMany 30 = .ok (.getfield 44, 3) := by decide +kernel
theorem dX7_leadMany_33 : decode cX7_leadMany 33 = .ok (.iload_n 2, 1) := by decide +kernel
theorem dX7_leadMany_34 : decode cX7_leadMany 34 = .ok (.iaload, 1) := by decide +kernel
theorem dX7_leadMany_35 : decode cX7_leadMany 35 = .ok (.aload_n 0, 1) := by decide +kernel
theorem dX7_leadMany_36 : decode cX7_leadMany 36 = .ok (.getfield 44, 3) := by decide +kernel
theorem dX7_leadMany_39 : decode cX7_leadMany 39 = .ok (.iload_n 3, 1) := by decide +kernel
theorem dX7_leadMany_40 : decode cX7_leadMany 40 = .ok (.iaload, 1) := by decide +kernel
theorem dX7_leadMany_41 : decode cX7_leadMany 41 = .ok (.if_icmp .ge 7, 3) := by decide +kernel
theorem dX7_leadMany_44 : decode cX7_leadMany 44 = .ok (.iconst 1, 1) := by decide +kernel
theorem dX7_leadMany_45 : decode cX7_leadMany 45 = .ok (.goto 4, 3) := by decide +kernel
theorem dX7_leadMany_48 : decode cX7_leadMany 48 = .ok (.iconst 0, 1) := by decide +kernel
theorem dX7_leadMany_49 : decode cX7_leadMany 49 = .ok (.iadd, 1) := by decide +kernel
theorem dX7_leadMany_50 : decode cX7_leadMany 50 = .ok (.istore 4, 2) := by decide +kernel
theorem dX7_leadMany_52 : decode cX7_leadMany 52 = .ok (.aload_n 0, 1) := by decide +kernel
theorem dX7_leadMany_53 : decode cX7_leadMany 53 = .ok (.invokevirtual 274, 3) := by decide +kernel
theorem dX7_leadMany_56 : decode cX7_leadMany 56 = .ok (.istore 5, 2) := by decide +kernel
theorem dX7_leadMany_58 : decode cX7_leadMany 58 = .ok (.goto (-43), 3) := by decide +kernel
theorem dX7_leadMany_61 : decode cX7_leadMany 61 = .ok (.iload 4, 2) := by decide +kernel
theorem dX7_leadMany_63 : decode cX7_leadMany 63 = .ok (.ireturn, 1) := by decide +kernel
theorem dX7_leadMany_64 : decode cX7_leadMany 64 = .ok (.aload_n 0, 1) := by decide +kernel
theorem dX7_leadMany_65 : decode cX7_leadMany 65 = .ok (.iload_n 1, 1) := by decide +kernel
theorem dX7_leadMany_66 : decode cX7_leadMany 66 = .ok (.invokevirtual 335, 3) := by decide +kernel
theorem dX7_leadMany_69 : decode cX7_leadMany 69 = .ok (.iconst 1, 1) := by decide +kernel
theorem dX7_leadMany_70 : decode cX7_leadMany 70 = .ok (.istore 5, 2) := by decide +kernel
theorem dX7_leadMany_72 : decode cX7_leadMany 72 = .ok (.iload 5, 2) := by decide +kernel
theorem dX7_leadMany_74 : decode cX7_leadMany 74 = .ok (.aload_n 0, 1) := by decide +kernel
theorem dX7_leadMany_75 : decode cX7_leadMany 75 = .ok (.invokevirtual 236, 3) := by decide +kernel
theorem dX7_leadMany_78 : decode cX7_leadMany 78 = .ok (.if_icmp .gt 59, 3) := by decide +kernel
theorem dX7_leadMany_81 : decode cX7_leadMany 81 = .ok (.iload 4, 2) := by decide +kernel
theorem dX7_leadMany_83 : decode cX7_leadMany 83 = .ok (.iload 5, 2) := by decide +kernel
theorem dX7_leadMany_85 : decode cX7_leadMany 85 = .ok (.iload_n 2, 1) := by decide +kernel
theorem dX7_leadMany_86 : decode cX7_leadMany 86 = .ok (.invokestatic 186, 3) := by decide +kernel
theorem dX7_leadMany_89 : decode cX7_leadMany 89 = .ok (.ifCond .eq 38, 3) := by decide +kernel
theorem dX7_leadMany_92 : decode cX7_leadMany 92 = .ok (.iload 5, 2) := by decide +kernel
theorem dX7_leadMany_94 : decode cX7_leadMany 94 = .ok (.iload_n 3, 1) := by decide +kernel
theorem dX7_leadMany_95 : decode cX7_leadMany 95 = .ok (.invokestatic 186, 3) := by decide +kernel
theorem dX7_leadMany_98 : decode cX7_leadMany 98 = .ok (.ifCond .eq 29, 3) := by decide +kernel
theorem dX7_leadMany_101 : decode cX7_leadMany 101 = .ok (.aload_n 0, 1) := by decide +kernel
theorem dX7_leadMany_102 : decode cX7_leadMany 102 = .ok (.getfield 59, 3) := by decide +kernel
theorem dX7_leadMany_105 : decode cX7_leadMany 105 = .ok (.iload 5, 2) := by decide +kernel
theorem dX7_leadMany_107 : decode cX7_leadMany 107 = .ok (.iload_n 3, 1) := by decide +kernel
theorem dX7_leadMany_108 : decode cX7_leadMany 108 = .ok (.invokestatic 243, 3) := by decide +kernel
theorem dX7_leadMany_111 : decode cX7_leadMany 111 = .ok (.iaload, 1) := by decide +kernel
theorem dX7_leadMany_112 : decode cX7_leadMany 112 = .ok (.aload_n 0, 1) := by decide +kernel
theorem dX7_leadMany_113 : decode cX7_leadMany 113 = .ok (.getfield 56, 3) := by decide +kernel
theorem dX7_leadMany_116 : decode cX7_leadMany 116 = .ok (.iload 5, 2) := by decide +kernel
theorem dX7_leadMany_118 : decode cX7_leadMany 118 = .ok (.iload_n 3, 1) := by decide +kernel
theorem dX7_leadMany_119 : decode cX7_leadMany 119 = .ok (.invokestatic 243, 3) := by decide +kernel
theorem dX7_leadMany_122 : decode cX7_leadMany 122 = .ok (.iaload, 1) := by decide +kernel
theorem dX7_leadMany_123 : decode cX7_leadMany 123 = .ok (.imul, 1) := by decide +kernel
theorem dX7_leadMany_124 : decode cX7_leadMany 124 = .ok (.goto 4, 3) := by decide +kernel
theorem dX7_leadMany_127 : decode cX7_leadMany 127 = .ok (.iconst 0, 1) := by decide +kernel
theorem dX7_leadMany_128 : decode cX7_leadMany 128 = .ok (.iadd, 1) := by decide +kernel
theorem dX7_leadMany_129 : decode cX7_leadMany 129 = .ok (.istore 4, 2) := by decide +kernel
theorem dX7_leadMany_131 : decode cX7_leadMany 131 = .ok (.iinc 5 1, 3) := by decide +kernel
theorem dX7_leadMany_134 : decode cX7_leadMany 134 = .ok (.goto (-62), 3) := by decide +kernel
theorem dX7_leadMany_137 : decode cX7_leadMany 137 = .ok (.iload 4, 2) := by decide +kernel
theorem dX7_leadMany_139 : decode cX7_leadMany 139 = .ok (.ireturn, 1) := by decide +kernel
theorem dX7_leads_0 : decode cX7_leads 0 = .ok (.iload_n 1, 1) := by decide +kernel
theorem dX7_leads_1 : decode cX7_leads 1 = .ok (.invokestatic 211, 3) := by decide +kernel
theorem dX7_leads_4 : decode cX7_leads 4 = .ok (.ifCond .eq 24, 3) := by decide +kernel
theorem dX7_leads_7 : decode cX7_leads 7 = .ok (.aload_n 0, 1) := by decide +kernel
theorem dX7_leads_8 : decode cX7_leads 8 = .ok (.iload_n 2, 1) := by decide +kernel
theorem dX7_leads_9 : decode cX7_leads 9 = .ok (.invokevirtual 163, 3) := by decide +kernel
theorem dX7_leads_12 : decode cX7_leads 12 = .ok (.ifCond .eq 16, 3) := by decide +kernel
theorem dX7_leads_15 : decode cX7_leads 15 = .ok (.aload_n 0, 1) := by decide +kernel
theorem dX7_leads_16 : decode cX7_leads 16 = .ok (.iload_n 3, 1) := by decide +kernel
theorem dX7_leads_17 : decode cX7_leads 17 = .ok (.invokevirtual 163, 3) := by decide +kernel
theorem dX7_leads_20 : decode cX7_leads 20 = .ok (.ifCond .eq 8, 3) := by decide +kernel
theorem dX7_leads_23 : decode cX7_leads 23 = .ok (.iload_n 2, 1) := by decide +kernel
theorem dX7_leads_24 : decode cX7_leads 24 = .ok (.iload_n 3, 1) := by decide +kernel
theorem dX7_leads_25 : decode cX7_leads 25 = .ok (.if_icmp .ne 5, 3) := by decide +kernel
theorem dX7_leads_28 : decode cX7_leads 28 = .ok (.iconst (-1), 1) := by decide +kernel
theorem dX7_leads_29 : decode cX7_leads 29 = .ok (.ireturn, 1) := by decide +kernel
theorem dX7_leads_30 : decode cX7_leads 30 = .ok (.aload_n 0, 1) := by decide +kernel
theorem dX7_leads_31 : decode cX7_leads 31 = .ok (.iload_n 1, 1) := by decide +kernel
theorem dX7_leads_32 : decode cX7_leads 32 = .ok (.invokevirtual 299, 3) := by decide +kernel
theorem dX7_leads_35 : decode cX7_leads 35 = .ok (.istore 4, 2) := by decide +kernel
theorem dX7_leads_37 : decode cX7_leads 37 = .ok (.iload 4, 2) := by decide +kernel
theorem dX7_leads_39 : decode cX7_leads 39 = .ok (.ifCond .ge 6, 3) := by decide +kernel
theorem dX7_leads_42 : decode cX7_leads 42 = .ok (.iload 4, 2) := by decide +kernel
theorem dX7_leads_44 : decode cX7_leads 44 = .ok (.ireturn, 1) := by decide +kernel
theorem dX7_leads_45 : decode cX7_leads 45 = .ok (.aload_n 0, 1) := by decide +kernel
theorem dX7_leads_46 : decode cX7_leads 46 = .ok (.iload_n 1, 1) := by decide +kernel
theorem dX7_leads_47 : decode cX7_leads 47 = .ok (.iload_n 2, 1) := by decide +kernel
theorem dX7_leads_48 : decode cX7_leads 48 = .ok (.iload_n 3, 1) := by decide +kernel
theorem dX7_leads_49 : decode cX7_leads 49 = .ok (.invokevirtual 345, 3) := by decide +kernel
theorem dX7_leads_52 : decode cX7_leads 52 = .ok (.istore 5, 2) := by decide +kernel
theorem dX7_leads_54 : decode cX7_leads 54 = .ok (.aload_n 0, 1) := by decide +kernel
theorem dX7_leads_55 : decode cX7_leads 55 = .ok (.iload 5, 2) := by decide +kernel
theorem dX7_leads_57 : decode cX7_leads 57 = .ok (.iload 5, 2) := by decide +kernel
theorem dX7_leads_59 : decode cX7_leads 59 = .ok (.ifCond .ne 7, 3) := by decide +kernel
theorem dX7_leads_62 : decode cX7_leads 62 = .ok (.iconst 0, 1) := by decide +kernel
theorem dX7_leads_63 : decode cX7_leads 63 = .ok (.goto 17, 3) := by decide +kernel
theorem dX7_leads_66 : decode cX7_leads 66 = .ok (.iload 5, 2) := by decide +kernel
theorem dX7_leads_68 : decode cX7_leads 68 = .ok (.aload_n 0, 1) := by decide +kernel
theorem dX7_leads_69 : decode cX7_leads 69 = .ok (.getfield 260, 3) := by decide +kernel
theorem dX7_leads_72 : decode cX7_leads 72 = .ok (.if_icmp .ne 7, 3) := by decide +kernel
theorem dX7_leads_75 : decode cX7_leads 75 = .ok (.iconst 2, 1) := by decide +kernel
theorem dX7_leads_76 : decode cX7_leads 76 = .ok (.goto 4, 3) := by decide +kernel
theorem dX7_leads_79 : decode cX7_leads 79 = .ok (.iconst 1, 1) := by decide +kernel
theorem dX7_leads_80 : decode cX7_leads 80 = .ok (.invokevirtual 114, 3) := by decide +kernel
theorem dX7_leads_83 : decode cX7_leads 83 = .ok (.ireturn, 1) := by decide +kernel
theorem dX7_both_0 : decode cX7_both 0 = .ok (.iload_n 1, 1) := by decide +kernel
theorem dX7_both_1 : decode cX7_both 1 = .ok (.invokestatic 211, 3) := by decide +kernel
theorem dX7_both_4 : decode cX7_both 4 = .ok (.ifCond .eq 10, 3) := by decide +kernel
theorem dX7_both_7 : decode cX7_both 7 = .ok (.iload_n 2, 1) := by decide +kernel
theorem dX7_both_8 : decode cX7_both 8 = .ok (.invokestatic 211, 3) := by decide +kernel
theorem dX7_both_11 : decode cX7_both 11 = .ok (.ifCond .ne 5, 3) := by decide +kernel
theorem dX7_both_14 : decode cX7_both 14 = .ok (.iconst (-1), 1) := by decide +kernel
theorem dX7_both_15 : decode cX7_both 15 = .ok (.ireturn, 1) := by decide +kernel
theorem dX7_both_16 : decode cX7_both 16 = .ok (.aload_n 0, 1) := by decide +kernel
theorem dX7_both_17 : decode cX7_both 17 = .ok (.iload_n 1, 1) := by decide +kernel
theorem dX7_both_18 : decode cX7_both 18 = .ok (.invokevirtual 286, 3) := by decide +kernel
theorem dX7_both_21 : decode cX7_both 21 = .ok (.ifCond .ne 11, 3) := by decide +kernel
theorem dX7_both_24 : decode cX7_both 24 = .ok (.aload_n 0, 1) := by decide +kernel
theorem dX7_both_25 : decode cX7_both 25 = .ok (.iload_n 2, 1) := by decide +kernel
theorem dX7_both_26 : decode cX7_both 26 = .ok (.invokevirtual 286, 3) := by decide +kernel
theorem dX7_both_29 : decode cX7_both 29 = .ok (.ifCond .eq 6, 3) := by decide +kernel
theorem dX7_both_32 : decode cX7_both 32 = .ok (.bipush (-6), 2) := by decide +kernel
theorem dX7_both_34 : decode cX7_both 34 = .ok (.ireturn, 1) := by decide +kernel
theorem dX7_both_35 : decode cX7_both 35 = .ok (.aload_n 0, 1) := by decide +kernel
theorem dX7_both_36 : decode cX7_both 36 = .ok (.iload_n 1, 1) := by decide +kernel
theorem dX7_both_37 : decode cX7_both 37 = .ok (.invokevirtual 299, 3) := by decide +kernel
theorem dX7_both_40 : decode cX7_both 40 = .ok (.istore_n 3, 1) := by decide +kernel
theorem dX7_both_41 : decode cX7_both 41 = .ok (.iload_n 3, 1) := by decide +kernel
theorem dX7_both_42 : decode cX7_both 42 = .ok (.ifCond .ge 5, 3) := by decide +kernel
theorem dX7_both_45 : decode cX7_both 45 = .ok (.iload_n 3, 1) := by decide +kernel
theorem dX7_both_46 : decode cX7_both 46 = .ok (.ireturn, 1) := by decide +kernel
theorem dX7_both_47 : decode cX7_both 47 = .ok (.iload_n 1, 1) := by decide +kernel
theorem dX7_both_48 : decode cX7_both 48 = .ok (.iconst 4, 1) := by decide +kernel
theorem dX7_both_49 : decode cX7_both 49 = .ok (.if_icmp .eq 8, 3) := by decide +kernel
theorem dX7_both_52 : decode cX7_both 52 = .ok (.iload_n 2, 1) := by decide +kernel
theorem dX7_both_53 : decode cX7_both 53 = .ok (.iconst 4, 1) := by decide +kernel
theorem dX7_both_54 : decode cX7_both 54 = .ok (.if_icmp .ne 12, 3) := by decide +kernel
theorem dX7_both_57 : decode cX7_both 57 = .ok (.aload_n 0, 1) := by decide +kernel
theorem dX7_both_58 : decode cX7_both 58 = .ok (.iload_n 1, 1) := by decide +kernel
theorem dX7_both_59 : decode cX7_both 59 = .ok (.iload_n 2, 1) := by decide +kernel
theorem dX7_both_60 : decode cX7_both 60 = .ok (.invokevirtual 348, 3) := by decide +kernel
theorem dX7_both_63 : decode cX7_both 63 = .ok (.goto 9, 3) := by decide +kernel
theorem dX7_both_66 : decode cX7_both 66 = .ok (.aload_n 0, 1) := by decide +kernel
theorem dX7_both_67 : decode cX7_both 67 = .ok (.iload_n 1, 1) := by decide +kernel
theorem dX7_both_68 : decode cX7_both 68 = .ok (.iload_n 2, 1) := by decide +kernel
theorem dX7_both_69 : decode cX7_both 69 = .ok (.invokevirtual 351, 3) := by decide +kernel
theorem dX7_both_72 : decode cX7_both 72 = .ok (.ireturn, 1) := by decide +kernel
theorem dX7_bothByLines_0 : decode cX7_bothByLines 0 = .ok (.aload_n 0, 1) := by decide +kernel
theorem dX7_bothByLines_1 : decode cX7_bothByLines 1 = .ok (.getfield 251, 3) := by decide +kernel
theorem dX7_bothByLines_4 : decode cX7_bothByLines 4 = .ok (.istore_n 3, 1) := by decide +kernel
theorem dX7_bothByLines_5 : decode cX7_bothByLines 5 = .ok (.ldc 246, 2) := by decide +kernel
theorem dX7_bothByLines_7 : decode cX7_bothByLines 7 = .ok (.istore 4, 2) := by decide +kernel
theorem dX7_bothByLines_9 : decode cX7_bothByLines 9 = .ok (.iconst 0, 1) := by decide +kernel
theorem dX7_bothByLines_10 : decode cX7_bothByLines 10 = .ok (.istore 5, 2) := by decide +kernel
theorem dX7_bothByLines_12 : decode cX7_bothByLines 12 = .ok (.aload_n 0, 1) := by decide +kernel
theorem dX7_bothByLines_13 : decode cX7_bothByLines 13 = .ok (.invokevirtual 267, 3) := by decide +kernel
theorem dX7_bothByLines_16 : decode cX7_bothByLines 16 = .ok (.iconst 1, 1) := by decide +kernel
theorem dX7_bothByLines_17 : decode cX7_bothByLines 17 = .ok (.istore 6, 2) := by decide +kernel
theorem dX7_bothByLines_19 : decode cX7_bothByLines 19 = .ok (.iload 6, 2) := by decide +kernel
theorem dX7_bothByLines_21 : decode cX7_bothByLines 21 = .ok (.ifCond .eq 73, 3) := by decide +kernel
theorem dX7_bothByLines_24 : decode cX7_bothByLines 24 = .ok (.aload_n 0, 1) := by decide +kernel
theorem dX7_bothByLines_25 : decode cX7_bothByLines 25 = .ok (.invokevirtual 270, 3) := by decide +kernel
theorem dX7_bothByLines_28 : decode cX7_bothByLines 28 = .ok (.ifCond .eq 57, 3) := by decide +kernel
theorem dX7_bothByLines_31 : decode cX7_bothByLines 31 = .ok (.aload_n 0, 1) := by decide +kernel
theorem dX7_bothByLines_32 : decode cX7_bothByLines 32 = .ok (.iload_n 1, 1) := by decide +kernel
theorem dX7_bothByLines_33 : decode cX7_bothByLines 33 = .ok (.invokevirtual 217, 3) := by decide +kernel
theorem dX7_bothByLines_36 : decode cX7_bothByLines 36 = .ok (.iload_n 3, 1) := by decide +kernel
theorem dX7_bothByLines_37 : decode cX7_bothByLines 37 = .ok (.if_icmp .ne 48, 3) := by decide +kernel
theorem dX7_bothByLines_40 : decode cX7_bothByLines 40 = .ok (.aload_n 0, 1) := by decide +kernel
theorem dX7_bothByLines_41 : decode cX7_bothByLines 41 = .ok (.iload_n 2, 1) := by decide +kernel
theorem dX7_bothByLines_42 : decode cX7_bothByLines 42 = .ok (.invokevirtual 217, 3) := by decide +kernel
theorem dX7_bothByLines_45 : decode cX7_bothByLines 45 = .ok (.istore 7, 2) := by decide +kernel
theorem dX7_bothByLines_47 : decode cX7_bothByLines 47 = .ok (.iload 7, 2) := by decide +kernel
theorem dX7_bothByLines_49 : decode cX7_bothByLines 49 = .ok (.iload 4, 2) := by decide +kernel
theorem dX7_bothByLines_51 : decode cX7_bothByLines 51 = .ok (.if_icmp .ge 7, 3) := by decide +kernel
theorem dX7_bothByLines_54 : decode cX7_bothByLines 54 = .ok (.iconst 1, 1) := by decide +kernel
theorem dX7_bothByLines_55 : decode cX7_bothByLines 55 = .ok (.goto 19, 3) := by decide +kernel
theorem dX7_bothByLines_58 : decode cX7_bothByLines 58 = .ok (.iload 7, 2) := by decide +kernel
theorem dX7_bothByLines_60 : decode cX7_bothByLines 60 = .ok (.iload 4, 2) := by decide +kernel
theorem dX7_bothByLines_62 : decode cX7_bothByLines 62 = .ok (.if_icmp .ne 10, 3) := by decide +kernel
theorem dX7_bothByLines_65 : decode cX7_bothByLines 65 = .ok (.iload 5, 2) := by decide +kernel
theorem dX7_bothByLines_67 : decode cX7_bothByLines 67 = .ok (.iconst 1, 1) := by decide +kernel
theorem dX7_bothByLines_68 : decode cX7_bothByLines 68 = .ok (.iadd, 1) := by decide +kernel
theorem dX7_bothByLines_69 : decode cX7_bothByLines 69 = .ok (.goto 5, 3) := by decide +kernel
theorem dX7_bothByLines_72 : decode cX7_bothByLines 72 = .ok (.iload 5, 2) := by decide +kernel
theorem dX7_bothByLines_74 : decode cX7_bothByLines 74 = .ok (.istore 5, 2) := by decide +kernel
theorem dX7_bothByLines_76 : decode cX7_bothByLines 76 = .ok (.iload 4, 2) := by decide +kernel
theorem dX7_bothByLines_78 : decode cX7_bothByLines 78 = .ok (.iload 7, 2) := by decide +kernel
theorem dX7_bothByLines_80 : decode cX7_bothByLines 80 = .ok (.invokestatic 183, 3) := by decide +kernel
theorem dX7_bothByLines_83 : decode cX7_bothByLines 83 = .ok (.istore 4, 2) := by decide +kernel
theorem dX7_bothByLines_85 : decode cX7_bothByLines 85 = .ok (.aload_n 0, 1) := by decide +kernel
theorem dX7_bothByLines_86 : decode cX7_bothByLines 86 = .ok (.invokevirtual 274, 3) := by decide +kernel
theorem dX7_bothByLines_89 : decode cX7_bothByLines 89 = .ok (.istore 6, 2) := by decide +kernel
theorem dX7_bothByLines_91 : decode cX7_bothByLines 91 = .ok (.goto (-72), 3) := by decide +kernel
theorem dX7_bothByLines_94 : decode cX7_bothByLines 94 = .ok (.aload_n 0, 1) := by decide +kernel
theorem dX7_bothByLines_95 : decode cX7_bothByLines 95 = .ok (.iload 5, 2) := by decide +kernel
theorem dX7_bothByLines_97 : decode cX7_bothByLines 97 = .ok (.iload 4, 2) := by decide +kernel
theorem dX7_bothByLines_99 : decode cX7_bothByLines 99 = .ok (.invokevirtual 114, 3) := by decide +kernel
theorem dX7_bothByLines_102 : decode cX7_bothByLines 102 = .ok (.ireturn, 1) := by decide +kernel
theorem dX7_bothBySets_0 : decode cX7_bothBySets 0 = .ok (.aload_n 0, 1) := by decide +kernel
theorem dX7_bothBySets_1 : decode cX7_bothBySets 1 = .ok (.iload_n 2, 1) := by decide +kernel
theorem dX7_bothBySets_2 : decode cX7_bothBySets 2 = .ok (.aload_n 0, 1) := by decide +kernel
theorem dX7_bothBySets_3 : decode cX7_bothBySets 3 = .ok (.getfield 50, 3) := by decide +kernel
theorem dX7_bothBySets_6 : decode cX7_bothBySets 6 = .ok (.invokevirtual 239, 3) := by decide +kernel
theorem dX7_bothBySets_9 : decode cX7_bothBySets 9 = .ok (.aload_n 0, 1) := by decide +kernel
theorem dX7_bothBySets_10 : decode cX7_bothBySets 10 = .ok (.getfield 157, 3) := by decide +kernel
theorem dX7_bothBySets_13 : decode cX7_bothBySets 13 = .ok (.ifCond .ne 10, 3) := by decide +kernel
theorem dX7_bothBySets_16 : decode cX7_bothBySets 16 = .ok (.aload_n 0, 1) := by decide +kernel
theorem dX7_bothBySets_17 : decode cX7_bothBySets 17 = .ok (.iconst 1, 1) := by decide +kernel
theorem dX7_bothBySets_18 : decode cX7_bothBySets 18 = .ok (.iconst 0, 1) := by decide +kernel
theorem dX7_bothBySets_19 : decode cX7_bothBySets 19 = .ok (.invokevirtual 114, 3) := by decide +kernel
theorem dX7_bothBySets_22 : decode cX7_bothBySets 22 = .ok (.ireturn, 1) := by decide +kernel
theorem dX7_bothBySets_23 : decode cX7_bothBySets 23 = .ok (.aload_n 0, 1) := by decide +kernel
theorem dX7_bothBySets_24 : decode cX7_bothBySets 24 = .ok (.iload_n 1, 1) := by decide +kernel
theorem dX7_bothBySets_25 : decode cX7_bothBySets 25 = .ok (.iload_n 2, 1) := by decide +kernel
theorem dX7_bothBySets_26 : decode cX7_bothBySets 26 = .ok (.ldc 246, 2) := by decide +kernel
theorem dX7_bothBySets_28 : decode cX7_bothBySets 28 = .ok (.invokevirtual 354, 3) := by decide +kernel
theorem dX7_bothBySets_31 : decode cX7_bothBySets 31 = .ok (.istore_n 3, 1) := by decide +kernel
theorem dX7_bothBySets_32 : decode cX7_bothBySets 32 = .ok (.iload_n 2, 1) := by decide +kernel
theorem dX7_bothBySets_33 : decode cX7_bothBySets 33 = .ok (.invokestatic 208, 3) := by decide +kernel
theorem dX7_bothBySets_36 : decode cX7_bothBySets 36 = .ok (.ifCond .eq 12, 3) := by decide +kernel
theorem dX7_bothBySets_39 : decode cX7_bothBySets 39 = .ok (.aload_n 0, 1) := by decide +kernel
theorem dX7_bothBySets_40 : decode cX7_bothBySets 40 = .ok (.getfield 74, 3) := by decide +kernel
theorem dX7_bothBySets_43 : decode cX7_bothBySets 43 = .ok (.iconst 0, 1) := by decide +kernel
theorem dX7_bothBySets_44 : decode cX7_bothBySets 44 = .ok (.iaload, 1) := by decide +kernel
theorem dX7_bothBySets_45 : decode cX7_bothBySets 45 = .ok (.goto 5, 3) := by decide +kernel
theorem dX7_bothBySets_48 : decode cX7_bothBySets 48 = .ok (.bipush (-9), 2) := by decide +kernel
theorem dX7_bothBySets_50 : decode cX7_bothBySets 50 = .ok (.istore 4, 2) := by decide +kernel
theorem dX7_bothBySets_52 : decode cX7_bothBySets 52 = .ok (.iload_n 2, 1) := by decide +kernel
theorem dX7_bothBySets_53 : decode cX7_bothBySets 53 = .ok (.invokestatic 208, 3) := by decide +kernel
theorem dX7_bothBySets_56 : decode cX7_bothBySets 56 = .ok (.ifCond .ne 19, 3) := by decide +kernel
theorem dX7_bothBySets_59 : decode cX7_bothBySets 59 = .ok (.aload_n 0, 1) := by decide +kernel
theorem dX7_bothBySets_60 : decode cX7_bothBySets 60 = .ok (.iload_n 1, 1) := by decide +kernel
theorem dX7_bothBySets_61 : decode cX7_bothBySets 61 = .ok (.iload_n 2, 1) := by decide +kernel
theorem dX7_bothBySets_62 : decode cX7_bothBySets 62 = .ok (.iload_n 3, 1) := by decide +kernel
theorem dX7_bothBySets_63 : decode cX7_bothBySets 63 = .ok (.invokevirtual 354, 3) := by decide +kernel
theorem dX7_bothBySets_66 : decode cX7_bothBySets 66 = .ok (.pop, 1) := by decide +kernel
theorem dX7_bothBySets_67 : decode cX7_bothBySets 67 = .ok (.aload_n 0, 1) := by decide +kernel
theorem dX7_bothBySets_68 : decode cX7_bothBySets 68 = .ok (.getfield 74, 3) := by decide +kernel
theorem dX7_bothBySets_71 : decode cX7_bothBySets 71 = .ok (.iconst 0, 1) := by decide +kernel
theorem dX7_bothBySets_72 : decode cX7_bothBySets 72 = .ok (.iaload, 1) := by decide +kernel
theorem dX7_bothBySets_73 : decode cX7_bothBySets 73 = .ok (.istore 4, 2) := by decide +kernel
theorem dX7_bothBySets_75 : decode cX7_bothBySets 75 = .ok (.aload_n 0, 1) := by decide +kernel
theorem dX7_bothBySets_76 : decode cX7_bothBySets 76 = .ok (.iload 4, 2) := by decide +kernel
theorem dX7_bothBySets_78 : decode cX7_bothBySets 78 = .ok (.iload_n 3, 1) := by decide +kernel
theorem dX7_bothBySets_79 : decode cX7_bothBySets 79 = .ok (.invokevirtual 114, 3) := by decide +kernel
theorem dX7_bothBySets_82 : decode cX7_bothBySets 82 = .ok (.ireturn, 1) := by decide +kernel
theorem dX7_bestAlong_0 : decode cX7_bestAlong 0 = .ok (.aload_n 0, 1) := by decide +kernel
theorem dX7_bestAlong_1 : decode cX7_bestAlong 1 = .ok (.invokevirtual 236, 3) := by decide +kernel
theorem dX7_bestAlong_4 : decode cX7_bestAlong 4 = .ok (.istore 4, 2) := by decide +kernel
theorem dX7_bestAlong_6 : decode cX7_bestAlong 6 = .ok (.iload 4, 2) := by decide +kernel
theorem dX7_bestAlong_8 : decode cX7_bestAlong 8 = .ok (.ifCond .lt 140, 3) := by decide +kernel
theorem dX7_bestAlong_11 : decode cX7_bestAlong 11 = .ok (.iconst 0, 1) := by decide +kernel
theorem dX7_bestAlong_12 : decode cX7_bestAlong 12 = .ok (.istore 5, 2) := by decide +kernel
theorem dX7_bestAlong_14 : decode cX7_bestAlong 14 = .ok (.iload 5, 2) := by decide +kernel
theorem dX7_bestAlong_16 : decode cX7_bestAlong 16 = .ok (.aload_n 0, 1) := by decide +kernel
theorem dX7_bestAlong_17 : decode cX7_bestAlong 17 = .ok (.getfield 157, 3) := by decide +kernel
theorem dX7_bestAlong_20 : decode cX7_bestAlong 20 = .ok (.if_icmp .ge 122, 3) := by decide +kernel
theorem dX7_bestAlong_23 : decode cX7_bestAlong 23 = .ok (.aload_n 0, 1) := by decide +kernel
theorem dX7_bestAlong_24 : decode cX7_bestAlong 24 = .ok (.getfield 71, 3) := by decide +kernel
theorem dX7_bestAlong_27 : decode cX7_bestAlong 27 = .ok (.iload 4, 2) := by decide +kernel
theorem dX7_bestAlong_29 : decode cX7_bestAlong 29 = .ok (.iload 5, 2) := by decide +kernel
theorem dX7_bestAlong_31 : decode cX7_bestAlong 31 = .ok (.invokestatic 243, 3) := by decide +kernel
theorem dX7_bestAlong_34 : decode cX7_bestAlong 34 = .ok (.iload 4, 2) := by decide +kernel
theorem dX7_bestAlong_36 : decode cX7_bestAlong 36 = .ok (.aload_n 0, 1) := by decide +kernel
theorem dX7_bestAlong_37 : decode cX7_bestAlong 37 = .ok (.invokevirtual 236, 3) := by decide +kernel
theorem dX7_bestAlong_40 : decode cX7_bestAlong 40 = .ok (.if_icmp .ne 17, 3) := by decide +kernel
theorem dX7_bestAlong_43 : decode cX7_bestAlong 43 = .ok (.iload 4, 2) := by decide +kernel
theorem dX7_bestAlong_45 : decode cX7_bestAlong 45 = .ok (.iload 5, 2) := by decide +kernel
theorem dX7_bestAlong_47 : decode cX7_bestAlong 47 = .ok (.invokestatic 186, 3) := by decide +kernel
theorem dX7_bestAlong_50 : decode cX7_bestAlong 50 = .ok (.ifCond .eq 7, 3) := by decide +kernel
theorem dX7_bestAlong_53 : decode cX7_bestAlong 53 = .ok (.iconst 0, 1) := by decide +kernel
theorem dX7_bestAlong_54 : decode cX7_bestAlong 54 = .ok (.goto 5, 3) := by decide +kernel
theorem dX7_bestAlong_57 : decode cX7_bestAlong 57 = .ok (.ldc 246, 2) := by decide +kernel
theorem dX7_bestAlong_59 : decode cX7_bestAlong 59 = .ok (.iastore, 1) := by decide +kernel
theorem dX7_bestAlong_60 : decode cX7_bestAlong 60 = .ok (.aload_n 0, 1) := by decide +kernel
theorem dX7_bestAlong_61 : decode cX7_bestAlong 61 = .ok (.getfield 74, 3) := by decide +kernel
theorem dX7_bestAlong_64 : decode cX7_bestAlong 64 = .ok (.iload 4, 2) := by decide +kernel
theorem dX7_bestAlong_66 : decode cX7_bestAlong 66 = .ok (.iload 5, 2) := by decide +kernel
theorem dX7_bestAlong_68 : decode cX7_bestAlong 68 = .ok (.invokestatic 243, 3) := by decide +kernel
theorem dX7_bestAlong_71 : decode cX7_bestAlong 71 = .ok (.iload 4, 2) := by decide +kernel
theorem dX7_bestAlong_73 : decode cX7_bestAlong 73 = .ok (.aload_n 0, 1) := by decide +kernel
theorem dX7_bestAlong_74 : decode cX7_bestAlong 74 = .ok (.invokevirtual 236, 3) := by decide +kernel
theorem dX7_bestAlong_77 : decode cX7_bestAlong 77 = .ok (.if_icmp .ne 17, 3) := by decide +kernel
theorem dX7_bestAlong_80 : decode cX7_bestAlong 80 = .ok (.iload 4, 2) := by decide +kernel
theorem dX7_bestAlong_82 : decode cX7_bestAlong 82 = .ok (.iload 5, 2) := by decide +kernel
theorem dX7_bestAlong_84 : decode cX7_bestAlong 84 = .ok (.invokestatic 186, 3) := by decide +kernel
theorem dX7_bestAlong_87 : decode cX7_bestAlong 87 = .ok (.ifCond .eq 7, 3) := by decide +kernel
theorem dX7_bestAlong_90 : decode cX7_bestAlong 90 = .ok (.iconst 1, 1) := by decide +kernel
theorem dX7_bestAlong_91 : decode cX7_bestAlong 91 = .ok (.goto 4, 3) := by decide +kernel
theorem dX7_bestAlong_94 : decode cX7_bestAlong 94 = .ok (.iconst 0, 1) := by decide +kernel
theorem dX7_bestAlong_95 : decode cX7_bestAlong 95 = .ok (.iastore, 1) := by decide +kernel
theorem dX7_bestAlong_96 : decode cX7_bestAlong 96 = .ok (.iload 4, 2) := by decide +kernel
theorem dX7_bestAlong_98 : decode cX7_bestAlong 98 = .ok (.aload_n 0, 1) := by decide +kernel
theorem dX7_bestAlong_99 : decode cX7_bestAlong 99 = .ok (.invokevirtual 236, 3) := by decide +kernel
theorem dX7_bestAlong_102 : decode cX7_bestAlong 102 = .ok (.if_icmp .ge 34, 3) := by decide +kernel
theorem dX7_bestAlong_105 : decode cX7_bestAlong 105 = .ok (.iload 4, 2) := by decide +kernel
theorem dX7_bestAlong_107 : decode cX7_bestAlong 107 = .ok (.iload 5, 2) := by decide +kernel
theorem dX7_bestAlong_109 : decode cX7_bestAlong 109 = .ok (.invokestatic 186, 3) := by decide +kernel
theorem dX7_bestAlong_112 : decode cX7_bestAlong 112 = .ok (.ifCond .ne 13, 3) := by decide +kernel
theorem dX7_bestAlong_115 : decode cX7_bestAlong 115 = .ok (.iload 4, 2) := by decide +kernel
theorem dX7_bestAlong_117 : decode cX7_bestAlong 117 = .ok (.ifCond .ne 19, 3) := by decide +kernel
theorem dX7_bestAlong_120 : decode cX7_bestAlong 120 = .ok (.iload 5, 2) := by decide +kernel
theorem dX7_bestAlong_122 : decode cX7_bestAlong 122 = .ok (.ifCond .ne 14, 3) := by decide +kernel
theorem dX7_bestAlong_125 : decode cX7_bestAlong 125 = .ok (.aload_n 0, 1) := by decide +kernel
theorem dX7_bestAlong_126 : decode cX7_bestAlong 126 = .ok (.iload_n 1, 1) := by decide +kernel
theorem dX7_bestAlong_127 : decode cX7_bestAlong 127 = .ok (.iload_n 2, 1) := by decide +kernel
theorem dX7_bestAlong_128 : decode cX7_bestAlong 128 = .ok (.iload 4, 2) := by decide +kernel
theorem dX7_bestAlong_130 : decode cX7_bestAlong 130 = .ok (.iload 5, 2) := by decide +kernel
theorem dX7_bestAlong_132 : decode cX7_bestAlong 132 = .ok (.iload_n 3, 1) := by decide +kernel
theorem dX7_bestAlong_133 : decode cX7_bestAlong 133 = .ok (.invokevirtual 357, 3) := by decide +kernel
theorem dX7_bestAlong_136 : decode cX7_bestAlong 136 = .ok (.iinc 5 1, 3) := by decide +kernel
theorem dX7_bestAlong_139 : decode cX7_bestAlong 139 = .ok (.goto (-125), 3) := by decide +kernel
theorem dX7_bestAlong_142 : decode cX7_bestAlong 142 = .ok (.iinc 4 (-1), 3) := by decide +kernel
theorem dX7_bestAlong_145 : decode cX7_bestAlong 145 = .ok (.goto (-139), 3) := by decide +kernel
theorem dX7_bestAlong_148 : decode cX7_bestAlong 148 = .ok (.aload_n 0, 1) := by decide +kernel
theorem dX7_bestAlong_149 : decode cX7_bestAlong 149 = .ok (.getfield 71, 3) := by decide +kernel
theorem dX7_bestAlong_152 : decode cX7_bestAlong 152 = .ok (.iconst 0, 1) := by decide +kernel
theorem dX7_bestAlong_153 : decode cX7_bestAlong 153 = .ok (.iaload, 1) := by decide +kernel
theorem dX7_bestAlong_154 : decode cX7_bestAlong 154 = .ok (.ireturn, 1) := by decide +kernel
