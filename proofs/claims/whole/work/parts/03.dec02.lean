theorem dX6_tear_0 : decode cX6_tear 0 = .ok (.iload_n 1, 1) := by decide +kernel
theorem dX6_tear_1 : decode cX6_tear 1 = .ok (.invokestatic 84, 3) := by decide +kernel
theorem dX6_tear_4 : decode cX6_tear 4 = .ok (.ifCond .ne 5, 3) := by decide +kernel
theorem dX6_tear_7 : decode cX6_tear 7 = .ok (.iconst (-1), 1) := by decide +kernel
theorem dX6_tear_8 : decode cX6_tear 8 = .ok (.ireturn, 1) := by decide +kernel
theorem dX6_tear_9 : decode cX6_tear 9 = .ok (.aload_n 0, 1) := by decide +kernel
theorem dX6_tear_10 : decode cX6_tear 10 = .ok (.getfield 11, 3) := by decide +kernel
theorem dX6_tear_13 : decode cX6_tear 13 = .ok (.iload_n 1, 1) := by decide +kernel
theorem dX6_tear_14 : decode cX6_tear 14 = .ok (.aaload, 1) := by decide +kernel
theorem dX6_tear_15 : decode cX6_tear 15 = .ok (.invokevirtual 102, 3) := by decide +kernel
theorem dX6_tear_18 : decode cX6_tear 18 = .ok (.ifCond .eq 9, 3) := by decide +kernel
theorem dX6_tear_21 : decode cX6_tear 21 = .ok (.aload_n 0, 1) := by decide +kernel
theorem dX6_tear_22 : decode cX6_tear 22 = .ok (.iconst 1, 1) := by decide +kernel
theorem dX6_tear_23 : decode cX6_tear 23 = .ok (.invokevirtual 88, 3) := by decide +kernel
theorem dX6_tear_26 : decode cX6_tear 26 = .ok (.ireturn, 1) := by decide +kernel
theorem dX6_tear_27 : decode cX6_tear 27 = .ok (.aload_n 0, 1) := by decide +kernel
theorem dX6_tear_28 : decode cX6_tear 28 = .ok (.getfield 11, 3) := by decide +kernel
theorem dX6_tear_31 : decode cX6_tear 31 = .ok (.iload_n 1, 1) := by decide +kernel
theorem dX6_tear_32 : decode cX6_tear 32 = .ok (.aaload, 1) := by decide +kernel
theorem dX6_tear_33 : decode cX6_tear 33 = .ok (.iconst (-1), 1) := by decide +kernel
theorem dX6_tear_34 : decode cX6_tear 34 = .ok (.putfield 106, 3) := by decide +kernel
theorem dX6_tear_37 : decode cX6_tear 37 = .ok (.iconst 1, 1) := by decide +kernel
theorem dX6_tear_38 : decode cX6_tear 38 = .ok (.ireturn, 1) := by decide +kernel
theorem dX6_copy_0 : decode cX6_copy 0 = .ok (.iload_n 1, 1) := by decide +kernel
theorem dX6_copy_1 : decode cX6_copy 1 = .ok (.invokestatic 84, 3) := by decide +kernel
theorem dX6_copy_4 : decode cX6_copy 4 = .ok (.ifCond .eq 10, 3) := by decide +kernel
theorem dX6_copy_7 : decode cX6_copy 7 = .ok (.iload_n 3, 1) := by decide +kernel
theorem dX6_copy_8 : decode cX6_copy 8 = .ok (.invokestatic 84, 3) := by decide +kernel
theorem dX6_copy_11 : decode cX6_copy 11 = .ok (.ifCond .ne 5, 3) := by decide +kernel
theorem dX6_copy_14 : decode cX6_copy 14 = .ok (.iconst (-1), 1) := by decide +kernel
theorem dX6_copy_15 : decode cX6_copy 15 = .ok (.ireturn, 1) := by decide +kernel
theorem dX6_copy_16 : decode cX6_copy 16 = .ok (.iload 5, 2) := by decide +kernel
theorem dX6_copy_18 : decode cX6_copy 18 = .ok (.ifCond .ge 9, 3) := by decide +kernel
theorem dX6_copy_21 : decode cX6_copy 21 = .ok (.aload_n 0, 1) := by decide +kernel
theorem dX6_copy_22 : decode cX6_copy 22 = .ok (.iconst 5, 1) := by decide +kernel
theorem dX6_copy_23 : decode cX6_copy 23 = .ok (.invokevirtual 88, 3) := by decide +kernel
theorem dX6_copy_26 : decode cX6_copy 26 = .ok (.ireturn, 1) := by decide +kernel
theorem dX6_copy_27 : decode cX6_copy 27 = .ok (.aload_n 0, 1) := by decide +kernel
theorem dX6_copy_28 : decode cX6_copy 28 = .ok (.getfield 11, 3) := by decide +kernel
theorem dX6_copy_31 : decode cX6_copy 31 = .ok (.iload_n 1, 1) := by decide +kernel
theorem dX6_copy_32 : decode cX6_copy 32 = .ok (.aaload, 1) := by decide +kernel
theorem dX6_copy_33 : decode cX6_copy 33 = .ok (.invokevirtual 102, 3) := by decide +kernel
theorem dX6_copy_36 : decode cX6_copy 36 = .ok (.ifCond .ne 15, 3) := by decide +kernel
theorem dX6_copy_39 : decode cX6_copy 39 = .ok (.aload_n 0, 1) := by decide +kernel
theorem dX6_copy_40 : decode cX6_copy 40 = .ok (.getfield 11, 3) := by decide +kernel
theorem dX6_copy_43 : decode cX6_copy 43 = .ok (.iload_n 3, 1) := by decide +kernel
theorem dX6_copy_44 : decode cX6_copy 44 = .ok (.aaload, 1) := by decide +kernel
theorem dX6_copy_45 : decode cX6_copy 45 = .ok (.invokevirtual 102, 3) := by decide +kernel
theorem dX6_copy_48 : decode cX6_copy 48 = .ok (.ifCond .eq 9, 3) := by decide +kernel
theorem dX6_copy_51 : decode cX6_copy 51 = .ok (.aload_n 0, 1) := by decide +kernel
theorem dX6_copy_52 : decode cX6_copy 52 = .ok (.iconst 1, 1) := by decide +kernel
theorem dX6_copy_53 : decode cX6_copy 53 = .ok (.invokevirtual 88, 3) := by decide +kernel
theorem dX6_copy_56 : decode cX6_copy 56 = .ok (.ireturn, 1) := by decide +kernel
theorem dX6_copy_57 : decode cX6_copy 57 = .ok (.aload_n 0, 1) := by decide +kernel
theorem dX6_copy_58 : decode cX6_copy 58 = .ok (.getfield 11, 3) := by decide +kernel
theorem dX6_copy_61 : decode cX6_copy 61 = .ok (.iload_n 1, 1) := by decide +kernel
theorem dX6_copy_62 : decode cX6_copy 62 = .ok (.aaload, 1) := by decide +kernel
theorem dX6_copy_63 : decode cX6_copy 63 = .ok (.iload_n 2, 1) := by decide +kernel
theorem dX6_copy_64 : decode cX6_copy 64 = .ok (.iload 5, 2) := by decide +kernel
theorem dX6_copy_66 : decode cX6_copy 66 = .ok (.invokevirtual 109, 3) := by decide +kernel
theorem dX6_copy_69 : decode cX6_copy 69 = .ok (.ifCond .eq 19, 3) := by decide +kernel
theorem dX6_copy_72 : decode cX6_copy 72 = .ok (.aload_n 0, 1) := by decide +kernel
theorem dX6_copy_73 : decode cX6_copy 73 = .ok (.getfield 11, 3) := by decide +kernel
theorem dX6_copy_76 : decode cX6_copy 76 = .ok (.iload_n 3, 1) := by decide +kernel
theorem dX6_copy_77 : decode cX6_copy 77 = .ok (.aaload, 1) := by decide +kernel
theorem dX6_copy_78 : decode cX6_copy 78 = .ok (.iload 4, 2) := by decide +kernel
theorem dX6_copy_80 : decode cX6_copy 80 = .ok (.iload 5, 2) := by decide +kernel
theorem dX6_copy_82 : decode cX6_copy 82 = .ok (.invokevirtual 109, 3) := by decide +kernel
theorem dX6_copy_85 : decode cX6_copy 85 = .ok (.ifCond .ne 9, 3) := by decide +kernel
theorem dX6_copy_88 : decode cX6_copy 88 = .ok (.aload_n 0, 1) := by decide +kernel
theorem dX6_copy_89 : decode cX6_copy 89 = .ok (.iconst 2, 1) := by decide +kernel
theorem dX6_copy_90 : decode cX6_copy 90 = .ok (.invokevirtual 88, 3) := by decide +kernel
theorem dX6_copy_93 : decode cX6_copy 93 = .ok (.ireturn, 1) := by decide +kernel
theorem dX6_copy_94 : decode cX6_copy 94 = .ok (.aload_n 0, 1) := by decide +kernel
theorem dX6_copy_95 : decode cX6_copy 95 = .ok (.getfield 11, 3) := by decide +kernel
theorem dX6_copy_98 : decode cX6_copy 98 = .ok (.iload_n 1, 1) := by decide +kernel
theorem dX6_copy_99 : decode cX6_copy 99 = .ok (.aaload, 1) := by decide +kernel
theorem dX6_copy_100 : decode cX6_copy 100 = .ok (.getfield 99, 3) := by decide +kernel
theorem dX6_copy_103 : decode cX6_copy 103 = .ok (.iload_n 2, 1) := by decide +kernel
theorem dX6_copy_104 : decode cX6_copy 104 = .ok (.aload_n 0, 1) := by decide +kernel
theorem dX6_copy_105 : decode cX6_copy 105 = .ok (.getfield 11, 3) := by decide +kernel
theorem dX6_copy_108 : decode cX6_copy 108 = .ok (.iload_n 3, 1) := by decide +kernel
theorem dX6_copy_109 : decode cX6_copy 109 = .ok (.aaload, 1) := by decide +kernel
theorem dX6_copy_110 : decode cX6_copy 110 = .ok (.getfield 99, 3) := by decide +kernel
theorem dX6_copy_113 : decode cX6_copy 113 = .ok (.iload 4, 2) := by decide +kernel
theorem dX6_copy_115 : decode cX6_copy 115 = .ok (.iload 5, 2) := by decide +kernel
theorem dX6_copy_117 : decode cX6_copy 117 = .ok (.invokestatic 113, 3) := by decide +kernel
theorem dX6_copy_120 : decode cX6_copy 120 = .ok (.iconst 1, 1) := by decide +kernel
theorem dX6_copy_121 : decode cX6_copy 121 = .ok (.ireturn, 1) := by decide +kernel
theorem dX6_mean_0 : decode cX6_mean 0 = .ok (.iload_n 1, 1) := by decide +kernel
theorem dX6_mean_1 : decode cX6_mean 1 = .ok (.invokestatic 84, 3) := by decide +kernel
theorem dX6_mean_4 : decode cX6_mean 4 = .ok (.ifCond .ne 5, 3) := by decide +kernel
theorem dX6_mean_7 : decode cX6_mean 7 = .ok (.iconst (-1), 1) := by decide +kernel
theorem dX6_mean_8 : decode cX6_mean 8 = .ok (.ireturn, 1) := by decide +kernel
theorem dX6_mean_9 : decode cX6_mean 9 = .ok (.aload_n 0, 1) := by decide +kernel
theorem dX6_mean_10 : decode cX6_mean 10 = .ok (.getfield 11, 3) := by decide +kernel
theorem dX6_mean_13 : decode cX6_mean 13 = .ok (.iload_n 1, 1) := by decide +kernel
theorem dX6_mean_14 : decode cX6_mean 14 = .ok (.aaload, 1) := by decide +kernel
theorem dX6_mean_15 : decode cX6_mean 15 = .ok (.invokevirtual 102, 3) := by decide +kernel
theorem dX6_mean_18 : decode cX6_mean 18 = .ok (.ifCond .eq 9, 3) := by decide +kernel
theorem dX6_mean_21 : decode cX6_mean 21 = .ok (.aload_n 0, 1) := by decide +kernel
theorem dX6_mean_22 : decode cX6_mean 22 = .ok (.iconst 1, 1) := by decide +kernel
theorem dX6_mean_23 : decode cX6_mean 23 = .ok (.invokevirtual 88, 3) := by decide +kernel
theorem dX6_mean_26 : decode cX6_mean 26 = .ok (.ireturn, 1) := by decide +kernel
theorem dX6_mean_27 : decode cX6_mean 27 = .ok (.aload_n 0, 1) := by decide +kernel
theorem dX6_mean_28 : decode cX6_mean 28 = .ok (.getfield 11, 3) := by decide +kernel
theorem dX6_mean_31 : decode cX6_mean 31 = .ok (.iload_n 1, 1) := by decide +kernel
theorem dX6_mean_32 : decode cX6_mean 32 = .ok (.aaload, 1) := by decide +kernel
theorem dX6_mean_33 : decode cX6_mean 33 = .ok (.getfield 106, 3) := by decide +kernel
theorem dX6_mean_36 : decode cX6_mean 36 = .ok (.istore_n 2, 1) := by decide +kernel
theorem dX6_mean_37 : decode cX6_mean 37 = .ok (.iload_n 2, 1) := by decide +kernel
theorem dX6_mean_38 : decode cX6_mean 38 = .ok (.ifCond .ne 9, 3) := by decide +kernel
theorem dX6_mean_41 : decode cX6_mean 41 = .ok (.aload_n 0, 1) := by decide +kernel
theorem dX6_mean_42 : decode cX6_mean 42 = .ok (.iconst 4, 1) := by decide +kernel
theorem dX6_mean_43 : decode cX6_mean 43 = .ok (.invokevirtual 88, 3) := by decide +kernel
theorem dX6_mean_46 : decode cX6_mean 46 = .ok (.ireturn, 1) := by decide +kernel
theorem dX6_mean_47 : decode cX6_mean 47 = .ok (.lconst 0, 1) := by decide +kernel
theorem dX6_mean_48 : decode cX6_mean 48 = .ok (.lstore_n 3, 1) := by decide +kernel
theorem dX6_mean_49 : decode cX6_mean 49 = .ok (.iconst 0, 1) := by decide +kernel
theorem dX6_mean_50 : decode cX6_mean 50 = .ok (.istore 5, 2) := by decide +kernel
theorem dX6_mean_52 : decode cX6_mean 52 = .ok (.iload 5, 2) := by decide +kernel
theorem dX6_mean_54 : decode cX6_mean 54 = .ok (.iload_n 2, 1) := by decide +kernel
theorem dX6_mean_55 : decode cX6_mean 55 = .ok (.if_icmp .ge 25, 3) := by decide +kernel
theorem dX6_mean_58 : decode cX6_mean 58 = .ok (.lload_n 3, 1) := by decide +kernel
theorem dX6_mean_59 : decode cX6_mean 59 = .ok (.aload_n 0, 1) := by decide +kernel
theorem dX6_mean_60 : decode cX6_mean 60 = .ok (.getfield 11, 3) := by decide +kernel
theorem dX6_mean_63 : decode cX6_mean 63 = .ok (.iload_n 1, 1) := by decide +kernel
theorem dX6_mean_64 : decode cX6_mean 64 = .ok (.aaload, 1) := by decide +kernel
theorem dX6_mean_65 : decode cX6_mean 65 = .ok (.getfield 99, 3) := by decide +kernel
theorem dX6_mean_68 : decode cX6_mean 68 = .ok (.iload 5, 2) := by decide +kernel
theorem dX6_mean_70 : decode cX6_mean 70 = .ok (.iaload, 1) := by decide +kernel
theorem dX6_mean_71 : decode cX6_mean 71 = .ok (.i2l, 1) := by decide +kernel
theorem dX6_mean_72 : decode cX6_mean 72 = .ok (.ladd, 1) := by decide +kernel
theorem dX6_mean_73 : decode cX6_mean 73 = .ok (.lstore_n 3, 1) := by decide +kernel
theorem dX6_mean_74 : decode cX6_mean 74 = .ok (.iinc 5 1, 3) := by decide +kernel
theorem dX6_mean_77 : decode cX6_mean 77 = .ok (.goto (-25), 3) := by decide +kernel
theorem dX6_mean_80 : decode cX6_mean 80 = .ok (.aload_n 0, 1) := by decide +kernel
theorem dX6_mean_81 : decode cX6_mean 81 = .ok (.lload_n 3, 1) := by decide +kernel
theorem dX6_mean_82 : decode cX6_mean 82 = .ok (.iload_n 2, 1) := by decide +kernel
theorem dX6_mean_83 : decode cX6_mean 83 = .ok (.i2l, 1) := by decide +kernel
theorem dX6_mean_84 : decode cX6_mean 84 = .ok (.ldiv, 1) := by decide +kernel
theorem dX6_mean_85 : decode cX6_mean 85 = .ok (.l2i, 1) := by decide +kernel
theorem dX6_mean_86 : decode cX6_mean 86 = .ok (.putfield 64, 3) := by decide +kernel
theorem dX6_mean_89 : decode cX6_mean 89 = .ok (.iconst 1, 1) := by decide +kernel
theorem dX6_mean_90 : decode cX6_mean 90 = .ok (.ireturn, 1) := by decide +kernel
theorem dX6_text_0 : decode cX6_text 0 = .ok (.iload_n 1, 1) := by decide +kernel
theorem dX6_text_1 : decode cX6_text 1 = .ok (.invokestatic 119, 3) := by decide +kernel
theorem dX6_text_4 : decode cX6_text 4 = .ok (.ifCond .eq 9, 3) := by decide +kernel
theorem dX6_text_7 : decode cX6_text 7 = .ok (.iload_n 2, 1) := by decide +kernel
theorem dX6_text_8 : decode cX6_text 8 = .ok (.bipush 120, 2) := by decide +kernel
theorem dX6_text_10 : decode cX6_text 10 = .ok (.if_icmp .le 5, 3) := by decide +kernel
theorem dX6_text_13 : decode cX6_text 13 = .ok (.iconst (-1), 1) := by decide +kernel
theorem dX6_text_14 : decode cX6_text 14 = .ok (.ireturn, 1) := by decide +kernel
theorem dX6_text_15 : decode cX6_text 15 = .ok (.iload_n 2, 1) := by decide +kernel
theorem dX6_text_16 : decode cX6_text 16 = .ok (.ifCond .ge 9, 3) := by decide +kernel
theorem dX6_text_19 : decode cX6_text 19 = .ok (.aload_n 0, 1) := by decide +kernel
theorem dX6_text_20 : decode cX6_text 20 = .ok (.iconst 5, 1) := by decide +kernel
theorem dX6_text_21 : decode cX6_text 21 = .ok (.invokevirtual 88, 3) := by decide +kernel
theorem dX6_text_24 : decode cX6_text 24 = .ok (.ireturn, 1) := by decide +kernel
theorem dX6_text_25 : decode cX6_text 25 = .ok (.aload_n 0, 1) := by decide +kernel
theorem dX6_text_26 : decode cX6_text 26 = .ok (.getfield 15, 3) := by decide +kernel
theorem dX6_text_29 : decode cX6_text 29 = .ok (.iload_n 1, 1) := by decide +kernel
theorem dX6_text_30 : decode cX6_text 30 = .ok (.aaload, 1) := by decide +kernel
theorem dX6_text_31 : decode cX6_text 31 = .ok (.iload_n 2, 1) := by decide +kernel
theorem dX6_text_32 : decode cX6_text 32 = .ok (.bipush 32, 2) := by decide +kernel
theorem dX6_text_34 : decode cX6_text 34 = .ok (.invokevirtual 92, 3) := by decide +kernel
theorem dX6_text_37 : decode cX6_text 37 = .ok (.iload_n 2, 1) := by decide +kernel
theorem dX6_text_38 : decode cX6_text 38 = .ok (.ireturn, 1) := by decide +kernel
theorem dX6_put_0 : decode cX6_put 0 = .ok (.iload_n 1, 1) := by decide +kernel
theorem dX6_put_1 : decode cX6_put 1 = .ok (.invokestatic 119, 3) := by decide +kernel
theorem dX6_put_4 : decode cX6_put 4 = .ok (.ifCond .ne 5, 3) := by decide +kernel
theorem dX6_put_7 : decode cX6_put 7 = .ok (.iconst (-1), 1) := by decide +kernel
theorem dX6_put_8 : decode cX6_put 8 = .ok (.ireturn, 1) := by decide +kernel
theorem dX6_put_9 : decode cX6_put 9 = .ok (.aload_n 0, 1) := by decide +kernel
theorem dX6_put_10 : decode cX6_put 10 = .ok (.getfield 15, 3) := by decide +kernel
theorem dX6_put_13 : decode cX6_put 13 = .ok (.iload_n 1, 1) := by decide +kernel
theorem dX6_put_14 : decode cX6_put 14 = .ok (.aaload, 1) := by decide +kernel
theorem dX6_put_15 : decode cX6_put 15 = .ok (.iload_n 2, 1) := by decide +kernel
theorem dX6_put_16 : decode cX6_put 16 = .ok (.invokevirtual 96, 3) := by decide +kernel
theorem dX6_put_19 : decode cX6_put 19 = .ok (.istore 4, 2) := by decide +kernel
theorem dX6_put_21 : decode cX6_put 21 = .ok (.iload 4, 2) := by decide +kernel
theorem dX6_put_23 : decode cX6_put 23 = .ok (.ifCond .eq 10, 3) := by decide +kernel
theorem dX6_put_26 : decode cX6_put 26 = .ok (.aload_n 0, 1) := by decide +kernel
theorem dX6_put_27 : decode cX6_put 27 = .ok (.iload 4, 2) := by decide +kernel
theorem dX6_put_29 : decode cX6_put 29 = .ok (.invokevirtual 88, 3) := by decide +kernel
theorem dX6_put_32 : decode cX6_put 32 = .ok (.ireturn, 1) := by decide +kernel
theorem dX6_put_33 : decode cX6_put 33 = .ok (.aload_n 0, 1) := by decide +kernel
theorem dX6_put_34 : decode cX6_put 34 = .ok (.getfield 15, 3) := by decide +kernel
theorem dX6_put_37 : decode cX6_put 37 = .ok (.iload_n 1, 1) := by decide +kernel
theorem dX6_put_38 : decode cX6_put 38 = .ok (.aaload, 1) := by decide +kernel
theorem dX6_put_39 : decode cX6_put 39 = .ok (.getfield 99, 3) := by decide +kernel
theorem dX6_put_42 : decode cX6_put 42 = .ok (.iload_n 2, 1) := by decide +kernel
theorem dX6_put_43 : decode cX6_put 43 = .ok (.iaload, 1) := by decide +kernel
theorem dX6_put_44 : decode cX6_put 44 = .ok (.istore 5, 2) := by decide +kernel
theorem dX6_put_46 : decode cX6_put 46 = .ok (.aload_n 0, 1) := by decide +kernel
theorem dX6_put_47 : decode cX6_put 47 = .ok (.getfield 15, 3) := by decide +kernel
theorem dX6_put_50 : decode cX6_put 50 = .ok (.iload_n 1, 1) := by decide +kernel
theorem dX6_put_51 : decode cX6_put 51 = .ok (.aaload, 1) := by decide +kernel
theorem dX6_put_52 : decode cX6_put 52 = .ok (.getfield 99, 3) := by decide +kernel
theorem dX6_put_55 : decode cX6_put 55 = .ok (.iload_n 2, 1) := by decide +kernel
theorem dX6_put_56 : decode cX6_put 56 = .ok (.iload_n 3, 1) := by decide +kernel
theorem dX6_put_57 : decode cX6_put 57 = .ok (.i2b, 1) := by decide +kernel
theorem dX6_put_58 : decode cX6_put 58 = .ok (.iastore, 1) := by decide +kernel
theorem dX6_put_59 : decode cX6_put 59 = .ok (.iload 5, 2) := by decide +kernel
theorem dX6_put_61 : decode cX6_put 61 = .ok (.sipush 1000, 3) := by decide +kernel
theorem dX6_put_64 : decode cX6_put 64 = .ok (.iadd, 1) := by decide +kernel
theorem dX6_put_65 : decode cX6_put 65 = .ok (.ireturn, 1) := by decide +kernel
theorem dX6_fault_0 : decode cX6_fault 0 = .ok (.iload_n 1, 1) := by decide +kernel
theorem dX6_fault_1 : decode cX6_fault 1 = .ok (.invokestatic 119, 3) := by decide +kernel
theorem dX6_fault_4 : decode cX6_fault 4 = .ok (.ifCond .ne 5, 3) := by decide +kernel
theorem dX6_fault_7 : decode cX6_fault 7 = .ok (.iconst (-1), 1) := by decide +kernel
theorem dX6_fault_8 : decode cX6_fault 8 = .ok (.ireturn, 1) := by decide +kernel
theorem dX6_fault_9 : decode cX6_fault 9 = .ok (.aload_n 0, 1) := by decide +kernel
theorem dX6_fault_10 : decode cX6_fault 10 = .ok (.getfield 15, 3) := by decide +kernel
theorem dX6_fault_13 : decode cX6_fault 13 = .ok (.iload_n 1, 1) := by decide +kernel
theorem dX6_fault_14 : decode cX6_fault 14 = .ok (.aaload, 1) := by decide +kernel
theorem dX6_fault_15 : decode cX6_fault 15 = .ok (.invokevirtual 102, 3) := by decide +kernel
theorem dX6_fault_18 : decode cX6_fault 18 = .ok (.ifCond .eq 9, 3) := by decide +kernel
theorem dX6_fault_21 : decode cX6_fault 21 = .ok (.aload_n 0, 1) := by decide +kernel
theorem dX6_fault_22 : decode cX6_fault 22 = .ok (.iconst 1, 1) := by decide +kernel
theorem dX6_fault_23 : decode cX6_fault 23 = .ok (.invokevirtual 88, 3) := by decide +kernel
theorem dX6_fault_26 : decode cX6_fault 26 = .ok (.ireturn, 1) := by decide +kernel
theorem dX6_fault_27 : decode cX6_fault 27 = .ok (.aload_n 0, 1) := by decide +kernel
theorem dX6_fault_28 : decode cX6_fault 28 = .ok (.getfield 21, 3) := by decide +kernel
theorem dX6_fault_31 : decode cX6_fault 31 = .ok (.aload_n 0, 1) := by decide +kernel
theorem dX6_fault_32 : decode cX6_fault 32 = .ok (.getfield 15, 3) := by decide +kernel
theorem dX6_fault_35 : decode cX6_fault 35 = .ok (.iload_n 1, 1) := by decide +kernel
theorem dX6_fault_36 : decode cX6_fault 36 = .ok (.aaload, 1) := by decide +kernel
theorem dX6_fault_37 : decode cX6_fault 37 = .ok (.invokevirtual 122, 3) := by decide +kernel
theorem dX6_fault_40 : decode cX6_fault 40 = .ok (.ireturn, 1) := by decide +kernel
theorem dX6_world_0 : decode cX6_world 0 = .ok (.iload_n 1, 1) := by decide +kernel
theorem dX6_world_1 : decode cX6_world 1 = .ok (.invokestatic 119, 3) := by decide +kernel
theorem dX6_world_4 : decode cX6_world 4 = .ok (.ifCond .ne 5, 3) := by decide +kernel
theorem dX6_world_7 : decode cX6_world 7 = .ok (.iconst (-1), 1) := by decide +kernel
theorem dX6_world_8 : decode cX6_world 8 = .ok (.ireturn, 1) := by decide +kernel
theorem dX6_world_9 : decode cX6_world 9 = .ok (.aload_n 0, 1) := by decide +kernel
theorem dX6_world_10 : decode cX6_world 10 = .ok (.getfield 15, 3) := by decide +kernel
theorem dX6_world_13 : decode cX6_world 13 = .ok (.iload_n 1, 1) := by decide +kernel
theorem dX6_world_14 : decode cX6_world 14 = .ok (.aaload, 1) := by decide +kernel
theorem dX6_world_15 : decode cX6_world 15 = .ok (.invokevirtual 102, 3) := by decide +kernel
theorem dX6_world_18 : decode cX6_world 18 = .ok (.ifCond .eq 9, 3) := by decide +kernel
theorem dX6_world_21 : decode cX6_world 21 = .ok (.aload_n 0, 1) := by decide +kernel
theorem dX6_world_22 : decode cX6_world 22 = .ok (.iconst 1, 1) := by decide +kernel
theorem dX6_world_23 : decode cX6_world 23 = .ok (.invokevirtual 88, 3) := by decide +kernel
theorem dX6_world_26 : decode cX6_world 26 = .ok (.ireturn, 1) := by decide +kernel
theorem dX6_world_27 : decode cX6_world 27 = .ok (.aload_n 0, 1) := by decide +kernel
theorem dX6_world_28 : decode cX6_world 28 = .ok (.getfield 21, 3) := by decide +kernel
theorem dX6_world_31 : decode cX6_world 31 = .ok (.aload_n 0, 1) := by decide +kernel
theorem dX6_world_32 : decode cX6_world 32 = .ok (.getfield 15, 3) := by decide +kernel
theorem dX6_world_35 : decode cX6_world 35 = .ok (.iload_n 1, 1) := by decide +kernel
theorem dX6_world_36 : decode cX6_world 36 = .ok (.aaload, 1) := by decide +kernel
theorem dX6_world_37 : decode cX6_world 37 = .ok (.invokevirtual 122, 3) := by decide +kernel
theorem dX6_world_40 : decode cX6_world 40 = .ok (.bipush (-9), 2) := by decide +kernel
theorem dX6_world_42 : decode cX6_world 42 = .ok (.if_icmp .eq 6, 3) := by decide +kernel
theorem dX6_world_45 : decode cX6_world 45 = .ok (.bipush (-4), 2) := by decide +kernel
theorem dX6_world_47 : decode cX6_world 47 = .ok (.ireturn, 1) := by decide +kernel
theorem dX6_world_48 : decode cX6_world 48 = .ok (.aload_n 0, 1) := by decide +kernel
theorem dX6_world_49 : decode cX6_world 49 = .ok (.getfield 43, 3) := by decide +kernel
theorem dX6_world_52 : decode cX6_world 52 = .ok (.aload_n 0, 1) := by decide +kernel
theorem dX6_world_53 : decode cX6_world 53 = .ok (.getfield 21, 3) := by decide +kernel
theorem dX6_world_56 : decode cX6_world 56 = .ok (.getfield 126, 3) := by decide +kernel
theorem dX6_world_59 : decode cX6_world 59 = .ok (.invokevirtual 127, 3) := by decide +kernel
theorem dX6_world_62 : decode cX6_world 62 = .ok (.aload_n 0, 1) := by decide +kernel
theorem dX6_world_63 : decode cX6_world 63 = .ok (.invokevirtual 133, 3) := by decide +kernel
theorem dX6_world_66 : decode cX6_world 66 = .ok (.aload_n 0, 1) := by decide +kernel
theorem dX6_world_67 : decode cX6_world 67 = .ok (.getfield 43, 3) := by decide +kernel
theorem dX6_world_70 : decode cX6_world 70 = .ok (.getfield 136, 3) := by decide +kernel
theorem dX6_world_73 : decode cX6_world 73 = .ok (.ireturn, 1) := by decide +kernel
theorem dX6_tie_0 : decode cX6_tie 0 = .ok (.aload_n 0, 1) := by decide +kernel
theorem dX6_tie_1 : decode cX6_tie 1 = .ok (.getfield 43, 3) := by decide +kernel
theorem dX6_tie_4 : decode cX6_tie 4 = .ok (.iload_n 1, 1) := by decide +kernel
theorem dX6_tie_5 : decode cX6_tie 5 = .ok (.iload_n 2, 1) := by decide +kernel
theorem dX6_tie_6 : decode cX6_tie 6 = .ok (.invokevirtual 139, 3) := by decide +kernel
theorem dX6_tie_9 : decode cX6_tie 9 = .ok (.ifCond .eq 19, 3) := by decide +kernel
theorem dX6_tie_12 : decode cX6_tie 12 = .ok (.iload_n 3, 1) := by decide +kernel
theorem dX6_tie_13 : decode cX6_tie 13 = .ok (.bipush (-9), 2) := by decide +kernel
theorem dX6_tie_15 : decode cX6_tie 15 = .ok (.if_icmp .eq 15, 3) := by decide +kernel
theorem dX6_tie_18 : decode cX6_tie 18 = .ok (.iload_n 3, 1) := by decide +kernel
theorem dX6_tie_19 : decode cX6_tie 19 = .ok (.ifCond .lt 9, 3) := by decide +kernel
theorem dX6_tie_22 : decode cX6_tie 22 = .ok (.iload_n 3, 1) := by decide +kernel
theorem dX6_tie_23 : decode cX6_tie 23 = .ok (.bipush 9, 2) := by decide +kernel
theorem dX6_tie_25 : decode cX6_tie 25 = .ok (.if_icmp .le 5, 3) := by decide +kernel
theorem dX6_tie_28 : decode cX6_tie 28 = .ok (.iconst (-1), 1) := by decide +kernel
theorem dX6_tie_29 : decode cX6_tie 29 = .ok (.ireturn, 1) := by decide +kernel
theorem dX6_tie_30 : decode cX6_tie 30 = .ok (.aload_n 0, 1) := by decide +kernel
theorem dX6_tie_31 : decode cX6_tie 31 = .ok (.getfield 43, 3) := by decide +kernel
theorem dX6_tie_34 : decode cX6_tie 34 = .ok (.getfield 142, 3) := by decide +kernel
theorem dX6_tie_37 : decode cX6_tie 37 = .ok (.iload_n 1, 1) := by decide +kernel
theorem dX6_tie_38 : decode cX6_tie 38 = .ok (.aaload, 1) := by decide +kernel
theorem dX6_tie_39 : decode cX6_tie 39 = .ok (.iload_n 2, 1) := by decide +kernel
theorem dX6_tie_40 : decode cX6_tie 40 = .ok (.iaload, 1) := by decide +kernel
theorem dX6_tie_41 : decode cX6_tie 41 = .ok (.istore 4, 2) := by decide +kernel
theorem dX6_tie_43 : decode cX6_tie 43 = .ok (.iload_n 3, 1) := by decide +kernel
theorem dX6_tie_44 : decode cX6_tie 44 = .ok (.bipush (-9), 2) := by decide +kernel
theorem dX6_tie_46 : decode cX6_tie 46 = .ok (.if_icmp .eq 17, 3) := by decide +kernel
theorem dX6_tie_49 : decode cX6_tie 49 = .ok (.aload_n 0, 1) := by decide +kernel
theorem dX6_tie_50 : decode cX6_tie 50 = .ok (.getfield 43, 3) := by decide +kernel
theorem dX6_tie_53 : decode cX6_tie 53 = .ok (.iload_n 1, 1) := by decide +kernel
theorem dX6_tie_54 : decode cX6_tie 54 = .ok (.iload_n 2, 1) := by decide +kernel
theorem dX6_tie_55 : decode cX6_tie 55 = .ok (.iload_n 3, 1) := by decide +kernel
theorem dX6_tie_56 : decode cX6_tie 56 = .ok (.invokevirtual 146, 3) := by decide +kernel
theorem dX6_tie_59 : decode cX6_tie 59 = .ok (.aload_n 0, 1) := by decide +kernel
theorem dX6_tie_60 : decode cX6_tie 60 = .ok (.invokevirtual 133, 3) := by decide +kernel
theorem dX6_tie_63 : decode cX6_tie 63 = .ok (.iload 4, 2) := by decide +kernel
theorem dX6_tie_65 : decode cX6_tie 65 = .ok (.ireturn, 1) := by decide +kernel
theorem dX6_rule_0 : decode cX6_rule 0 = .ok (.aload_n 0, 1) := by decide +kernel
theorem dX6_rule_1 : decode cX6_rule 1 = .ok (.getfield 43, 3) := by decide +kernel
theorem dX6_rule_4 : decode cX6_rule 4 = .ok (.iload_n 1, 1) := by decide +kernel
theorem dX6_rule_5 : decode cX6_rule 5 = .ok (.iload_n 2, 1) := by decide +kernel
theorem dX6_rule_6 : decode cX6_rule 6 = .ok (.iload_n 3, 1) := by decide +kernel
theorem dX6_rule_7 : decode cX6_rule 7 = .ok (.iload 4, 2) := by decide +kernel
theorem dX6_rule_9 : decode cX6_rule 9 = .ok (.invokevirtual 150, 3) := by decide +kernel
theorem dX6_rule_12 : decode cX6_rule 12 = .ok (.ifCond .ne 5, 3) := by decide +kernel
theorem dX6_rule_15 : decode cX6_rule 15 = .ok (.iconst (-1), 1) := by decide +kernel
theorem dX6_rule_16 : decode cX6_rule 16 = .ok (.ireturn, 1) := by decide +kernel
theorem dX6_rule_17 : decode cX6_rule 17 = .ok (.aload_n 0, 1) := by decide +kernel
theorem dX6_rule_18 : decode cX6_rule 18 = .ok (.getfield 43, 3) := by decide +kernel
theorem dX6_rule_21 : decode cX6_rule 21 = .ok (.getfield 154, 3) := by decide +kernel
theorem dX6_rule_24 : decode cX6_rule 24 = .ok (.bipush 8, 2) := by decide +kernel
theorem dX6_rule_26 : decode cX6_rule 26 = .ok (.if_icmp .ne 6, 3) := by decide +kernel
theorem dX6_rule_29 : decode cX6_rule 29 = .ok (.bipush (-2), 2) := by decide +kernel
theorem dX6_rule_31 : decode cX6_rule 31 = .ok (.ireturn, 1) := by decide +kernel
theorem dX6_rule_32 : decode cX6_rule 32 = .ok (.aload_n 0, 1) := by decide +kernel
theorem dX6_rule_33 : decode cX6_rule 33 = .ok (.invokevirtual 133, 3) := by decide +kernel
theorem dX6_rule_36 : decode cX6_rule 36 = .ok (.aload_n 0, 1) := by decide +kernel
theorem dX6_rule_37 : decode cX6_rule 37 = .ok (.getfield 43, 3) := by decide +kernel
theorem dX6_rule_40 : decode cX6_rule 40 = .ok (.iload_n 1, 1) := by decide +kernel
theorem dX6_rule_41 : decode cX6_rule 41 = .ok (.iload_n 2, 1) := by decide +kernel
theorem dX6_rule_42 : decode cX6_rule 42 = .ok (.iload_n 3, 1) := by decide +kernel
theorem dX6_rule_43 : decode cX6_rule 43 = .ok (.iload 4, 2) := by decide +kernel
theorem dX6_rule_45 : decode cX6_rule 45 = .ok (.invokevirtual 157, 3) := by decide +kernel
theorem dX6_rule_48 : decode cX6_rule 48 = .ok (.ireturn, 1) := by decide +kernel
theorem dX6_off_0 : decode cX6_off 0 = .ok (.aload_n 0, 1) := by decide +kernel
theorem dX6_off_1 : decode cX6_off 1 = .ok (.getfield 43, 3) := by decide +kernel
theorem dX6_off_4 : decode cX6_off 4 = .ok (.iload_n 1, 1) := by decide +kernel
theorem dX6_off_5 : decode cX6_off 5 = .ok (.invokevirtual 161, 3) := by decide +kernel
theorem dX6_off_8 : decode cX6_off 8 = .ok (.ifCond .eq 12, 3) := by decide +kernel
theorem dX6_off_11 : decode cX6_off 11 = .ok (.iload_n 2, 1) := by decide +kernel
theorem dX6_off_12 : decode cX6_off 12 = .ok (.ifCond .eq 10, 3) := by decide +kernel
theorem dX6_off_15 : decode cX6_off 15 = .ok (.iload_n 2, 1) := by decide +kernel
theorem dX6_off_16 : decode cX6_off 16 = .ok (.iconst 1, 1) := by decide +kernel
theorem dX6_off_17 : decode cX6_off 17 = .ok (.if_icmp .eq 5, 3) := by decide +kernel
theorem dX6_off_20 : decode cX6_off 20 = .ok (.iconst (-1), 1) := by decide +kernel
theorem dX6_off_21 : decode cX6_off 21 = .ok (.ireturn, 1) := by decide +kernel
theorem dX6_off_22 : decode cX6_off 22 = .ok (.aload_n 0, 1) := by decide +kernel
theorem dX6_off_23 : decode cX6_off 23 = .ok (.getfield 43, 3) := by decide +kernel
theorem dX6_off_26 : decode cX6_off 26 = .ok (.iload_n 1, 1) := by decide +kernel
theorem dX6_off_27 : decode cX6_off 27 = .ok (.invokevirtual 164, 3) := by decide +kernel
theorem dX6_off_30 : decode cX6_off 30 = .ok (.ifCond .eq 7, 3) := by decide +kernel
theorem dX6_off_33 : decode cX6_off 33 = .ok (.iconst 1, 1) := by decide +kernel
theorem dX6_off_34 : decode cX6_off 34 = .ok (.goto 4, 3) := by decide +kernel
theorem dX6_off_37 : decode cX6_off 37 = .ok (.iconst 0, 1) := by decide +kernel
theorem dX6_off_38 : decode cX6_off 38 = .ok (.istore_n 3, 1) := by decide +kernel
theorem dX6_off_39 : decode cX6_off 39 = .ok (.aload_n 0, 1) := by decide +kernel
theorem dX6_off_40 : decode cX6_off 40 = .ok (.getfield 43, 3) := by decide +kernel
theorem dX6_off_43 : decode cX6_off 43 = .ok (.iload_n 1, 1) := by decide +kernel
theorem dX6_off_44 : decode cX6_off 44 = .ok (.iload_n 2, 1) := by decide +kernel
theorem dX6_off_45 : decode cX6_off 45 = .ok (.iconst 1, 1) := by decide +kernel
theorem dX6_off_46 : decode cX6_off 46 = .ok (.if_icmp .ne 7, 3) := by decide +kernel
theorem dX6_off_49 : decode cX6_off 49 = .ok (.iconst 1, 1) := by decide +kernel
theorem dX6_off_50 : decode cX6_off 50 = .ok (.goto 4, 3) := by decide +kernel
theorem dX6_off_53 : decode cX6_off 53 = .ok (.iconst 0, 1) := by decide +kernel
theorem dX6_off_54 : decode cX6_off 54 = .ok (.invokevirtual 167, 3) := by decide +kernel
theorem dX6_off_57 : decode cX6_off 57 = .ok (.aload_n 0, 1) := by decide +kernel
theorem dX6_off_58 : decode cX6_off 58 = .ok (.invokevirtual 133, 3) := by decide +kernel
theorem dX6_off_61 : decode cX6_off 61 = .ok (.iload_n 3, 1) := by decide +kernel
theorem dX6_off_62 : decode cX6_off 62 = .ok (.ireturn, 1) := by decide +kernel
theorem dX6_back_0 : decode cX6_back 0 = .ok (.iload_n 1, 1) := by decide +kernel
theorem dX6_back_1 : decode cX6_back 1 = .ok (.ifCond .lt 14, 3) := by decide +kernel
theorem dX6_back_4 : decode cX6_back 4 = .ok (.iload_n 1, 1) := by decide +kernel
theorem dX6_back_5 : decode cX6_back 5 = .ok (.aload_n 0, 1) := by decide +kernel
theorem dX6_back_6 : decode cX6_back 6 = .ok (.getfield 43, 3) := by decide +kernel
theorem dX6_back_9 : decode cX6_back 9 = .ok (.getfield 154, 3) := by decide +kernel
theorem dX6_back_12 : decode cX6_back 12 = .ok (.if_icmp .le 5, 3) := by decide +kernel
theorem dX6_back_15 : decode cX6_back 15 = .ok (.iconst (-1), 1) := by decide +kernel
theorem dX6_back_16 : decode cX6_back 16 = .ok (.ireturn, 1) := by decide +kernel
theorem dX6_back_17 : decode cX6_back 17 = .ok (.aload_n 0, 1) := by decide +kernel
theorem dX6_back_18 : decode cX6_back 18 = .ok (.getfield 43, 3) := by decide +kernel
theorem dX6_back_21 : decode cX6_back 21 = .ok (.getfield 154, 3) := by decide +kernel
theorem dX6_back_24 : decode cX6_back 24 = .ok (.iload_n 1, 1) := by decide +kernel
theorem dX6_back_25 : decode cX6_back 25 = .ok (.isub, 1) := by decide +kernel
theorem dX6_back_26 : decode cX6_back 26 = .ok (.istore_n 2, 1) := by decide +kernel
theorem dX6_back_27 : decode cX6_back 27 = .ok (.aload_n 0, 1) := by decide +kernel
theorem dX6_back_28 : decode cX6_back 28 = .ok (.getfield 43, 3) := by decide +kernel
theorem dX6_back_31 : decode cX6_back 31 = .ok (.iload_n 1, 1) := by decide +kernel
theorem dX6_back_32 : decode cX6_back 32 = .ok (.invokevirtual 171, 3) := by decide +kernel
theorem dX6_back_35 : decode cX6_back 35 = .ok (.aload_n 0, 1) := by decide +kernel
theorem dX6_back_36 : decode cX6_back 36 = .ok (.invokevirtual 133, 3) := by decide +kernel
theorem dX6_back_39 : decode cX6_back 39 = .ok (.iload_n 2, 1) := by decide +kernel
theorem dX6_back_40 : decode cX6_back 40 = .ok (.ireturn, 1) := by decide +kernel
theorem dX6_told_0 : decode cX6_told 0 = .ok (.aload_n 0, 1) := by decide +kernel
theorem dX6_told_1 : decode cX6_told 1 = .ok (.getfield 43, 3) := by decide +kernel
theorem dX6_told_4 : decode cX6_told 4 = .ok (.iload_n 1, 1) := by decide +kernel
theorem dX6_told_5 : decode cX6_told 5 = .ok (.invokevirtual 161, 3) := by decide +kernel
theorem dX6_told_8 : decode cX6_told 8 = .ok (.ifCond .eq 12, 3) := by decide +kernel
theorem dX6_told_11 : decode cX6_told 11 = .ok (.iload_n 2, 1) := by decide +kernel
theorem dX6_told_12 : decode cX6_told 12 = .ok (.ifCond .lt 8, 3) := by decide +kernel
theorem dX6_told_15 : decode cX6_told 15 = .ok (.iload_n 2, 1) := by decide +kernel
theorem dX6_told_16 : decode cX6_told 16 = .ok (.iconst 4, 1) := by decide +kernel
theorem dX6_told_17 : decode cX6_told 17 = .ok (.if_icmp .le 5, 3) := by decide +kernel
theorem dX6_told_20 : decode cX6_told 20 = .ok (.iconst (-1), 1) := by decide +kernel
theorem dX6_told_21 : decode cX6_told 21 = .ok (.ireturn, 1) := by decide +kernel
theorem dX6_told_22 : decode cX6_told 22 = .ok (.aload_n 0, 1) := by decide +kernel
theorem dX6_told_23 : decode cX6_told 23 = .ok (.aload_n 0, 1) := by decide +kernel
theorem dX6_told_24 : decode cX6_told 24 = .ok (.getfield 43, 3) := by decide +kernel
theorem dX6_told_27 : decode cX6_told 27 = .ok (.iload_n 1, 1) := by decide +kernel
theorem dX6_told_28 : decode cX6_told 28 = .ok (.iload_n 2, 1) := by decide +kernel
theorem dX6_told_29 : decode cX6_told 29 = .ok (.invokevirtual 174, 3) := by decide +kernel
theorem dX6_told_32 : decode cX6_told 32 = .ok (.putfield 64, 3) := by decide +kernel
theorem dX6_told_35 : decode cX6_told 35 = .ok (.iconst 1, 1) := by decide +kernel
theorem dX6_told_36 : decode cX6_told 36 = .ok (.ireturn, 1) := by decide +kernel
theorem dX6_mark_0 : decode cX6_mark 0 = .ok (.aload_n 0, 1) := by decide +kernel
theorem dX6_mark_1 : decode cX6_mark 1 = .ok (.getfield 43, 3) := by decide +kernel
theorem dX6_mark_4 : decode cX6_mark 4 = .ok (.iload_n 1, 1) := by decide +kernel
theorem dX6_mark_5 : decode cX6_mark 5 = .ok (.invokevirtual 161, 3) := by decide +kernel
theorem dX6_mark_8 : decode cX6_mark 8 = .ok (.ifCond .eq 14, 3) := by decide +kernel
theorem dX6_mark_11 : decode cX6_mark 11 = .ok (.iload_n 2, 1) := by decide +kernel
theorem dX6_mark_12 : decode cX6_mark 12 = .ok (.iconst 1, 1) := by decide +kernel
theorem dX6_mark_13 : decode cX6_mark 13 = .ok (.if_icmp .lt 9, 3) := by decide +kernel
theorem dX6_mark_16 : decode cX6_mark 16 = .ok (.iload_n 2, 1) := by decide +kernel
theorem dX6_mark_17 : decode cX6_mark 17 = .ok (.bipush 6, 2) := by decide +kernel
theorem dX6_mark_19 : decode cX6_mark 19 = .ok (.if_icmp .le 5, 3) := by decide +kernel
theorem dX6_mark_22 : decode cX6_mark 22 = .ok (.iconst (-1), 1) := by decide +kernel
theorem dX6_mark_23 : decode cX6_mark 23 = .ok (.ireturn, 1) := by decide +kernel
theorem dX6_mark_24 : decode cX6_mark 24 = .ok (.aload_n 0, 1) := by decide +kernel
theorem dX6_mark_25 : decode cX6_mark 25 = .ok (.getfield 43, 3) := by decide +kernel
theorem dX6_mark_28 : decode cX6_mark 28 = .ok (.iload_n 1, 1) := by decide +kernel
theorem dX6_mark_29 : decode cX6_mark 29 = .ok (.iload_n 2, 1) := by decide +kernel
theorem dX6_mark_30 : decode cX6_mark 30 = .ok (.invokevirtual 178, 3) := by decide +kernel
theorem dX6_mark_33 : decode cX6_mark 33 = .ok (.ifCond .ne 9, 3) := by decide +kernel
theorem dX6_mark_36 : decode cX6_mark 36 = .ok (.aload_n 0, 1) := by decide +kernel
theorem dX6_mark_37 : decode cX6_mark 37 = .ok (.iconst 3, 1) := by decide +kernel
theorem dX6_mark_38 : decode cX6_mark 38 = .ok (.invokevirtual 88, 3) := by decide +kernel
theorem dX6_mark_41 : decode cX6_mark 41 = .ok (.ireturn, 1) := by decide +kernel
theorem dX6_mark_42 : decode cX6_mark 42 = .ok (.aload_n 0, 1) := by decide +kernel
theorem dX6_mark_43 : decode cX6_mark 43 = .ok (.getfield 43, 3) := by decide +kernel
theorem dX6_mark_46 : decode cX6_mark 46 = .ok (.iload_n 1, 1) := by decide +kernel
theorem dX6_mark_47 : decode cX6_mark 47 = .ok (.iload_n 2, 1) := by decide +kernel
theorem dX6_mark_48 : decode cX6_mark 48 = .ok (.invokevirtual 181, 3) := by decide +kernel
theorem dX6_mark_51 : decode cX6_mark 51 = .ok (.ireturn, 1) := by decide +kernel
theorem dX6_measure_0 : decode cX6_measure 0 = .ok (.iload_n 1, 1) := by decide +kernel
theorem dX6_measure_1 : decode cX6_measure 1 = .ok (.invokestatic 184, 3) := by decide +kernel
theorem dX6_measure_4 : decode cX6_measure 4 = .ok (.ifCond .eq 10, 3) := by decide +kernel
theorem dX6_measure_7 : decode cX6_measure 7 = .ok (.iload_n 2, 1) := by decide +kernel
theorem dX6_measure_8 : decode cX6_measure 8 = .ok (.invokestatic 84, 3) := by decide +kernel
theorem dX6_measure_11 : decode cX6_measure 11 = .ok (.ifCond .ne 5, 3) := by decide +kernel
theorem dX6_measure_14 : decode cX6_measure 14 = .ok (.iconst (-1), 1) := by decide +kernel
theorem dX6_measure_15 : decode cX6_measure 15 = .ok (.ireturn, 1) := by decide +kernel
theorem dX6_measure_16 : decode cX6_measure 16 = .ok (.aload_n 0, 1) := by decide +kernel
theorem dX6_measure_17 : decode cX6_measure 17 = .ok (.iload_n 2, 1) := by decide +kernel
theorem dX6_measure_18 : decode cX6_measure 18 = .ok (.invokevirtual 187, 3) := by decide +kernel
theorem dX6_measure_21 : decode cX6_measure 21 = .ok (.istore_n 3, 1) := by decide +kernel
theorem dX6_measure_22 : decode cX6_measure 22 = .ok (.iload_n 3, 1) := by decide +kernel
theorem dX6_measure_23 : decode cX6_measure 23 = .ok (.ifCond .eq 9, 3) := by decide +kernel
theorem dX6_measure_26 : decode cX6_measure 26 = .ok (.aload_n 0, 1) := by decide +kernel
theorem dX6_measure_27 : decode cX6_measure 27 = .ok (.iload_n 3, 1) := by decide +kernel
theorem dX6_measure_28 : decode cX6_measure 28 = .ok (.invokevirtual 88, 3) := by decide +kernel
theorem dX6_measure_31 : decode cX6_measure 31 = .ok (.ireturn, 1) := by decide +kernel
theorem dX6_measure_32 : decode cX6_measure 32 = .ok (.aload_n 0, 1) := by decide +kernel
theorem dX6_measure_33 : decode cX6_measure 33 = .ok (.getfield 43, 3) := by decide +kernel
theorem dX6_measure_36 : decode cX6_measure 36 = .ok (.iload_n 1, 1) := by decide +kernel
theorem dX6_measure_37 : decode cX6_measure 37 = .ok (.aload_n 0, 1) := by decide +kernel
theorem dX6_measure_38 : decode cX6_measure 38 = .ok (.getfield 11, 3) := by decide +kernel
theorem dX6_measure_41 : decode cX6_measure 41 = .ok (.iload_n 2, 1) := by decide +kernel
theorem dX6_measure_42 : decode cX6_measure 42 = .ok (.aaload, 1) := by decide +kernel
theorem dX6_measure_43 : decode cX6_measure 43 = .ok (.getfield 99, 3) := by decide +kernel
theorem dX6_measure_46 : decode cX6_measure 46 = .ok (.invokevirtual 190, 3) := by decide +kernel
theorem dX6_measure_49 : decode cX6_measure 49 = .ok (.ireturn, 1) := by decide +kernel
theorem dX6_breaks_0 : decode cX6_breaks 0 = .ok (.iload_n 1, 1) := by decide +kernel
theorem dX6_breaks_1 : decode cX6_breaks 1 = .ok (.invokestatic 84, 3) := by decide +kernel
theorem dX6_breaks_4 : decode cX6_breaks 4 = .ok (.ifCond .ne 5, 3) := by decide +kernel
theorem dX6_breaks_7 : decode cX6_breaks 7 = .ok (.iconst (-1), 1) := by decide +kernel
theorem dX6_breaks_8 : decode cX6_breaks 8 = .ok (.ireturn, 1) := by decide +kernel
theorem dX6_breaks_9 : decode cX6_breaks 9 = .ok (.aload_n 0, 1) := by decide +kernel
theorem dX6_breaks_10 : decode cX6_breaks 10 = .ok (.iload_n 1, 1) := by decide +kernel
theorem dX6_breaks_11 : decode cX6_breaks 11 = .ok (.invokevirtual 187, 3) := by decide +kernel
theorem dX6_breaks_14 : decode cX6_breaks 14 = .ok (.istore_n 2, 1) := by decide +kernel
theorem dX6_breaks_15 : decode cX6_breaks 15 = .ok (.iload_n 2, 1) := by decide +kernel
theorem dX6_breaks_16 : decode cX6_breaks 16 = .ok (.ifCond .eq 9, 3) := by decide +kernel
theorem dX6_breaks_19 : decode cX6_breaks 19 = .ok (.aload_n 0, 1) := by decide +kernel
theorem dX6_breaks_20 : decode cX6_breaks 20 = .ok (.iload_n 2, 1) := by decide +kernel
theorem dX6_breaks_21 : decode cX6_breaks 21 = .ok (.invokevirtual 88, 3) := by decide +kernel
theorem dX6_breaks_24 : decode cX6_breaks 24 = .ok (.ireturn, 1) := by decide +kernel
theorem dX6_breaks_25 : decode cX6_breaks 25 = .ok (.aload_n 0, 1) := by decide +kernel
theorem dX6_breaks_26 : decode cX6_breaks 26 = .ok (.getfield 43, 3) := by decide +kernel
theorem dX6_breaks_29 : decode cX6_breaks 29 = .ok (.aload_n 0, 1) := by decide +kernel
theorem dX6_breaks_30 : decode cX6_breaks 30 = .ok (.getfield 11, 3) := by decide +kernel
theorem dX6_breaks_33 : decode cX6_breaks 33 = .ok (.iload_n 1, 1) := by decide +kernel
theorem dX6_breaks_34 : decode cX6_breaks 34 = .ok (.aaload, 1) := by decide +kernel
theorem dX6_breaks_35 : decode cX6_breaks 35 = .ok (.getfield 99, 3) := by decide +kernel
theorem dX6_breaks_38 : decode cX6_breaks 38 = .ok (.invokevirtual 194, 3) := by decide +kernel
theorem dX6_breaks_41 : decode cX6_breaks 41 = .ok (.ireturn, 1) := by decide +kernel
theorem dX6_gap_0 : decode cX6_gap 0 = .ok (.iload_n 1, 1) := by decide +kernel
theorem dX6_gap_1 : decode cX6_gap 1 = .ok (.invokestatic 84, 3) := by decide +kernel
theorem dX6_gap_4 : decode cX6_gap 4 = .ok (.ifCond .eq 13, 3) := by decide +kernel
theorem dX6_gap_7 : decode cX6_gap 7 = .ok (.iload_n 2, 1) := by decide +kernel
theorem dX6_gap_8 : decode cX6_gap 8 = .ok (.ifCond .lt 9, 3) := by decide +kernel
theorem dX6_gap_11 : decode cX6_gap 11 = .ok (.iload_n 2, 1) := by decide +kernel
theorem dX6_gap_12 : decode cX6_gap 12 = .ok (.bipush 8, 2) := by decide +kernel
theorem dX6_gap_14 : decode cX6_gap 14 = .ok (.if_icmp .le 5, 3) := by decide +kernel
theorem dX6_gap_17 : decode cX6_gap 17 = .ok (.iconst (-1), 1) := by decide +kernel
theorem dX6_gap_18 : decode cX6_gap 18 = .ok (.ireturn, 1) := by decide +kernel
theorem dX6_gap_19 : decode cX6_gap 19 = .ok (.aload_n 0, 1) := by decide +kernel
theorem dX6_gap_20 : decode cX6_gap 20 = .ok (.iload_n 1, 1) := by decide +kernel
theorem dX6_gap_21 : decode cX6_gap 21 = .ok (.invokevirtual 187, 3) := by decide +kernel
theorem dX6_gap_24 : decode cX6_gap 24 = .ok (.istore_n 3, 1) := by decide +kernel
theorem dX6_gap_25 : decode cX6_gap 25 = .ok (.iload_n 3, 1) := by decide +kernel
theorem dX6_gap_26 : decode cX6_gap 26 = .ok (.ifCond .ne 18, 3) := by decide +kernel
theorem dX6_gap_29 : decode cX6_gap 29 = .ok (.iload_n 2, 1) := by decide +kernel
theorem dX6_gap_30 : decode cX6_gap 30 = .ok (.aload_n 0, 1) := by decide +kernel
theorem dX6_gap_31 : decode cX6_gap 31 = .ok (.getfield 43, 3) := by decide +kernel
theorem dX6_gap_34 : decode cX6_gap 34 = .ok (.getfield 136, 3) := by decide +kernel
theorem dX6_gap_37 : decode cX6_gap 37 = .ok (.iconst 2, 1) := by decide +kernel
theorem dX6_gap_38 : decode cX6_gap 38 = .ok (.isub, 1) := by decide +kernel
theorem dX6_gap_39 : decode cX6_gap 39 = .ok (.if_icmp .le 5, 3) := by decide +kernel
theorem dX6_gap_42 : decode cX6_gap 42 = .ok (.iconst 2, 1) := by decide +kernel
theorem dX6_gap_43 : decode cX6_gap 43 = .ok (.istore_n 3, 1) := by decide +kernel
theorem dX6_gap_44 : decode cX6_gap 44 = .ok (.iload_n 3, 1) := by decide +kernel
theorem dX6_gap_45 : decode cX6_gap 45 = .ok (.ifCond .eq 9, 3) := by decide +kernel
theorem dX6_gap_48 : decode cX6_gap 48 = .ok (.aload_n 0, 1) := by decide +kernel
theorem dX6_gap_49 : decode cX6_gap 49 = .ok (.iload_n 3, 1) := by decide +kernel
theorem dX6_gap_50 : decode cX6_gap 50 = .ok (.invokevirtual 88, 3) := by decide +kernel
theorem dX6_gap_53 : decode cX6_gap 53 = .ok (.ireturn, 1) := by decide +kernel
theorem dX6_gap_54 : decode cX6_gap 54 = .ok (.iconst 0, 1) := by decide +kernel
theorem dX6_gap_55 : decode cX6_gap 55 = .ok (.istore 4, 2) := by decide +kernel
theorem dX6_gap_57 : decode cX6_gap 57 = .ok (.iconst 0, 1) := by decide +kernel
theorem dX6_gap_58 : decode cX6_gap 58 = .ok (.istore 5, 2) := by decide +kernel
theorem dX6_gap_60 : decode cX6_gap 60 = .ok (.iconst 0, 1) := by decide +kernel
theorem dX6_gap_61 : decode cX6_gap 61 = .ok (.istore 6, 2) := by decide +kernel
theorem dX6_gap_63 : decode cX6_gap 63 = .ok (.iload 6, 2) := by decide +kernel
theorem dX6_gap_65 : decode cX6_gap 65 = .ok (.iload_n 2, 1) := by decide +kernel
theorem dX6_gap_66 : decode cX6_gap 66 = .ok (.if_icmp .gt 48, 3) := by decide +kernel
theorem dX6_gap_69 : decode cX6_gap 69 = .ok (.aload_n 0, 1) := by decide +kernel
theorem dX6_gap_70 : decode cX6_gap 70 = .ok (.getfield 11, 3) := by decide +kernel
theorem dX6_gap_73 : decode cX6_gap 73 = .ok (.iload_n 1, 1) := by decide +kernel
theorem dX6_gap_74 : decode cX6_gap 74 = .ok (.aaload, 1) := by decide +kernel
theorem dX6_gap_75 : decode cX6_gap 75 = .ok (.getfield 99, 3) := by decide +kernel
theorem dX6_gap_78 : decode cX6_gap 78 = .ok (.iload 6, 2) := by decide +kernel
theorem dX6_gap_80 : decode cX6_gap 80 = .ok (.iaload, 1) := by decide +kernel
theorem dX6_gap_81 : decode cX6_gap 81 = .ok (.istore 7, 2) := by decide +kernel
theorem dX6_gap_83 : decode cX6_gap 83 = .ok (.iload 5, 2) := by decide +kernel
theorem dX6_gap_85 : decode cX6_gap 85 = .ok (.aload_n 0, 1) := by decide +kernel
theorem dX6_gap_86 : decode cX6_gap 86 = .ok (.getfield 43, 3) := by decide +kernel
theorem dX6_gap_89 : decode cX6_gap 89 = .ok (.iload 7, 2) := by decide +kernel
theorem dX6_gap_91 : decode cX6_gap 91 = .ok (.iload 4, 2) := by decide +kernel
theorem dX6_gap_93 : decode cX6_gap 93 = .ok (.invokevirtual 198, 3) := by decide +kernel
theorem dX6_gap_96 : decode cX6_gap 96 = .ok (.iadd, 1) := by decide +kernel
theorem dX6_gap_97 : decode cX6_gap 97 = .ok (.istore 5, 2) := by decide +kernel
theorem dX6_gap_99 : decode cX6_gap 99 = .ok (.iload 4, 2) := by decide +kernel
theorem dX6_gap_101 : decode cX6_gap 101 = .ok (.iconst 1, 1) := by decide +kernel
theorem dX6_gap_102 : decode cX6_gap 102 = .ok (.iload 7, 2) := by decide +kernel
theorem dX6_gap_104 : decode cX6_gap 104 = .ok (.ishl, 1) := by decide +kernel
theorem dX6_gap_105 : decode cX6_gap 105 = .ok (.ior, 1) := by decide +kernel
theorem dX6_gap_106 : decode cX6_gap 106 = .ok (.istore 4, 2) := by decide +kernel
theorem dX6_gap_108 : decode cX6_gap 108 = .ok (.iinc 6 1, 3) := by decide +kernel
theorem dX6_gap_111 : decode cX6_gap 111 = .ok (.goto (-48), 3) := by decide +kernel
theorem dX6_gap_114 : decode cX6_gap 114 = .ok (.aload_n 0, 1) := by decide +kernel
theorem dX6_gap_115 : decode cX6_gap 115 = .ok (.aload_n 0, 1) := by decide +kernel
theorem dX6_gap_116 : decode cX6_gap 116 = .ok (.getfield 43, 3) := by decide +kernel
theorem dX6_gap_119 : decode cX6_gap 119 = .ok (.iload 4, 2) := by decide +kernel
theorem dX6_gap_121 : decode cX6_gap 121 = .ok (.invokevirtual 201, 3) := by decide +kernel
theorem dX6_gap_124 : decode cX6_gap 124 = .ok (.putfield 64, 3) := by decide +kernel
theorem dX6_gap_127 : decode cX6_gap 127 = .ok (.iload 5, 2) := by decide +kernel
theorem dX6_gap_129 : decode cX6_gap 129 = .ok (.ireturn, 1) := by decide +kernel
theorem dX6_least_0 : decode cX6_least 0 = .ok (.iload_n 1, 1) := by decide +kernel
theorem dX6_least_1 : decode cX6_least 1 = .ok (.invokestatic 184, 3) := by decide +kernel
theorem dX6_least_4 : decode cX6_least 4 = .ok (.ifCond .ne 5, 3) := by decide +kernel
theorem dX6_least_7 : decode cX6_least 7 = .ok (.iconst (-1), 1) := by decide +kernel
theorem dX6_least_8 : decode cX6_least 8 = .ok (.ireturn, 1) := by decide +kernel
theorem dX6_least_9 : decode cX6_least 9 = .ok (.aload_n 0, 1) := by decide +kernel
theorem dX6_least_10 : decode cX6_least 10 = .ok (.iload_n 1, 1) := by decide +kernel
theorem dX6_least_11 : decode cX6_least 11 = .ok (.invokevirtual 204, 3) := by decide +kernel
theorem dX6_least_14 : decode cX6_least 14 = .ok (.astore_n 2, 1) := by decide +kernel
theorem dX6_least_15 : decode cX6_least 15 = .ok (.aload_n 2, 1) := by decide +kernel
theorem dX6_least_16 : decode cX6_least 16 = .ok (.ifnonnull 11, 3) := by decide +kernel
theorem dX6_least_19 : decode cX6_least 19 = .ok (.aload_n 0, 1) := by decide +kernel
theorem dX6_least_20 : decode cX6_least 20 = .ok (.iload_n 1, 1) := by decide +kernel
theorem dX6_least_21 : decode cX6_least 21 = .ok (.invokevirtual 208, 3) := by decide +kernel
theorem dX6_least_24 : decode cX6_least 24 = .ok (.goto 7, 3) := by decide +kernel
theorem dX6_least_27 : decode cX6_least 27 = .ok (.aload_n 2, 1) := by decide +kernel
theorem dX6_least_28 : decode cX6_least 28 = .ok (.invokevirtual 211, 3) := by decide +kernel
theorem dX6_least_31 : decode cX6_least 31 = .ok (.ireturn, 1) := by decide +kernel
theorem dX6_first_0 : decode cX6_first 0 = .ok (.iload_n 1, 1) := by decide +kernel
theorem dX6_first_1 : decode cX6_first 1 = .ok (.invokestatic 184, 3) := by decide +kernel
theorem dX6_first_4 : decode cX6_first 4 = .ok (.ifCond .eq 10, 3) := by decide +kernel
theorem dX6_first_7 : decode cX6_first 7 = .ok (.iload_n 2, 1) := by decide +kernel
theorem dX6_first_8 : decode cX6_first 8 = .ok (.invokestatic 84, 3) := by decide +kernel
theorem dX6_first_11 : decode cX6_first 11 = .ok (.ifCond .ne 5, 3) := by decide +kernel
theorem dX6_first_14 : decode cX6_first 14 = .ok (.iconst (-1), 1) := by decide +kernel
theorem dX6_first_15 : decode cX6_first 15 = .ok (.ireturn, 1) := by decide +kernel
theorem dX6_first_16 : decode cX6_first 16 = .ok (.aload_n 0, 1) := by decide +kernel
theorem dX6_first_17 : decode cX6_first 17 = .ok (.iload_n 1, 1) := by decide +kernel
theorem dX6_first_18 : decode cX6_first 18 = .ok (.invokevirtual 204, 3) := by decide +kernel
theorem dX6_first_21 : decode cX6_first 21 = .ok (.astore_n 3, 1) := by decide +kernel
theorem dX6_first_22 : decode cX6_first 22 = .ok (.aload_n 3, 1) := by decide +kernel
theorem dX6_first_23 : decode cX6_first 23 = .ok (.ifnonnull 9, 3) := by decide +kernel
theorem dX6_first_26 : decode cX6_first 26 = .ok (.aload_n 0, 1) := by decide +kernel
theorem dX6_first_27 : decode cX6_first 27 = .ok (.iload_n 1, 1) := by decide +kernel
theorem dX6_first_28 : decode cX6_first 28 = .ok (.invokevirtual 208, 3) := by decide +kernel
theorem dX6_first_31 : decode cX6_first 31 = .ok (.ireturn, 1) := by decide +kernel
theorem dX6_first_32 : decode cX6_first 32 = .ok (.aload_n 3, 1) := by decide +kernel
theorem dX6_first_33 : decode cX6_first 33 = .ok (.iconst 0, 1) := by decide +kernel
theorem dX6_first_34 : decode cX6_first 34 = .ok (.aload_n 0, 1) := by decide +kernel
theorem dX6_first_35 : decode cX6_first 35 = .ok (.getfield 51, 3) := by decide +kernel
theorem dX6_first_38 : decode cX6_first 38 = .ok (.invokevirtual 217, 3) := by decide +kernel
theorem dX6_first_41 : decode cX6_first 41 = .ok (.aload_n 0, 1) := by decide +kernel
theorem dX6_first_42 : decode cX6_first 42 = .ok (.iload_n 2, 1) := by decide +kernel
theorem dX6_first_43 : decode cX6_first 43 = .ok (.aload_n 0, 1) := by decide +kernel
theorem dX6_first_44 : decode cX6_first 44 = .ok (.getfield 51, 3) := by decide +kernel
theorem dX6_first_47 : decode cX6_first 47 = .ok (.invokevirtual 221, 3) := by decide +kernel
theorem dX6_first_50 : decode cX6_first 50 = .ok (.aload_n 3, 1) := by decide +kernel
theorem dX6_first_51 : decode cX6_first 51 = .ok (.invokevirtual 211, 3) := by decide +kernel
theorem dX6_first_54 : decode cX6_first 54 = .ok (.ireturn, 1) := by decide +kernel
theorem dX6_ways_0 : decode cX6_ways 0 = .ok (.iload_n 1, 1) := by decide +kernel
theorem dX6_ways_1 : decode cX6_ways 1 = .ok (.invokestatic 184, 3) := by decide +kernel
theorem dX6_ways_4 : decode cX6_ways 4 = .ok (.ifCond .ne 5, 3) := by decide +kernel
theorem dX6_ways_7 : decode cX6_ways 7 = .ok (.iconst (-1), 1) := by decide +kernel
theorem dX6_ways_8 : decode cX6_ways 8 = .ok (.ireturn, 1) := by decide +kernel
theorem dX6_ways_9 : decode cX6_ways 9 = .ok (.aload_n 0, 1) := by decide +kernel
theorem dX6_ways_10 : decode cX6_ways 10 = .ok (.iload_n 1, 1) := by decide +kernel
theorem dX6_ways_11 : decode cX6_ways 11 = .ok (.invokevirtual 224, 3) := by decide +kernel
theorem dX6_ways_14 : decode cX6_ways 14 = .ok (.ifCond .eq 6, 3) := by decide +kernel
theorem dX6_ways_17 : decode cX6_ways 17 = .ok (.bipush (-6), 2) := by decide +kernel
theorem dX6_ways_19 : decode cX6_ways 19 = .ok (.ireturn, 1) := by decide +kernel
theorem dX6_ways_20 : decode cX6_ways 20 = .ok (.aload_n 0, 1) := by decide +kernel
theorem dX6_ways_21 : decode cX6_ways 21 = .ok (.iload_n 1, 1) := by decide +kernel
theorem dX6_ways_22 : decode cX6_ways 22 = .ok (.invokevirtual 204, 3) := by decide +kernel
theorem dX6_ways_25 : decode cX6_ways 25 = .ok (.astore_n 2, 1) := by decide +kernel
theorem dX6_ways_26 : decode cX6_ways 26 = .ok (.aload_n 2, 1) := by decide +kernel
theorem dX6_ways_27 : decode cX6_ways 27 = .ok (.ifnonnull 7, 3) := by decide +kernel
theorem dX6_ways_30 : decode cX6_ways 30 = .ok (.iconst 0, 1) := by decide +kernel
theorem dX6_ways_31 : decode cX6_ways 31 = .ok (.goto 7, 3) := by decide +kernel
theorem dX6_ways_34 : decode cX6_ways 34 = .ok (.aload_n 2, 1) := by decide +kernel
theorem dX6_ways_35 : decode cX6_ways 35 = .ok (.invokevirtual 227, 3) := by decide +kernel
theorem dX6_ways_38 : decode cX6_ways 38 = .ok (.ireturn, 1) := by decide +kernel
theorem dX6_rank_0 : decode cX6_rank 0 = .ok (.iload_n 1, 1) := by decide +kernel
theorem dX6_rank_1 : decode cX6_rank 1 = .ok (.invokestatic 184, 3) := by decide +kernel
theorem dX6_rank_4 : decode cX6_rank 4 = .ok (.ifCond .eq 10, 3) := by decide +kernel
theorem dX6_rank_7 : decode cX6_rank 7 = .ok (.iload_n 2, 1) := by decide +kernel
theorem dX6_rank_8 : decode cX6_rank 8 = .ok (.invokestatic 84, 3) := by decide +kernel
theorem dX6_rank_11 : decode cX6_rank 11 = .ok (.ifCond .ne 5, 3) := by decide +kernel
theorem dX6_rank_14 : decode cX6_rank 14 = .ok (.iconst (-1), 1) := by decide +kernel
theorem dX6_rank_15 : decode cX6_rank 15 = .ok (.ireturn, 1) := by decide +kernel
theorem dX6_rank_16 : decode cX6_rank 16 = .ok (.aload_n 0, 1) := by decide +kernel
theorem dX6_rank_17 : decode cX6_rank 17 = .ok (.iload_n 2, 1) := by decide +kernel
theorem dX6_rank_18 : decode cX6_rank 18 = .ok (.invokevirtual 187, 3) := by decide +kernel
theorem dX6_rank_21 : decode cX6_rank 21 = .ok (.istore_n 3, 1) := by decide +kernel
theorem dX6_rank_22 : decode cX6_rank 22 = .ok (.iload_n 3, 1) := by decide +kernel
theorem dX6_rank_23 : decode cX6_rank 23 = .ok (.ifCond .eq 9, 3) := by decide +kernel
theorem dX6_rank_26 : decode cX6_rank 26 = .ok (.aload_n 0, 1) := by decide +kernel
theorem dX6_rank_27 : decode cX6_rank 27 = .ok (.iload_n 3, 1) := by decide +kernel
theorem dX6_rank_28 : decode cX6_rank 28 = .ok (.invokevirtual 88, 3) := by decide +kernel
theorem dX6_rank_31 : decode cX6_rank 31 = .ok (.ireturn, 1) := by decide +kernel
theorem dX6_rank_32 : decode cX6_rank 32 = .ok (.aload_n 0, 1) := by decide +kernel
theorem dX6_rank_33 : decode cX6_rank 33 = .ok (.iload_n 1, 1) := by decide +kernel
theorem dX6_rank_34 : decode cX6_rank 34 = .ok (.invokevirtual 204, 3) := by decide +kernel
theorem dX6_rank_37 : decode cX6_rank 37 = .ok (.astore 4, 2) := by decide +kernel
theorem dX6_rank_39 : decode cX6_rank 39 = .ok (.aload 4, 2) := by decide +kernel
theorem dX6_rank_41 : decode cX6_rank 41 = .ok (.ifnonnull 11, 3) := by decide +kernel
theorem dX6_rank_44 : decode cX6_rank 44 = .ok (.aload_n 0, 1) := by decide +kernel
theorem dX6_rank_45 : decode cX6_rank 45 = .ok (.iload_n 1, 1) := by decide +kernel
theorem dX6_rank_46 : decode cX6_rank 46 = .ok (.invokevirtual 208, 3) := by decide +kernel
theorem dX6_rank_49 : decode cX6_rank 49 = .ok (.goto 17, 3) := by decide +kernel
theorem dX6_rank_52 : decode cX6_rank 52 = .ok (.aload 4, 2) := by decide +kernel
theorem dX6_rank_54 : decode cX6_rank 54 = .ok (.aload_n 0, 1) := by decide +kernel
theorem dX6_rank_55 : decode cX6_rank 55 = .ok (.getfield 11, 3) := by decide +kernel
theorem dX6_rank_58 : decode cX6_rank 58 = .ok (.iload_n 2, 1) := by decide +kernel
theorem dX6_rank_59 : decode cX6_rank 59 = .ok (.aaload, 1) := by decide +kernel
theorem dX6_rank_60 : decode cX6_rank 60 = .ok (.getfield 99, 3) := by decide +kernel
theorem dX6_rank_63 : decode cX6_rank 63 = .ok (.invokevirtual 230, 3) := by decide +kernel
theorem dX6_rank_66 : decode cX6_rank 66 = .ok (.ireturn, 1) := by decide +kernel
theorem dX6_order_0 : decode cX6_order 0 = .ok (.iload_n 1, 1) := by decide +kernel
theorem dX6_order_1 : decode cX6_order 1 = .ok (.invokestatic 184, 3) := by decide +kernel
theorem dX6_order_4 : decode cX6_order 4 = .ok (.ifCond .eq 14, 3) := by decide +kernel
theorem dX6_order_7 : decode cX6_order 7 = .ok (.iload_n 2, 1) := by decide +kernel
theorem dX6_order_8 : decode cX6_order 8 = .ok (.ifCond .lt 10, 3) := by decide +kernel
theorem dX6_order_11 : decode cX6_order 11 = .ok (.iload_n 3, 1) := by decide +kernel
theorem dX6_order_12 : decode cX6_order 12 = .ok (.invokestatic 84, 3) := by decide +kernel
theorem dX6_order_15 : decode cX6_order 15 = .ok (.ifCond .ne 5, 3) := by decide +kernel
theorem dX6_order_18 : decode cX6_order 18 = .ok (.iconst (-1), 1) := by decide +kernel
theorem dX6_order_19 : decode cX6_order 19 = .ok (.ireturn, 1) := by decide +kernel
theorem dX6_order_20 : decode cX6_order 20 = .ok (.aload_n 0, 1) := by decide +kernel
theorem dX6_order_21 : decode cX6_order 21 = .ok (.iload_n 1, 1) := by decide +kernel
theorem dX6_order_22 : decode cX6_order 22 = .ok (.invokevirtual 204, 3) := by decide +kernel
theorem dX6_order_25 : decode cX6_order 25 = .ok (.astore 4, 2) := by decide +kernel
theorem dX6_order_27 : decode cX6_order 27 = .ok (.aload 4, 2) := by decide +kernel
theorem dX6_order_29 : decode cX6_order 29 = .ok (.ifnonnull 9, 3) := by decide +kernel
theorem dX6_order_32 : decode cX6_order 32 = .ok (.aload_n 0, 1) := by decide +kernel
theorem dX6_order_33 : decode cX6_order 33 = .ok (.iload_n 1, 1) := by decide +kernel
theorem dX6_order_34 : decode cX6_order 34 = .ok (.invokevirtual 208, 3) := by decide +kernel
theorem dX6_order_37 : decode cX6_order 37 = .ok (.ireturn, 1) := by decide +kernel
theorem dX6_order_38 : decode cX6_order 38 = .ok (.iload_n 2, 1) := by decide +kernel
theorem dX6_order_39 : decode cX6_order 39 = .ok (.aload 4, 2) := by decide +kernel
theorem dX6_order_41 : decode cX6_order 41 = .ok (.invokevirtual 227, 3) := by decide +kernel
theorem dX6_order_44 : decode cX6_order 44 = .ok (.if_icmp .lt 9, 3) := by decide +kernel
theorem dX6_order_47 : decode cX6_order 47 = .ok (.aload_n 0, 1) := by decide +kernel
theorem dX6_order_48 : decode cX6_order 48 = .ok (.iconst 2, 1) := by decide +kernel
theorem dX6_order_49 : decode cX6_order 49 = .ok (.invokevirtual 88, 3) := by decide +kernel
theorem dX6_order_52 : decode cX6_order 52 = .ok (.ireturn, 1) := by decide +kernel
theorem dX6_order_53 : decode cX6_order 53 = .ok (.aload 4, 2) := by decide +kernel
theorem dX6_order_55 : decode cX6_order 55 = .ok (.iload_n 2, 1) := by decide +kernel
theorem dX6_order_56 : decode cX6_order 56 = .ok (.aload_n 0, 1) := by decide +kernel
theorem dX6_order_57 : decode cX6_order 57 = .ok (.getfield 51, 3) := by decide +kernel
theorem dX6_order_60 : decode cX6_order 60 = .ok (.invokevirtual 217, 3) := by decide +kernel
theorem dX6_order_63 : decode cX6_order 63 = .ok (.aload_n 0, 1) := by decide +kernel
theorem dX6_order_64 : decode cX6_order 64 = .ok (.iload_n 3, 1) := by decide +kernel
theorem dX6_order_65 : decode cX6_order 65 = .ok (.aload_n 0, 1) := by decide +kernel
theorem dX6_order_66 : decode cX6_order 66 = .ok (.getfield 51, 3) := by decide +kernel
theorem dX6_order_69 : decode cX6_order 69 = .ok (.invokevirtual 221, 3) := by decide +kernel
theorem dX6_order_72 : decode cX6_order 72 = .ok (.iconst 1, 1) := by decide +kernel
theorem dX6_order_73 : decode cX6_order 73 = .ok (.ireturn, 1) := by decide +kernel
theorem dX6_all_0 : decode cX6_all 0 = .ok (.aload_n 0, 1) := by decide +kernel
theorem dX6_all_1 : decode cX6_all 1 = .ok (.iconst 5, 1) := by decide +kernel
theorem dX6_all_2 : decode cX6_all 2 = .ok (.invokevirtual 204, 3) := by decide +kernel
theorem dX6_all_5 : decode cX6_all 5 = .ok (.astore_n 1, 1) := by decide +kernel
theorem dX6_all_6 : decode cX6_all 6 = .ok (.aload_n 1, 1) := by decide +kernel
theorem dX6_all_7 : decode cX6_all 7 = .ok (.ifnonnull 7, 3) := by decide +kernel
theorem dX6_all_10 : decode cX6_all 10 = .ok (.iconst 0, 1) := by decide +kernel
theorem dX6_all_11 : decode cX6_all 11 = .ok (.goto 7, 3) := by decide +kernel
theorem dX6_all_14 : decode cX6_all 14 = .ok (.aload_n 1, 1) := by decide +kernel
theorem dX6_all_15 : decode cX6_all 15 = .ok (.invokevirtual 227, 3) := by decide +kernel
theorem dX6_all_18 : decode cX6_all 18 = .ok (.ireturn, 1) := by decide +kernel
theorem dX6_bound_0 : decode cX6_bound 0 = .ok (.iload_n 1, 1) := by decide +kernel
theorem dX6_bound_1 : decode cX6_bound 1 = .ok (.invokestatic 184, 3) := by decide +kernel
theorem dX6_bound_4 : decode cX6_bound 4 = .ok (.ifCond .ne 5, 3) := by decide +kernel
theorem dX6_bound_7 : decode cX6_bound 7 = .ok (.iconst (-1), 1) := by decide +kernel
theorem dX6_bound_8 : decode cX6_bound 8 = .ok (.ireturn, 1) := by decide +kernel
theorem dX6_bound_9 : decode cX6_bound 9 = .ok (.aload_n 0, 1) := by decide +kernel
theorem dX6_bound_10 : decode cX6_bound 10 = .ok (.getfield 43, 3) := by decide +kernel
theorem dX6_bound_13 : decode cX6_bound 13 = .ok (.iload_n 1, 1) := by decide +kernel
theorem dX6_bound_14 : decode cX6_bound 14 = .ok (.invokevirtual 233, 3) := by decide +kernel
theorem dX6_bound_17 : decode cX6_bound 17 = .ok (.ireturn, 1) := by decide +kernel
theorem dX6_costs_0 : decode cX6_costs 0 = .ok (.iload_n 1, 1) := by decide +kernel
theorem dX6_costs_1 : decode cX6_costs 1 = .ok (.invokestatic 184, 3) := by decide +kernel
theorem dX6_costs_4 : decode cX6_costs 4 = .ok (.ifCond .eq 15, 3) := by decide +kernel
theorem dX6_costs_7 : decode cX6_costs 7 = .ok (.aload_n 0, 1) := by decide +kernel
theorem dX6_costs_8 : decode cX6_costs 8 = .ok (.getfield 43, 3) := by decide +kernel
theorem dX6_costs_11 : decode cX6_costs 11 = .ok (.iload_n 2, 1) := by decide +kernel
theorem dX6_costs_12 : decode cX6_costs 12 = .ok (.iload_n 3, 1) := by decide +kernel
theorem dX6_costs_13 : decode cX6_costs 13 = .ok (.invokevirtual 139, 3) := by decide +kernel
theorem dX6_costs_16 : decode cX6_costs 16 = .ok (.ifCond .ne 5, 3) := by decide +kernel
theorem dX6_costs_19 : decode cX6_costs 19 = .ok (.iconst (-1), 1) := by decide +kernel
theorem dX6_costs_20 : decode cX6_costs 20 = .ok (.ireturn, 1) := by decide +kernel
theorem dX6_costs_21 : decode cX6_costs 21 = .ok (.aload_n 0, 1) := by decide +kernel
theorem dX6_costs_22 : decode cX6_costs 22 = .ok (.iload_n 1, 1) := by decide +kernel
theorem dX6_costs_23 : decode cX6_costs 23 = .ok (.invokevirtual 204, 3) := by decide +kernel
theorem dX6_costs_26 : decode cX6_costs 26 = .ok (.astore 4, 2) := by decide +kernel
theorem dX6_costs_28 : decode cX6_costs 28 = .ok (.aload 4, 2) := by decide +kernel
theorem dX6_costs_30 : decode cX6_costs 30 = .ok (.ifnonnull 9, 3) := by decide +kernel
theorem dX6_costs_33 : decode cX6_costs 33 = .ok (.aload_n 0, 1) := by decide +kernel
theorem dX6_costs_34 : decode cX6_costs 34 = .ok (.iload_n 1, 1) := by decide +kernel
theorem dX6_costs_35 : decode cX6_costs 35 = .ok (.invokevirtual 208, 3) := by decide +kernel
theorem dX6_costs_38 : decode cX6_costs 38 = .ok (.ireturn, 1) := by decide +kernel
theorem dX6_costs_39 : decode cX6_costs 39 = .ok (.aload_n 0, 1) := by decide +kernel
theorem dX6_costs_40 : decode cX6_costs 40 = .ok (.getfield 43, 3) := by decide +kernel
theorem dX6_costs_43 : decode cX6_costs 43 = .ok (.getfield 142, 3) := by decide +kernel
theorem dX6_costs_46 : decode cX6_costs 46 = .ok (.iload_n 2, 1) := by decide +kernel
theorem dX6_costs_47 : decode cX6_costs 47 = .ok (.aaload, 1) := by decide +kernel
theorem dX6_costs_48 : decode cX6_costs 48 = .ok (.iload_n 3, 1) := by decide +kernel
theorem dX6_costs_49 : decode cX6_costs 49 = .ok (.iaload, 1) := by decide +kernel
theorem dX6_costs_50 : decode cX6_costs 50 = .ok (.istore 5, 2) := by decide +kernel
theorem dX6_costs_52 : decode cX6_costs 52 = .ok (.iload 5, 2) := by decide +kernel
theorem dX6_costs_54 : decode cX6_costs 54 = .ok (.ifCond .ne 5, 3) := by decide +kernel
theorem dX6_costs_57 : decode cX6_costs 57 = .ok (.iconst 0, 1) := by decide +kernel
theorem dX6_costs_58 : decode cX6_costs 58 = .ok (.ireturn, 1) := by decide +kernel
theorem dX6_costs_59 : decode cX6_costs 59 = .ok (.aload 4, 2) := by decide +kernel
theorem dX6_costs_61 : decode cX6_costs 61 = .ok (.invokevirtual 211, 3) := by decide +kernel
theorem dX6_costs_64 : decode cX6_costs 64 = .ok (.istore 6, 2) := by decide +kernel
theorem dX6_costs_66 : decode cX6_costs 66 = .ok (.aload_n 0, 1) := by decide +kernel
theorem dX6_costs_67 : decode cX6_costs 67 = .ok (.getfield 43, 3) := by decide +kernel
theorem dX6_costs_70 : decode cX6_costs 70 = .ok (.iload_n 2, 1) := by decide +kernel
theorem dX6_costs_71 : decode cX6_costs 71 = .ok (.iload_n 3, 1) := by decide +kernel
theorem dX6_costs_72 : decode cX6_costs 72 = .ok (.iconst 0, 1) := by decide +kernel
theorem dX6_costs_73 : decode cX6_costs 73 = .ok (.invokevirtual 146, 3) := by decide +kernel
theorem dX6_costs_76 : decode cX6_costs 76 = .ok (.aload_n 0, 1) := by decide +kernel
theorem dX6_costs_77 : decode cX6_costs 77 = .ok (.invokevirtual 133, 3) := by decide +kernel
theorem dX6_costs_80 : decode cX6_costs 80 = .ok (.aload_n 0, 1) := by decide +kernel
theorem dX6_costs_81 : decode cX6_costs 81 = .ok (.iload_n 1, 1) := by decide +kernel
theorem dX6_costs_82 : decode cX6_costs 82 = .ok (.invokevirtual 204, 3) := by decide +kernel
theorem dX6_costs_85 : decode cX6_costs 85 = .ok (.iload 6, 2) := by decide +kernel
theorem dX6_costs_87 : decode cX6_costs 87 = .ok (.invokestatic 236, 3) := by decide +kernel
theorem dX6_costs_90 : decode cX6_costs 90 = .ok (.istore 7, 2) := by decide +kernel
theorem dX6_costs_92 : decode cX6_costs 92 = .ok (.aload_n 0, 1) := by decide +kernel
theorem dX6_costs_93 : decode cX6_costs 93 = .ok (.getfield 43, 3) := by decide +kernel
theorem dX6_costs_96 : decode cX6_costs 96 = .ok (.iload_n 2, 1) := by decide +kernel
theorem dX6_costs_97 : decode cX6_costs 97 = .ok (.iload_n 3, 1) := by decide +kernel
theorem dX6_costs_98 : decode cX6_costs 98 = .ok (.iload 5, 2) := by decide +kernel
theorem dX6_costs_100 : decode cX6_costs 100 = .ok (.invokevirtual 146, 3) := by decide +kernel
theorem dX6_costs_103 : decode cX6_costs 103 = .ok (.aload_n 0, 1) := by decide +kernel
theorem dX6_costs_104 : decode cX6_costs 104 = .ok (.invokevirtual 133, 3) := by decide +kernel
theorem dX6_costs_107 : decode cX6_costs 107 = .ok (.iload 6, 2) := by decide +kernel
theorem dX6_costs_109 : decode cX6_costs 109 = .ok (.iload 7, 2) := by decide +kernel
theorem dX6_costs_111 : decode cX6_costs 111 = .ok (.isub, 1) := by decide +kernel
theorem dX6_costs_112 : decode cX6_costs 112 = .ok (.ireturn, 1) := by decide +kernel
theorem dX6_bars_0 : decode cX6_bars 0 = .ok (.iload_n 1, 1) := by decide +kernel
theorem dX6_bars_1 : decode cX6_bars 1 = .ok (.invokestatic 184, 3) := by decide +kernel
theorem dX6_bars_4 : decode cX6_bars 4 = .ok (.ifCond .eq 14, 3) := by decide +kernel
theorem dX6_bars_7 : decode cX6_bars 7 = .ok (.aload_n 0, 1) := by decide +kernel
theorem dX6_bars_8 : decode cX6_bars 8 = .ok (.getfield 43, 3) := by decide +kernel
theorem dX6_bars_11 : decode cX6_bars 11 = .ok (.iload_n 2, 1) := by decide +kernel
theorem dX6_bars_12 : decode cX6_bars 12 = .ok (.invokevirtual 161, 3) := by decide +kernel
theorem dX6_bars_15 : decode cX6_bars 15 = .ok (.ifCond .ne 5, 3) := by decide +kernel
theorem dX6_bars_18 : decode cX6_bars 18 = .ok (.iconst (-1), 1) := by decide +kernel
theorem dX6_bars_19 : decode cX6_bars 19 = .ok (.ireturn, 1) := by decide +kernel
theorem dX6_bars_20 : decode cX6_bars 20 = .ok (.aload_n 0, 1) := by decide +kernel
theorem dX6_bars_21 : decode cX6_bars 21 = .ok (.iload_n 1, 1) := by decide +kernel
theorem dX6_bars_22 : decode cX6_bars 22 = .ok (.invokevirtual 204, 3) := by decide +kernel
theorem dX6_bars_25 : decode cX6_bars 25 = .ok (.astore_n 3, 1) := by decide +kernel
theorem dX6_bars_26 : decode cX6_bars 26 = .ok (.aload_n 3, 1) := by decide +kernel
theorem dX6_bars_27 : decode cX6_bars 27 = .ok (.ifnonnull 9, 3) := by decide +kernel
theorem dX6_bars_30 : decode cX6_bars 30 = .ok (.aload_n 0, 1) := by decide +kernel
theorem dX6_bars_31 : decode cX6_bars 31 = .ok (.iload_n 1, 1) := by decide +kernel
theorem dX6_bars_32 : decode cX6_bars 32 = .ok (.invokevirtual 208, 3) := by decide +kernel
theorem dX6_bars_35 : decode cX6_bars 35 = .ok (.ireturn, 1) := by decide +kernel
theorem dX6_bars_36 : decode cX6_bars 36 = .ok (.aload_n 0, 1) := by decide +kernel
theorem dX6_bars_37 : decode cX6_bars 37 = .ok (.getfield 43, 3) := by decide +kernel
theorem dX6_bars_40 : decode cX6_bars 40 = .ok (.iload_n 2, 1) := by decide +kernel
theorem dX6_bars_41 : decode cX6_bars 41 = .ok (.invokevirtual 164, 3) := by decide +kernel
theorem dX6_bars_44 : decode cX6_bars 44 = .ok (.ifCond .eq 5, 3) := by decide +kernel
theorem dX6_bars_47 : decode cX6_bars 47 = .ok (.iconst 0, 1) := by decide +kernel
theorem dX6_bars_48 : decode cX6_bars 48 = .ok (.ireturn, 1) := by decide +kernel
theorem dX6_bars_49 : decode cX6_bars 49 = .ok (.aload_n 3, 1) := by decide +kernel
theorem dX6_bars_50 : decode cX6_bars 50 = .ok (.invokevirtual 211, 3) := by decide +kernel
theorem dX6_bars_53 : decode cX6_bars 53 = .ok (.istore 4, 2) := by decide +kernel
theorem dX6_bars_55 : decode cX6_bars 55 = .ok (.aload_n 0, 1) := by decide +kernel
theorem dX6_bars_56 : decode cX6_bars 56 = .ok (.getfield 43, 3) := by decide +kernel
theorem dX6_bars_59 : decode cX6_bars 59 = .ok (.iload_n 2, 1) := by decide +kernel
theorem dX6_bars_60 : decode cX6_bars 60 = .ok (.iconst 1, 1) := by decide +kernel
theorem dX6_bars_61 : decode cX6_bars 61 = .ok (.invokevirtual 167, 3) := by decide +kernel
theorem dX6_bars_64 : decode cX6_bars 64 = .ok (.aload_n 0, 1) := by decide +kernel
theorem dX6_bars_65 : decode cX6_bars 65 = .ok (.invokevirtual 133, 3) := by decide +kernel
theorem dX6_bars_68 : decode cX6_bars 68 = .ok (.aload_n 0, 1) := by decide +kernel
theorem dX6_bars_69 : decode cX6_bars 69 = .ok (.iload_n 1, 1) := by decide +kernel
theorem dX6_bars_70 : decode cX6_bars 70 = .ok (.invokevirtual 204, 3) := by decide +kernel
theorem dX6_bars_73 : decode cX6_bars 73 = .ok (.iload 4, 2) := by decide +kernel
theorem dX6_bars_75 : decode cX6_bars 75 = .ok (.invokestatic 236, 3) := by decide +kernel
theorem dX6_bars_78 : decode cX6_bars 78 = .ok (.istore 5, 2) := by decide +kernel
theorem dX6_bars_80 : decode cX6_bars 80 = .ok (.aload_n 0, 1) := by decide +kernel
theorem dX6_bars_81 : decode cX6_bars 81 = .ok (.getfield 43, 3) := by decide +kernel
theorem dX6_bars_84 : decode cX6_bars 84 = .ok (.iload_n 2, 1) := by decide +kernel
theorem dX6_bars_85 : decode cX6_bars 85 = .ok (.iconst 0, 1) := by decide +kernel
theorem dX6_bars_86 : decode cX6_bars 86 = .ok (.invokevirtual 167, 3) := by decide +kernel
theorem dX6_bars_89 : decode cX6_bars 89 = .ok (.aload_n 0, 1) := by decide +kernel
theorem dX6_bars_90 : decode cX6_bars 90 = .ok (.invokevirtual 133, 3) := by decide +kernel
theorem dX6_bars_93 : decode cX6_bars 93 = .ok (.iload 4, 2) := by decide +kernel
theorem dX6_bars_95 : decode cX6_bars 95 = .ok (.iload 5, 2) := by decide +kernel
theorem dX6_bars_97 : decode cX6_bars 97 = .ok (.isub, 1) := by decide +kernel
theorem dX6_bars_98 : decode cX6_bars 98 = .ok (.ireturn, 1) := by decide +kernel
theorem dX6_where_0 : decode cX6_where 0 = .ok (.iload_n 1, 1) := by decide +kernel
theorem dX6_where_1 : decode cX6_where 1 = .ok (.invokestatic 184, 3) := by decide +kernel
theorem dX6_where_4 : decode cX6_where 4 = .ok (.ifCond .eq 29, 3) := by decide +kernel
theorem dX6_where_7 : decode cX6_where 7 = .ok (.aload_n 0, 1) := by decide +kernel
theorem dX6_where_8 : decode cX6_where 8 = .ok (.getfield 43, 3) := by decide +kernel
theorem dX6_where_11 : decode cX6_where 11 = .ok (.iload_n 2, 1) := by decide +kernel
theorem dX6_where_12 : decode cX6_where 12 = .ok (.invokevirtual 240, 3) := by decide +kernel
theorem dX6_where_15 : decode cX6_where 15 = .ok (.ifCond .eq 18, 3) := by decide +kernel
theorem dX6_where_18 : decode cX6_where 18 = .ok (.iload_n 3, 1) := by decide +kernel
theorem dX6_where_19 : decode cX6_where 19 = .ok (.ifCond .lt 14, 3) := by decide +kernel
theorem dX6_where_22 : decode cX6_where 22 = .ok (.iload_n 3, 1) := by decide +kernel
theorem dX6_where_23 : decode cX6_where 23 = .ok (.aload_n 0, 1) := by decide +kernel
theorem dX6_where_24 : decode cX6_where 24 = .ok (.getfield 43, 3) := by decide +kernel
theorem dX6_where_27 : decode cX6_where 27 = .ok (.getfield 136, 3) := by decide +kernel
theorem dX6_where_30 : decode cX6_where 30 = .ok (.if_icmp .lt 5, 3) := by decide +kernel
theorem dX6_where_33 : decode cX6_where 33 = .ok (.iconst (-1), 1) := by decide +kernel
theorem dX6_where_34 : decode cX6_where 34 = .ok (.ireturn, 1) := by decide +kernel
theorem dX6_where_35 : decode cX6_where 35 = .ok (.aload_n 0, 1) := by decide +kernel
theorem dX6_where_36 : decode cX6_where 36 = .ok (.iload_n 1, 1) := by decide +kernel
theorem dX6_where_37 : decode cX6_where 37 = .ok (.invokevirtual 224, 3) := by decide +kernel
theorem dX6_where_40 : decode cX6_where 40 = .ok (.ifCond .eq 6, 3) := by decide +kernel
theorem dX6_where_43 : decode cX6_where 43 = .ok (.bipush (-6), 2) := by decide +kernel
theorem dX6_where_45 : decode cX6_where 45 = .ok (.ireturn, 1) := by decide +kernel
theorem dX6_where_46 : decode cX6_where 46 = .ok (.aload_n 0, 1) := by decide +kernel
theorem dX6_where_47 : decode cX6_where 47 = .ok (.getfield 36, 3) := by decide +kernel
theorem dX6_where_50 : decode cX6_where 50 = .ok (.iload_n 2, 1) := by decide +kernel
theorem dX6_where_51 : decode cX6_where 51 = .ok (.iload_n 3, 1) := by decide +kernel
theorem dX6_where_52 : decode cX6_where 52 = .ok (.invokevirtual 243, 3) := by decide +kernel
theorem dX6_where_55 : decode cX6_where 55 = .ok (.aload_n 0, 1) := by decide +kernel
theorem dX6_where_56 : decode cX6_where 56 = .ok (.invokevirtual 133, 3) := by decide +kernel
theorem dX6_where_59 : decode cX6_where 59 = .ok (.aload_n 0, 1) := by decide +kernel
theorem dX6_where_60 : decode cX6_where 60 = .ok (.iload_n 1, 1) := by decide +kernel
theorem dX6_where_61 : decode cX6_where 61 = .ok (.invokevirtual 204, 3) := by decide +kernel
theorem dX6_where_64 : decode cX6_where 64 = .ok (.bipush (-9), 2) := by decide +kernel
theorem dX6_where_66 : decode cX6_where 66 = .ok (.invokestatic 236, 3) := by decide +kernel
theorem dX6_where_69 : decode cX6_where 69 = .ok (.istore 4, 2) := by decide +kernel
theorem dX6_where_71 : decode cX6_where 71 = .ok (.aload_n 0, 1) := by decide +kernel
theorem dX6_where_72 : decode cX6_where 72 = .ok (.getfield 36, 3) := by decide +kernel
theorem dX6_where_75 : decode cX6_where 75 = .ok (.invokevirtual 246, 3) := by decide +kernel
theorem dX6_where_78 : decode cX6_where 78 = .ok (.aload_n 0, 1) := by decide +kernel
theorem dX6_where_79 : decode cX6_where 79 = .ok (.invokevirtual 133, 3) := by decide +kernel
theorem dX6_where_82 : decode cX6_where 82 = .ok (.iload 4, 2) := by decide +kernel
theorem dX6_where_84 : decode cX6_where 84 = .ok (.bipush (-9), 2) := by decide +kernel
theorem dX6_where_86 : decode cX6_where 86 = .ok (.if_icmp .ne 19, 3) := by decide +kernel
theorem dX6_where_89 : decode cX6_where 89 = .ok (.aload_n 0, 1) := by decide +kernel
theorem dX6_where_90 : decode cX6_where 90 = .ok (.iconst 5, 1) := by decide +kernel
theorem dX6_where_91 : decode cX6_where 91 = .ok (.invokevirtual 204, 3) := by decide +kernel
theorem dX6_where_94 : decode cX6_where 94 = .ok (.ifnonnull 11, 3) := by decide +kernel
theorem dX6_where_97 : decode cX6_where 97 = .ok (.aload_n 0, 1) := by decide +kernel
theorem dX6_where_98 : decode cX6_where 98 = .ok (.iconst 4, 1) := by decide +kernel
theorem dX6_where_99 : decode cX6_where 99 = .ok (.invokevirtual 88, 3) := by decide +kernel
theorem dX6_where_102 : decode cX6_where 102 = .ok (.goto 5, 3) := by decide +kernel
theorem dX6_where_105 : decode cX6_where 105 = .ok (.iload 4, 2) := by decide +kernel
theorem dX6_where_107 : decode cX6_where 107 = .ok (.ireturn, 1) := by decide +kernel
theorem dX6_places_0 : decode cX6_places 0 = .ok (.iload_n 1, 1) := by decide +kernel
theorem dX6_places_1 : decode cX6_places 1 = .ok (.invokestatic 184, 3) := by decide +kernel
theorem dX6_places_4 : decode cX6_places 4 = .ok (.ifCond .eq 14, 3) := by decide +kernel
theorem dX6_places_7 : decode cX6_places 7 = .ok (.aload_n 0, 1) := by decide +kernel
theorem dX6_places_8 : decode cX6_places 8 = .ok (.getfield 43, 3) := by decide +kernel
theorem dX6_places_11 : decode cX6_places 11 = .ok (.iload_n 2, 1) := by decide +kernel
theorem dX6_places_12 : decode cX6_places 12 = .ok (.invokevirtual 240, 3) := by decide +kernel
theorem dX6_places_15 : decode cX6_places 15 = .ok (.ifCond .ne 5, 3) := by decide +kernel
theorem dX6_places_18 : decode cX6_places 18 = .ok (.iconst (-1), 1) := by decide +kernel
theorem dX6_places_19 : decode cX6_places 19 = .ok (.ireturn, 1) := by decide +kernel
theorem dX6_places_20 : decode cX6_places 20 = .ok (.aload_n 0, 1) := by decide +kernel
theorem dX6_places_21 : decode cX6_places 21 = .ok (.iload_n 1, 1) := by decide +kernel
theorem dX6_places_22 : decode cX6_places 22 = .ok (.invokevirtual 204, 3) := by decide +kernel
theorem dX6_places_25 : decode cX6_places 25 = .ok (.astore_n 3, 1) := by decide +kernel
theorem dX6_places_26 : decode cX6_places 26 = .ok (.aload_n 3, 1) := by decide +kernel
theorem dX6_places_27 : decode cX6_places 27 = .ok (.ifnonnull 9, 3) := by decide +kernel
theorem dX6_places_30 : decode cX6_places 30 = .ok (.aload_n 0, 1) := by decide +kernel
theorem dX6_places_31 : decode cX6_places 31 = .ok (.iload_n 1, 1) := by decide +kernel
theorem dX6_places_32 : decode cX6_places 32 = .ok (.invokevirtual 208, 3) := by decide +kernel
theorem dX6_places_35 : decode cX6_places 35 = .ok (.ireturn, 1) := by decide +kernel
theorem dX6_places_36 : decode cX6_places 36 = .ok (.aload_n 3, 1) := by decide +kernel
theorem dX6_places_37 : decode cX6_places 37 = .ok (.iload_n 2, 1) := by decide +kernel
theorem dX6_places_38 : decode cX6_places 38 = .ok (.aload_n 0, 1) := by decide +kernel
theorem dX6_places_39 : decode cX6_places 39 = .ok (.getfield 57, 3) := by decide +kernel
theorem dX6_places_42 : decode cX6_places 42 = .ok (.invokevirtual 249, 3) := by decide +kernel
theorem dX6_places_45 : decode cX6_places 45 = .ok (.iconst 0, 1) := by decide +kernel
theorem dX6_places_46 : decode cX6_places 46 = .ok (.istore 4, 2) := by decide +kernel
theorem dX6_places_48 : decode cX6_places 48 = .ok (.iconst 0, 1) := by decide +kernel
theorem dX6_places_49 : decode cX6_places 49 = .ok (.istore 5, 2) := by decide +kernel
theorem dX6_places_51 : decode cX6_places 51 = .ok (.iload 5, 2) := by decide +kernel
theorem dX6_places_53 : decode cX6_places 53 = .ok (.aload_n 0, 1) := by decide +kernel
theorem dX6_places_54 : decode cX6_places 54 = .ok (.getfield 43, 3) := by decide +kernel
theorem dX6_places_57 : decode cX6_places 57 = .ok (.getfield 136, 3) := by decide +kernel
theorem dX6_places_60 : decode cX6_places 60 = .ok (.if_icmp .ge 28, 3) := by decide +kernel
theorem dX6_places_63 : decode cX6_places 63 = .ok (.aload_n 0, 1) := by decide +kernel
theorem dX6_places_64 : decode cX6_places 64 = .ok (.getfield 57, 3) := by decide +kernel
theorem dX6_places_67 : decode cX6_places 67 = .ok (.iload 5, 2) := by decide +kernel
theorem dX6_places_69 : decode cX6_places 69 = .ok (.iaload, 1) := by decide +kernel
theorem dX6_places_70 : decode cX6_places 70 = .ok (.ifCond .le 12, 3) := by decide +kernel
theorem dX6_places_73 : decode cX6_places 73 = .ok (.iload 4, 2) := by decide +kernel
theorem dX6_places_75 : decode cX6_places 75 = .ok (.iconst 1, 1) := by decide +kernel
theorem dX6_places_76 : decode cX6_places 76 = .ok (.iload 5, 2) := by decide +kernel
theorem dX6_places_78 : decode cX6_places 78 = .ok (.ishl, 1) := by decide +kernel
theorem dX6_places_79 : decode cX6_places 79 = .ok (.ior, 1) := by decide +kernel
theorem dX6_places_80 : decode cX6_places 80 = .ok (.istore 4, 2) := by decide +kernel
theorem dX6_places_82 : decode cX6_places 82 = .ok (.iinc 5 1, 3) := by decide +kernel
theorem dX6_places_85 : decode cX6_places 85 = .ok (.goto (-34), 3) := by decide +kernel
theorem dX6_places_88 : decode cX6_places 88 = .ok (.iload 4, 2) := by decide +kernel
theorem dX6_places_90 : decode cX6_places 90 = .ok (.ireturn, 1) := by decide +kernel
theorem dX6_middle_0 : decode cX6_middle 0 = .ok (.iload_n 1, 1) := by decide +kernel
theorem dX6_middle_1 : decode cX6_middle 1 = .ok (.invokestatic 184, 3) := by decide +kernel
theorem dX6_middle_4 : decode cX6_middle 4 = .ok (.ifCond .eq 14, 3) := by decide +kernel
theorem dX6_middle_7 : decode cX6_middle 7 = .ok (.aload_n 0, 1) := by decide +kernel
theorem dX6_middle_8 : decode cX6_middle 8 = .ok (.getfield 43, 3) := by decide +kernel
theorem dX6_middle_11 : decode cX6_middle 11 = .ok (.iload_n 2, 1) := by decide +kernel
theorem dX6_middle_12 : decode cX6_middle 12 = .ok (.invokevirtual 240, 3) := by decide +kernel
theorem dX6_middle_15 : decode cX6_middle 15 = .ok (.ifCond .ne 5, 3) := by decide +kernel
theorem dX6_middle_18 : decode cX6_middle 18 = .ok (.iconst (-1), 1) := by decide +kernel
theorem dX6_middle_19 : decode cX6_middle 19 = .ok (.ireturn, 1) := by decide +kernel
theorem dX6_middle_20 : decode cX6_middle 20 = .ok (.aload_n 0, 1) := by decide +kernel
theorem dX6_middle_21 : decode cX6_middle 21 = .ok (.iload_n 1, 1) := by decide +kernel
theorem dX6_middle_22 : decode cX6_middle 22 = .ok (.invokevirtual 204, 3) := by decide +kernel
theorem dX6_middle_25 : decode cX6_middle 25 = .ok (.astore_n 3, 1) := by decide +kernel
theorem dX6_middle_26 : decode cX6_middle 26 = .ok (.aload_n 3, 1) := by decide +kernel
theorem dX6_middle_27 : decode cX6_middle 27 = .ok (.ifnonnull 9, 3) := by decide +kernel
theorem dX6_middle_30 : decode cX6_middle 30 = .ok (.aload_n 0, 1) := by decide +kernel
theorem dX6_middle_31 : decode cX6_middle 31 = .ok (.iload_n 1, 1) := by decide +kernel
theorem dX6_middle_32 : decode cX6_middle 32 = .ok (.invokevirtual 208, 3) := by decide +kernel
theorem dX6_middle_35 : decode cX6_middle 35 = .ok (.ireturn, 1) := by decide +kernel
theorem dX6_middle_36 : decode cX6_middle 36 = .ok (.aload_n 3, 1) := by decide +kernel
theorem dX6_middle_37 : decode cX6_middle 37 = .ok (.iload_n 2, 1) := by decide +kernel
theorem dX6_middle_38 : decode cX6_middle 38 = .ok (.aload_n 0, 1) := by decide +kernel
theorem dX6_middle_39 : decode cX6_middle 39 = .ok (.getfield 57, 3) := by decide +kernel
theorem dX6_middle_42 : decode cX6_middle 42 = .ok (.invokevirtual 249, 3) := by decide +kernel
theorem dX6_middle_45 : decode cX6_middle 45 = .ok (.lconst 0, 1) := by decide +kernel
theorem dX6_middle_46 : decode cX6_middle 46 = .ok (.lstore 4, 2) := by decide +kernel
theorem dX6_middle_48 : decode cX6_middle 48 = .ok (.iconst 0, 1) := by decide +kernel
theorem dX6_middle_49 : decode cX6_middle 49 = .ok (.istore 6, 2) := by decide +kernel
theorem dX6_middle_51 : decode cX6_middle 51 = .ok (.iload 6, 2) := by decide +kernel
theorem dX6_middle_53 : decode cX6_middle 53 = .ok (.aload_n 0, 1) := by decide +kernel
theorem dX6_middle_54 : decode cX6_middle 54 = .ok (.getfield 43, 3) := by decide +kernel
theorem dX6_middle_57 : decode cX6_middle 57 = .ok (.getfield 136, 3) := by decide +kernel
theorem dX6_middle_60 : decode cX6_middle 60 = .ok (.if_icmp .ge 26, 3) := by decide +kernel
theorem dX6_middle_63 : decode cX6_middle 63 = .ok (.lload 4, 2) := by decide +kernel
theorem dX6_middle_65 : decode cX6_middle 65 = .ok (.iload 6, 2) := by decide +kernel
theorem dX6_middle_67 : decode cX6_middle 67 = .ok (.i2l, 1) := by decide +kernel
theorem dX6_middle_68 : decode cX6_middle 68 = .ok (.aload_n 0, 1) := by decide +kernel
theorem dX6_middle_69 : decode cX6_middle 69 = .ok (.getfield 57, 3) := by decide +kernel
theorem dX6_middle_72 : decode cX6_middle 72 = .ok (.iload 6, 2) := by decide +kernel
theorem dX6_middle_74 : decode cX6_middle 74 = .ok (.iaload, 1) := by decide +kernel
theorem dX6_middle_75 : decode cX6_middle 75 = .ok (.i2l, 1) := by decide +kernel
theorem dX6_middle_76 : decode cX6_middle 76 = .ok (.lmul, 1) := by decide +kernel
theorem dX6_middle_77 : decode cX6_middle 77 = .ok (.ladd, 1) := by decide +kernel
theorem dX6_middle_78 : decode cX6_middle 78 = .ok (.lstore 4, 2) := by decide +kernel
theorem dX6_middle_80 : decode cX6_middle 80 = .ok (.iinc 6 1, 3) := by decide +kernel
theorem dX6_middle_83 : decode cX6_middle 83 = .ok (.goto (-32), 3) := by decide +kernel
theorem dX6_middle_86 : decode cX6_middle 86 = .ok (.aload_n 0, 1) := by decide +kernel
theorem dX6_middle_87 : decode cX6_middle 87 = .ok (.lload 4, 2) := by decide +kernel
theorem dX6_middle_89 : decode cX6_middle 89 = .ok (.aload_n 3, 1) := by decide +kernel
theorem dX6_middle_90 : decode cX6_middle 90 = .ok (.invokevirtual 227, 3) := by decide +kernel
theorem dX6_middle_93 : decode cX6_middle 93 = .ok (.i2l, 1) := by decide +kernel
theorem dX6_middle_94 : decode cX6_middle 94 = .ok (.invokevirtual 252, 3) := by decide +kernel
theorem dX6_middle_97 : decode cX6_middle 97 = .ok (.aload_n 3, 1) := by decide +kernel
theorem dX6_middle_98 : decode cX6_middle 98 = .ok (.invokevirtual 227, 3) := by decide +kernel
theorem dX6_middle_101 : decode cX6_middle 101 = .ok (.ireturn, 1) := by decide +kernel
theorem dX6_leads_0 : decode cX6_leads 0 = .ok (.iload_n 1, 1) := by decide +kernel
theorem dX6_leads_1 : decode cX6_leads 1 = .ok (.invokestatic 184, 3) := by decide +kernel
theorem dX6_leads_4 : decode cX6_leads 4 = .ok (.ifCond .eq 15, 3) := by decide +kernel
theorem dX6_leads_7 : decode cX6_leads 7 = .ok (.aload_n 0, 1) := by decide +kernel
theorem dX6_leads_8 : decode cX6_leads 8 = .ok (.getfield 43, 3) := by decide +kernel
theorem dX6_leads_11 : decode cX6_leads 11 = .ok (.iload_n 2, 1) := by decide +kernel
theorem dX6_leads_12 : decode cX6_leads 12 = .ok (.iload_n 3, 1) := by decide +kernel
theorem dX6_leads_13 : decode cX6_leads 13 = .ok (.invokevirtual 139, 3) := by decide +kernel
theorem dX6_leads_16 : decode cX6_leads 16 = .ok (.ifCond .ne 5, 3) := by decide +kernel
theorem dX6_leads_19 : decode cX6_leads 19 = .ok (.iconst (-1), 1) := by decide +kernel
theorem dX6_leads_20 : decode cX6_leads 20 = .ok (.ireturn, 1) := by decide +kernel
theorem dX6_leads_21 : decode cX6_leads 21 = .ok (.aload_n 0, 1) := by decide +kernel
theorem dX6_leads_22 : decode cX6_leads 22 = .ok (.iload_n 1, 1) := by decide +kernel
theorem dX6_leads_23 : decode cX6_leads 23 = .ok (.invokevirtual 204, 3) := by decide +kernel
theorem dX6_leads_26 : decode cX6_leads 26 = .ok (.astore 4, 2) := by decide +kernel
theorem dX6_leads_28 : decode cX6_leads 28 = .ok (.aload 4, 2) := by decide +kernel
theorem dX6_leads_30 : decode cX6_leads 30 = .ok (.ifnonnull 9, 3) := by decide +kernel
theorem dX6_leads_33 : decode cX6_leads 33 = .ok (.aload_n 0, 1) := by decide +kernel
theorem dX6_leads_34 : decode cX6_leads 34 = .ok (.iload_n 1, 1) := by decide +kernel
theorem dX6_leads_35 : decode cX6_leads 35 = .ok (.invokevirtual 208, 3) := by decide +kernel
theorem dX6_leads_38 : decode cX6_leads 38 = .ok (.ireturn, 1) := by decide +kernel
theorem dX6_leads_39 : decode cX6_leads 39 = .ok (.aload_n 0, 1) := by decide +kernel
theorem dX6_leads_40 : decode cX6_leads 40 = .ok (.aload 4, 2) := by decide +kernel
theorem dX6_leads_42 : decode cX6_leads 42 = .ok (.iload_n 2, 1) := by decide +kernel
theorem dX6_leads_43 : decode cX6_leads 43 = .ok (.iload_n 3, 1) := by decide +kernel
theorem dX6_leads_44 : decode cX6_leads 44 = .ok (.invokevirtual 256, 3) := by decide +kernel
theorem dX6_leads_47 : decode cX6_leads 47 = .ok (.putfield 64, 3) := by decide +kernel
theorem dX6_leads_50 : decode cX6_leads 50 = .ok (.aload_n 0, 1) := by decide +kernel
theorem dX6_leads_51 : decode cX6_leads 51 = .ok (.getfield 64, 3) := by decide +kernel
theorem dX6_leads_54 : decode cX6_leads 54 = .ok (.ifCond .ne 5, 3) := by decide +kernel
theorem dX6_leads_57 : decode cX6_leads 57 = .ok (.iconst 0, 1) := by decide +kernel
theorem dX6_leads_58 : decode cX6_leads 58 = .ok (.ireturn, 1) := by decide +kernel
theorem dX6_leads_59 : decode cX6_leads 59 = .ok (.aload_n 0, 1) := by decide +kernel
theorem dX6_leads_60 : decode cX6_leads 60 = .ok (.getfield 64, 3) := by decide +kernel
theorem dX6_leads_63 : decode cX6_leads 63 = .ok (.aload 4, 2) := by decide +kernel
theorem dX6_leads_65 : decode cX6_leads 65 = .ok (.invokevirtual 227, 3) := by decide +kernel
theorem dX6_leads_68 : decode cX6_leads 68 = .ok (.if_icmp .ne 7, 3) := by decide +kernel
theorem dX6_leads_71 : decode cX6_leads 71 = .ok (.iconst 2, 1) := by decide +kernel
theorem dX6_leads_72 : decode cX6_leads 72 = .ok (.goto 4, 3) := by decide +kernel
theorem dX6_leads_75 : decode cX6_leads 75 = .ok (.iconst 1, 1) := by decide +kernel
theorem dX6_leads_76 : decode cX6_leads 76 = .ok (.ireturn, 1) := by decide +kernel
theorem dX6_both_0 : decode cX6_both 0 = .ok (.iload_n 1, 1) := by decide +kernel
theorem dX6_both_1 : decode cX6_both 1 = .ok (.invokestatic 184, 3) := by decide +kernel
theorem dX6_both_4 : decode cX6_both 4 = .ok (.ifCond .eq 10, 3) := by decide +kernel
theorem dX6_both_7 : decode cX6_both 7 = .ok (.iload_n 2, 1) := by decide +kernel
theorem dX6_both_8 : decode cX6_both 8 = .ok (.invokestatic 184, 3) := by decide +kernel
theorem dX6_both_11 : decode cX6_both 11 = .ok (.ifCond .ne 5, 3) := by decide +kernel
theorem dX6_both_14 : decode cX6_both 14 = .ok (.iconst (-1), 1) := by decide +kernel
theorem dX6_both_15 : decode cX6_both 15 = .ok (.ireturn, 1) := by decide +kernel
theorem dX6_both_16 : decode cX6_both 16 = .ok (.aload_n 0, 1) := by decide +kernel
theorem dX6_both_17 : decode cX6_both 17 = .ok (.iload_n 2, 1) := by decide +kernel
theorem dX6_both_18 : decode cX6_both 18 = .ok (.invokevirtual 224, 3) := by decide +kernel
theorem dX6_both_21 : decode cX6_both 21 = .ok (.ifCond .eq 6, 3) := by decide +kernel
theorem dX6_both_24 : decode cX6_both 24 = .ok (.bipush (-6), 2) := by decide +kernel
theorem dX6_both_26 : decode cX6_both 26 = .ok (.ireturn, 1) := by decide +kernel
theorem dX6_both_27 : decode cX6_both 27 = .ok (.aload_n 0, 1) := by decide +kernel
theorem dX6_both_28 : decode cX6_both 28 = .ok (.iload_n 1, 1) := by decide +kernel
theorem dX6_both_29 : decode cX6_both 29 = .ok (.invokevirtual 204, 3) := by decide +kernel
theorem dX6_both_32 : decode cX6_both 32 = .ok (.astore_n 3, 1) := by decide +kernel
theorem dX6_both_33 : decode cX6_both 33 = .ok (.aload_n 3, 1) := by decide +kernel
theorem dX6_both_34 : decode cX6_both 34 = .ok (.ifnonnull 9, 3) := by decide +kernel
theorem dX6_both_37 : decode cX6_both 37 = .ok (.aload_n 0, 1) := by decide +kernel
theorem dX6_both_38 : decode cX6_both 38 = .ok (.iload_n 1, 1) := by decide +kernel
theorem dX6_both_39 : decode cX6_both 39 = .ok (.invokevirtual 208, 3) := by decide +kernel
theorem dX6_both_42 : decode cX6_both 42 = .ok (.ireturn, 1) := by decide +kernel
theorem dX6_both_43 : decode cX6_both 43 = .ok (.iload_n 1, 1) := by decide +kernel
theorem dX6_both_44 : decode cX6_both 44 = .ok (.iload_n 2, 1) := by decide +kernel
theorem dX6_both_45 : decode cX6_both 45 = .ok (.if_icmp .ne 16, 3) := by decide +kernel
theorem dX6_both_48 : decode cX6_both 48 = .ok (.aload_n 0, 1) := by decide +kernel
theorem dX6_both_49 : decode cX6_both 49 = .ok (.aload_n 3, 1) := by decide +kernel
theorem dX6_both_50 : decode cX6_both 50 = .ok (.invokevirtual 227, 3) := by decide +kernel
theorem dX6_both_53 : decode cX6_both 53 = .ok (.putfield 64, 3) := by decide +kernel
theorem dX6_both_56 : decode cX6_both 56 = .ok (.aload_n 3, 1) := by decide +kernel
theorem dX6_both_57 : decode cX6_both 57 = .ok (.invokevirtual 211, 3) := by decide +kernel
theorem dX6_both_60 : decode cX6_both 60 = .ok (.ireturn, 1) := by decide +kernel
theorem dX6_both_61 : decode cX6_both 61 = .ok (.iload_n 1, 1) := by decide +kernel
theorem dX6_both_62 : decode cX6_both 62 = .ok (.iconst 4, 1) := by decide +kernel
theorem dX6_both_63 : decode cX6_both 63 = .ok (.if_icmp .ne 30, 3) := by decide +kernel
theorem dX6_both_66 : decode cX6_both 66 = .ok (.aload_n 0, 1) := by decide +kernel
theorem dX6_both_67 : decode cX6_both 67 = .ok (.getfield 28, 3) := by decide +kernel
theorem dX6_both_70 : decode cX6_both 70 = .ok (.iload_n 2, 1) := by decide +kernel
theorem dX6_both_71 : decode cX6_both 71 = .ok (.invokevirtual 259, 3) := by decide +kernel
theorem dX6_both_74 : decode cX6_both 74 = .ok (.aload_n 0, 1) := by decide +kernel
theorem dX6_both_75 : decode cX6_both 75 = .ok (.aload_n 0, 1) := by decide +kernel
theorem dX6_both_76 : decode cX6_both 76 = .ok (.getfield 28, 3) := by decide +kernel
theorem dX6_both_79 : decode cX6_both 79 = .ok (.getfield 262, 3) := by decide +kernel
theorem dX6_both_82 : decode cX6_both 82 = .ok (.putfield 64, 3) := by decide +kernel
theorem dX6_both_85 : decode cX6_both 85 = .ok (.aload_n 0, 1) := by decide +kernel
theorem dX6_both_86 : decode cX6_both 86 = .ok (.getfield 28, 3) := by decide +kernel
theorem dX6_both_89 : decode cX6_both 89 = .ok (.getfield 265, 3) := by decide +kernel
theorem dX6_both_92 : decode cX6_both 92 = .ok (.ireturn, 1) := by decide +kernel
theorem dX6_both_93 : decode cX6_both 93 = .ok (.iload_n 2, 1) := by decide +kernel
theorem dX6_both_94 : decode cX6_both 94 = .ok (.iconst 4, 1) := by decide +kernel
theorem dX6_both_95 : decode cX6_both 95 = .ok (.if_icmp .ne 10, 3) := by decide +kernel
theorem dX6_both_98 : decode cX6_both 98 = .ok (.aload_n 0, 1) := by decide +kernel
theorem dX6_both_99 : decode cX6_both 99 = .ok (.invokevirtual 268, 3) := by decide +kernel
theorem dX6_both_102 : decode cX6_both 102 = .ok (.goto 8, 3) := by decide +kernel
theorem dX6_both_105 : decode cX6_both 105 = .ok (.aload_n 0, 1) := by decide +kernel
theorem dX6_both_106 : decode cX6_both 106 = .ok (.iload_n 2, 1) := by decide +kernel
theorem dX6_both_107 : decode cX6_both 107 = .ok (.invokevirtual 272, 3) := by decide +kernel
theorem dX6_both_110 : decode cX6_both 110 = .ok (.astore 4, 2) := by decide +kernel
theorem dX6_both_112 : decode cX6_both 112 = .ok (.aload_n 0, 1) := by decide +kernel
theorem dX6_both_113 : decode cX6_both 113 = .ok (.aload 4, 2) := by decide +kernel
theorem dX6_both_115 : decode cX6_both 115 = .ok (.invokevirtual 227, 3) := by decide +kernel
theorem dX6_both_118 : decode cX6_both 118 = .ok (.putfield 64, 3) := by decide +kernel
theorem dX6_both_121 : decode cX6_both 121 = .ok (.aload 4, 2) := by decide +kernel
theorem dX6_both_123 : decode cX6_both 123 = .ok (.invokevirtual 211, 3) := by decide +kernel
theorem dX6_both_126 : decode cX6_both 126 = .ok (.ireturn, 1) := by decide +kernel
theorem dX6_must_0 : decode cX6_must 0 = .ok (.aload_n 0, 1) := by decide +kernel
theorem dX6_must_1 : decode cX6_must 1 = .ok (.getfield 36, 3) := by decide +kernel
theorem dX6_must_4 : decode cX6_must 4 = .ok (.invokevirtual 275, 3) := by decide +kernel
theorem dX6_must_7 : decode cX6_must 7 = .ok (.istore_n 1, 1) := by decide +kernel
theorem dX6_must_8 : decode cX6_must 8 = .ok (.aload_n 0, 1) := by decide +kernel
theorem dX6_must_9 : decode cX6_must 9 = .ok (.invokevirtual 133, 3) := by decide +kernel
theorem dX6_must_12 : decode cX6_must 12 = .ok (.aload_n 0, 1) := by decide +kernel
theorem dX6_must_13 : decode cX6_must 13 = .ok (.iload_n 1, 1) := by decide +kernel
theorem dX6_must_14 : decode cX6_must 14 = .ok (.sipush 255, 3) := by decide +kernel
theorem dX6_must_17 : decode cX6_must 17 = .ok (.iand, 1) := by decide +kernel
theorem dX6_must_18 : decode cX6_must 18 = .ok (.putfield 64, 3) := by decide +kernel
theorem dX6_must_21 : decode cX6_must 21 = .ok (.iload_n 1, 1) := by decide +kernel
theorem dX6_must_22 : decode cX6_must 22 = .ok (.bipush 8, 2) := by decide +kernel
theorem dX6_must_24 : decode cX6_must 24 = .ok (.ishr, 1) := by decide +kernel
theorem dX6_must_25 : decode cX6_must 25 = .ok (.ireturn, 1) := by decide +kernel
theorem dX6_swaps_0 : decode cX6_swaps 0 = .ok (.aload_n 0, 1) := by decide +kernel
theorem dX6_swaps_1 : decode cX6_swaps 1 = .ok (.iload_n 1, 1) := by decide +kernel
theorem dX6_swaps_2 : decode cX6_swaps 2 = .ok (.iload_n 2, 1) := by decide +kernel
theorem dX6_swaps_3 : decode cX6_swaps 3 = .ok (.iconst 0, 1) := by decide +kernel
theorem dX6_swaps_4 : decode cX6_swaps 4 = .ok (.invokevirtual 278, 3) := by decide +kernel
theorem dX6_swaps_7 : decode cX6_swaps 7 = .ok (.ireturn, 1) := by decide +kernel
theorem dX6_moves_0 : decode cX6_moves 0 = .ok (.aload_n 0, 1) := by decide +kernel
theorem dX6_moves_1 : decode cX6_moves 1 = .ok (.iload_n 1, 1) := by decide +kernel
theorem dX6_moves_2 : decode cX6_moves 2 = .ok (.iload_n 2, 1) := by decide +kernel
theorem dX6_moves_3 : decode cX6_moves 3 = .ok (.iconst 1, 1) := by decide +kernel
theorem dX6_moves_4 : decode cX6_moves 4 = .ok (.invokevirtual 278, 3) := by decide +kernel
theorem dX6_moves_7 : decode cX6_moves 7 = .ok (.ireturn, 1) := by decide +kernel
theorem dX6_apart_0 : decode cX6_apart 0 = .ok (.iload_n 1, 1) := by decide +kernel
theorem dX6_apart_1 : decode cX6_apart 1 = .ok (.invokestatic 84, 3) := by decide +kernel
theorem dX6_apart_4 : decode cX6_apart 4 = .ok (.ifCond .eq 10, 3) := by decide +kernel
theorem dX6_apart_7 : decode cX6_apart 7 = .ok (.iload_n 2, 1) := by decide +kernel
theorem dX6_apart_8 : decode cX6_apart 8 = .ok (.invokestatic 84, 3) := by decide +kernel
theorem dX6_apart_11 : decode cX6_apart 11 = .ok (.ifCond .ne 5, 3) := by decide +kernel
theorem dX6_apart_14 : decode cX6_apart 14 = .ok (.iconst (-1), 1) := by decide +kernel
theorem dX6_apart_15 : decode cX6_apart 15 = .ok (.ireturn, 1) := by decide +kernel
theorem dX6_apart_16 : decode cX6_apart 16 = .ok (.aload_n 0, 1) := by decide +kernel
theorem dX6_apart_17 : decode cX6_apart 17 = .ok (.iload_n 1, 1) := by decide +kernel
theorem dX6_apart_18 : decode cX6_apart 18 = .ok (.iload_n 2, 1) := by decide +kernel
theorem dX6_apart_19 : decode cX6_apart 19 = .ok (.invokevirtual 282, 3) := by decide +kernel
theorem dX6_apart_22 : decode cX6_apart 22 = .ok (.istore_n 3, 1) := by decide +kernel
theorem dX6_apart_23 : decode cX6_apart 23 = .ok (.iload_n 3, 1) := by decide +kernel
theorem dX6_apart_24 : decode cX6_apart 24 = .ok (.ifCond .eq 9, 3) := by decide +kernel
theorem dX6_apart_27 : decode cX6_apart 27 = .ok (.aload_n 0, 1) := by decide +kernel
theorem dX6_apart_28 : decode cX6_apart 28 = .ok (.iload_n 3, 1) := by decide +kernel
theorem dX6_apart_29 : decode cX6_apart 29 = .ok (.invokevirtual 88, 3) := by decide +kernel
theorem dX6_apart_32 : decode cX6_apart 32 = .ok (.ireturn, 1) := by decide +kernel
theorem dX6_apart_33 : decode cX6_apart 33 = .ok (.aload_n 0, 1) := by decide +kernel
theorem dX6_apart_34 : decode cX6_apart 34 = .ok (.getfield 11, 3) := by decide +kernel
theorem dX6_apart_37 : decode cX6_apart 37 = .ok (.iload_n 1, 1) := by decide +kernel
theorem dX6_apart_38 : decode cX6_apart 38 = .ok (.aaload, 1) := by decide +kernel
theorem dX6_apart_39 : decode cX6_apart 39 = .ok (.getfield 99, 3) := by decide +kernel
theorem dX6_apart_42 : decode cX6_apart 42 = .ok (.astore 4, 2) := by decide +kernel
theorem dX6_apart_44 : decode cX6_apart 44 = .ok (.aload_n 0, 1) := by decide +kernel
theorem dX6_apart_45 : decode cX6_apart 45 = .ok (.getfield 51, 3) := by decide +kernel
theorem dX6_apart_48 : decode cX6_apart 48 = .ok (.astore 5, 2) := by decide +kernel
theorem dX6_apart_50 : decode cX6_apart 50 = .ok (.aload_n 0, 1) := by decide +kernel
theorem dX6_apart_51 : decode cX6_apart 51 = .ok (.getfield 43, 3) := by decide +kernel
theorem dX6_apart_54 : decode cX6_apart 54 = .ok (.aload_n 0, 1) := by decide +kernel
theorem dX6_apart_55 : decode cX6_apart 55 = .ok (.getfield 11, 3) := by decide +kernel
theorem dX6_apart_58 : decode cX6_apart 58 = .ok (.iload_n 2, 1) := by decide +kernel
theorem dX6_apart_59 : decode cX6_apart 59 = .ok (.aaload, 1) := by decide +kernel
theorem dX6_apart_60 : decode cX6_apart 60 = .ok (.getfield 99, 3) := by decide +kernel
theorem dX6_apart_63 : decode cX6_apart 63 = .ok (.aload 5, 2) := by decide +kernel
theorem dX6_apart_65 : decode cX6_apart 65 = .ok (.invokevirtual 285, 3) := by decide +kernel
theorem dX6_apart_68 : decode cX6_apart 68 = .ok (.iconst 0, 1) := by decide +kernel
theorem dX6_apart_69 : decode cX6_apart 69 = .ok (.istore 6, 2) := by decide +kernel
theorem dX6_apart_71 : decode cX6_apart 71 = .ok (.iconst 0, 1) := by decide +kernel
theorem dX6_apart_72 : decode cX6_apart 72 = .ok (.istore 7, 2) := by decide +kernel
theorem dX6_apart_74 : decode cX6_apart 74 = .ok (.iload 7, 2) := by decide +kernel
theorem dX6_apart_76 : decode cX6_apart 76 = .ok (.aload_n 0, 1) := by decide +kernel
theorem dX6_apart_77 : decode cX6_apart 77 = .ok (.getfield 43, 3) := by decide +kernel
theorem dX6_apart_80 : decode cX6_apart 80 = .ok (.getfield 136, 3) := by decide +kernel
theorem dX6_apart_83 : decode cX6_apart 83 = .ok (.if_icmp .ge 55, 3) := by decide +kernel
theorem dX6_apart_86 : decode cX6_apart 86 = .ok (.iload 7, 2) := by decide +kernel
theorem dX6_apart_88 : decode cX6_apart 88 = .ok (.iconst 1, 1) := by decide +kernel
theorem dX6_apart_89 : decode cX6_apart 89 = .ok (.iadd, 1) := by decide +kernel
theorem dX6_apart_90 : decode cX6_apart 90 = .ok (.istore 8, 2) := by decide +kernel
theorem dX6_apart_92 : decode cX6_apart 92 = .ok (.iload 8, 2) := by decide +kernel
theorem dX6_apart_94 : decode cX6_apart 94 = .ok (.aload_n 0, 1) := by decide +kernel
theorem dX6_apart_95 : decode cX6_apart 95 = .ok (.getfield 43, 3) := by decide +kernel
theorem dX6_apart_98 : decode cX6_apart 98 = .ok (.getfield 136, 3) := by decide +kernel
theorem dX6_apart_101 : decode cX6_apart 101 = .ok (.if_icmp .ge 31, 3) := by decide +kernel
theorem dX6_apart_104 : decode cX6_apart 104 = .ok (.aload 5, 2) := by decide +kernel
theorem dX6_apart_106 : decode cX6_apart 106 = .ok (.aload 4, 2) := by decide +kernel
theorem dX6_apart_108 : decode cX6_apart 108 = .ok (.iload 7, 2) := by decide +kernel
theorem dX6_apart_110 : decode cX6_apart 110 = .ok (.iaload, 1) := by decide +kernel
theorem dX6_apart_111 : decode cX6_apart 111 = .ok (.iaload, 1) := by decide +kernel
theorem dX6_apart_112 : decode cX6_apart 112 = .ok (.aload 5, 2) := by decide +kernel
theorem dX6_apart_114 : decode cX6_apart 114 = .ok (.aload 4, 2) := by decide +kernel
theorem dX6_apart_116 : decode cX6_apart 116 = .ok (.iload 8, 2) := by decide +kernel
theorem dX6_apart_118 : decode cX6_apart 118 = .ok (.iaload, 1) := by decide +kernel
theorem dX6_apart_119 : decode cX6_apart 119 = .ok (.iaload, 1) := by decide +kernel
theorem dX6_apart_120 : decode cX6_apart 120 = .ok (.if_icmp .le 6, 3) := by decide +kernel
theorem dX6_apart_123 : decode cX6_apart 123 = .ok (.iinc 6 1, 3) := by decide +kernel
theorem dX6_apart_126 : decode cX6_apart 126 = .ok (.iinc 8 1, 3) := by decide +kernel
theorem dX6_apart_129 : decode cX6_apart 129 = .ok (.goto (-37), 3) := by decide +kernel
theorem dX6_apart_132 : decode cX6_apart 132 = .ok (.iinc 7 1, 3) := by decide +kernel
theorem dX6_apart_135 : decode cX6_apart 135 = .ok (.goto (-61), 3) := by decide +kernel
theorem dX6_apart_138 : decode cX6_apart 138 = .ok (.iload 6, 2) := by decide +kernel
theorem dX6_apart_140 : decode cX6_apart 140 = .ok (.ireturn, 1) := by decide +kernel
theorem dX6_draw_0 : decode cX6_draw 0 = .ok (.iload_n 1, 1) := by decide +kernel
theorem dX6_draw_1 : decode cX6_draw 1 = .ok (.invokestatic 289, 3) := by decide +kernel
theorem dX6_draw_4 : decode cX6_draw 4 = .ok (.ifCond .eq 10, 3) := by decide +kernel
theorem dX6_draw_7 : decode cX6_draw 7 = .ok (.iload_n 2, 1) := by decide +kernel
theorem dX6_draw_8 : decode cX6_draw 8 = .ok (.invokestatic 84, 3) := by decide +kernel
theorem dX6_draw_11 : decode cX6_draw 11 = .ok (.ifCond .ne 5, 3) := by decide +kernel
theorem dX6_draw_14 : decode cX6_draw 14 = .ok (.iconst (-1), 1) := by decide +kernel
theorem dX6_draw_15 : decode cX6_draw 15 = .ok (.ireturn, 1) := by decide +kernel
theorem dX6_draw_16 : decode cX6_draw 16 = .ok (.aload_n 0, 1) := by decide +kernel
theorem dX6_draw_17 : decode cX6_draw 17 = .ok (.iload_n 1, 1) := by decide +kernel
theorem dX6_draw_18 : decode cX6_draw 18 = .ok (.aload_n 0, 1) := by decide +kernel
theorem dX6_draw_19 : decode cX6_draw 19 = .ok (.getfield 51, 3) := by decide +kernel
theorem dX6_draw_22 : decode cX6_draw 22 = .ok (.invokevirtual 292, 3) := by decide +kernel
theorem dX6_draw_25 : decode cX6_draw 25 = .ok (.istore_n 3, 1) := by decide +kernel
theorem dX6_draw_26 : decode cX6_draw 26 = .ok (.aload_n 0, 1) := by decide +kernel
theorem dX6_draw_27 : decode cX6_draw 27 = .ok (.iload_n 2, 1) := by decide +kernel
theorem dX6_draw_28 : decode cX6_draw 28 = .ok (.aload_n 0, 1) := by decide +kernel
theorem dX6_draw_29 : decode cX6_draw 29 = .ok (.getfield 51, 3) := by decide +kernel
theorem dX6_draw_32 : decode cX6_draw 32 = .ok (.invokevirtual 221, 3) := by decide +kernel
theorem dX6_draw_35 : decode cX6_draw 35 = .ok (.iload_n 3, 1) := by decide +kernel
theorem dX6_draw_36 : decode cX6_draw 36 = .ok (.ireturn, 1) := by decide +kernel
theorem dX6_lots_0 : decode cX6_lots 0 = .ok (.iload_n 1, 1) := by decide +kernel
theorem dX6_lots_1 : decode cX6_lots 1 = .ok (.invokestatic 184, 3) := by decide +kernel
theorem dX6_lots_4 : decode cX6_lots 4 = .ok (.ifCond .eq 22, 3) := by decide +kernel
theorem dX6_lots_7 : decode cX6_lots 7 = .ok (.iload_n 2, 1) := by decide +kernel
theorem dX6_lots_8 : decode cX6_lots 8 = .ok (.iconst 1, 1) := by decide +kernel
theorem dX6_lots_9 : decode cX6_lots 9 = .ok (.if_icmp .lt 17, 3) := by decide +kernel
theorem dX6_lots_12 : decode cX6_lots 12 = .ok (.iload_n 2, 1) := by decide +kernel
theorem dX6_lots_13 : decode cX6_lots 13 = .ok (.sipush 200, 3) := by decide +kernel
theorem dX6_lots_16 : decode cX6_lots 16 = .ok (.if_icmp .gt 10, 3) := by decide +kernel
theorem dX6_lots_19 : decode cX6_lots 19 = .ok (.iload_n 3, 1) := by decide +kernel
theorem dX6_lots_20 : decode cX6_lots 20 = .ok (.invokestatic 289, 3) := by decide +kernel
theorem dX6_lots_23 : decode cX6_lots 23 = .ok (.ifCond .ne 5, 3) := by decide +kernel
theorem dX6_lots_26 : decode cX6_lots 26 = .ok (.iconst (-1), 1) := by decide +kernel
theorem dX6_lots_27 : decode cX6_lots 27 = .ok (.ireturn, 1) := by decide +kernel
theorem dX6_lots_28 : decode cX6_lots 28 = .ok (.iload_n 3, 1) := by decide +kernel
theorem dX6_lots_29 : decode cX6_lots 29 = .ok (.istore 4, 2) := by decide +kernel
theorem dX6_lots_31 : decode cX6_lots 31 = .ok (.iconst 0, 1) := by decide +kernel
theorem dX6_lots_32 : decode cX6_lots 32 = .ok (.istore 5, 2) := by decide +kernel
theorem dX6_lots_34 : decode cX6_lots 34 = .ok (.bipush (-9), 2) := by decide +kernel
theorem dX6_lots_36 : decode cX6_lots 36 = .ok (.istore 6, 2) := by decide +kernel
theorem dX6_lots_38 : decode cX6_lots 38 = .ok (.iconst 0, 1) := by decide +kernel
theorem dX6_lots_39 : decode cX6_lots 39 = .ok (.istore 7, 2) := by decide +kernel
theorem dX6_lots_41 : decode cX6_lots 41 = .ok (.iload 7, 2) := by decide +kernel
theorem dX6_lots_43 : decode cX6_lots 43 = .ok (.iload_n 2, 1) := by decide +kernel
theorem dX6_lots_44 : decode cX6_lots 44 = .ok (.if_icmp .ge 73, 3) := by decide +kernel
theorem dX6_lots_47 : decode cX6_lots 47 = .ok (.aload_n 0, 1) := by decide +kernel
theorem dX6_lots_48 : decode cX6_lots 48 = .ok (.iload 4, 2) := by decide +kernel
theorem dX6_lots_50 : decode cX6_lots 50 = .ok (.aload_n 0, 1) := by decide +kernel
theorem dX6_lots_51 : decode cX6_lots 51 = .ok (.getfield 51, 3) := by decide +kernel
theorem dX6_lots_54 : decode cX6_lots 54 = .ok (.invokevirtual 292, 3) := by decide +kernel
theorem dX6_lots_57 : decode cX6_lots 57 = .ok (.istore 4, 2) := by decide +kernel
theorem dX6_lots_59 : decode cX6_lots 59 = .ok (.aload_n 0, 1) := by decide +kernel
theorem dX6_lots_60 : decode cX6_lots 60 = .ok (.getfield 43, 3) := by decide +kernel
theorem dX6_lots_63 : decode cX6_lots 63 = .ok (.aload_n 0, 1) := by decide +kernel
theorem dX6_lots_64 : decode cX6_lots 64 = .ok (.getfield 51, 3) := by decide +kernel
theorem dX6_lots_67 : decode cX6_lots 67 = .ok (.invokevirtual 194, 3) := by decide +kernel
theorem dX6_lots_70 : decode cX6_lots 70 = .ok (.bipush (-9), 2) := by decide +kernel
theorem dX6_lots_72 : decode cX6_lots 72 = .ok (.if_icmp .eq 6, 3) := by decide +kernel
theorem dX6_lots_75 : decode cX6_lots 75 = .ok (.goto 36, 3) := by decide +kernel
theorem dX6_lots_78 : decode cX6_lots 78 = .ok (.aload_n 0, 1) := by decide +kernel
theorem dX6_lots_79 : decode cX6_lots 79 = .ok (.getfield 43, 3) := by decide +kernel
theorem dX6_lots_82 : decode cX6_lots 82 = .ok (.iload_n 1, 1) := by decide +kernel
theorem dX6_lots_83 : decode cX6_lots 83 = .ok (.aload_n 0, 1) := by decide +kernel
theorem dX6_lots_84 : decode cX6_lots 84 = .ok (.getfield 51, 3) := by decide +kernel
theorem dX6_lots_87 : decode cX6_lots 87 = .ok (.invokevirtual 190, 3) := by decide +kernel
theorem dX6_lots_90 : decode cX6_lots 90 = .ok (.istore 8, 2) := by decide +kernel
theorem dX6_lots_92 : decode cX6_lots 92 = .ok (.iload 5, 2) := by decide +kernel
theorem dX6_lots_94 : decode cX6_lots 94 = .ok (.ifCond .eq 10, 3) := by decide +kernel
theorem dX6_lots_97 : decode cX6_lots 97 = .ok (.iload 8, 2) := by decide +kernel
theorem dX6_lots_99 : decode cX6_lots 99 = .ok (.iload 6, 2) := by decide +kernel
theorem dX6_lots_101 : decode cX6_lots 101 = .ok (.if_icmp .ge 7, 3) := by decide +kernel
theorem dX6_lots_104 : decode cX6_lots 104 = .ok (.iload 8, 2) := by decide +kernel
theorem dX6_lots_106 : decode cX6_lots 106 = .ok (.istore 6, 2) := by decide +kernel
theorem dX6_lots_108 : decode cX6_lots 108 = .ok (.iinc 5 1, 3) := by decide +kernel
theorem dX6_lots_111 : decode cX6_lots 111 = .ok (.iinc 7 1, 3) := by decide +kernel
theorem dX6_lots_114 : decode cX6_lots 114 = .ok (.goto (-73), 3) := by decide +kernel
theorem dX6_lots_117 : decode cX6_lots 117 = .ok (.aload_n 0, 1) := by decide +kernel
theorem dX6_lots_118 : decode cX6_lots 118 = .ok (.iload 6, 2) := by decide +kernel
theorem dX6_lots_120 : decode cX6_lots 120 = .ok (.putfield 64, 3) := by decide +kernel
theorem dX6_lots_123 : decode cX6_lots 123 = .ok (.iload 5, 2) := by decide +kernel
theorem dX6_lots_125 : decode cX6_lots 125 = .ok (.ireturn, 1) := by decide +kernel
theorem dX6_average_0 : decode cX6_average 0 = .ok (.aload_n 0, 1) := by decide +kernel
theorem dX6_average_1 : decode cX6_average 1 = .ok (.getfield 43, 3) := by decide +kernel
theorem dX6_average_4 : decode cX6_average 4 = .ok (.getfield 136, 3) := by decide +kernel
theorem dX6_average_7 : decode cX6_average 7 = .ok (.ifCond .ne 9, 3) := by decide +kernel
theorem dX6_average_10 : decode cX6_average 10 = .ok (.aload_n 0, 1) := by decide +kernel
theorem dX6_average_11 : decode cX6_average 11 = .ok (.iconst 4, 1) := by decide +kernel
theorem dX6_average_12 : decode cX6_average 12 = .ok (.invokevirtual 88, 3) := by decide +kernel
theorem dX6_average_15 : decode cX6_average 15 = .ok (.ireturn, 1) := by decide +kernel
theorem dX6_average_16 : decode cX6_average 16 = .ok (.aload_n 0, 1) := by decide +kernel
theorem dX6_average_17 : decode cX6_average 17 = .ok (.aload_n 0, 1) := by decide +kernel
theorem dX6_average_18 : decode cX6_average 18 = .ok (.getfield 43, 3) := by decide +kernel
theorem dX6_average_21 : decode cX6_average 21 = .ok (.invokevirtual 295, 3) := by decide +kernel
theorem dX6_average_24 : decode cX6_average 24 = .ok (.i2l, 1) := by decide +kernel
theorem dX6_average_25 : decode cX6_average 25 = .ok (.aload_n 0, 1) := by decide +kernel
theorem dX6_average_26 : decode cX6_average 26 = .ok (.getfield 43, 3) := by decide +kernel
theorem dX6_average_29 : decode cX6_average 29 = .ok (.getfield 136, 3) := by decide +kernel
theorem dX6_average_32 : decode cX6_average 32 = .ok (.iconst 1, 1) := by decide +kernel
theorem dX6_average_33 : decode cX6_average 33 = .ok (.iadd, 1) := by decide +kernel
theorem dX6_average_34 : decode cX6_average 34 = .ok (.i2l, 1) := by decide +kernel
theorem dX6_average_35 : decode cX6_average 35 = .ok (.lmul, 1) := by decide +kernel
theorem dX6_average_36 : decode cX6_average 36 = .ok (.ldc2_w 298, 3) := by decide +kernel
theorem dX6_average_39 : decode cX6_average 39 = .ok (.invokevirtual 252, 3) := by decide +kernel
theorem dX6_average_42 : decode cX6_average 42 = .ok (.iconst 1, 1) := by decide +kernel
theorem dX6_average_43 : decode cX6_average 43 = .ok (.ireturn, 1) := by decide +kernel
theorem dX6_image_0 : decode cX6_image 0 = .ok (.iload_n 1, 1) := by decide +kernel
theorem dX6_image_1 : decode cX6_image 1 = .ok (.invokestatic 84, 3) := by decide +kernel
theorem dX6_image_4 : decode cX6_image 4 = .ok (.ifCond .ne 5, 3) := by decide +kernel
theorem dX6_image_7 : decode cX6_image 7 = .ok (.iconst (-1), 1) := by decide +kernel
theorem dX6_image_8 : decode cX6_image 8 = .ok (.ireturn, 1) := by decide +kernel
theorem dX6_image_9 : decode cX6_image 9 = .ok (.aload_n 0, 1) := by decide +kernel
theorem dX6_image_10 : decode cX6_image 10 = .ok (.invokevirtual 300, 3) := by decide +kernel
theorem dX6_image_13 : decode cX6_image 13 = .ok (.istore_n 2, 1) := by decide +kernel
theorem dX6_image_14 : decode cX6_image 14 = .ok (.aload_n 0, 1) := by decide +kernel
theorem dX6_image_15 : decode cX6_image 15 = .ok (.getfield 11, 3) := by decide +kernel
theorem dX6_image_18 : decode cX6_image 18 = .ok (.iload_n 1, 1) := by decide +kernel
theorem dX6_image_19 : decode cX6_image 19 = .ok (.aaload, 1) := by decide +kernel
theorem dX6_image_20 : decode cX6_image 20 = .ok (.iload_n 2, 1) := by decide +kernel
theorem dX6_image_21 : decode cX6_image 21 = .ok (.iconst 0, 1) := by decide +kernel
theorem dX6_image_22 : decode cX6_image 22 = .ok (.invokevirtual 92, 3) := by decide +kernel
theorem dX6_image_25 : decode cX6_image 25 = .ok (.iconst 0, 1) := by decide +kernel
theorem dX6_image_26 : decode cX6_image 26 = .ok (.istore_n 3, 1) := by decide +kernel
theorem dX6_image_27 : decode cX6_image 27 = .ok (.iconst 0, 1) := by decide +kernel
theorem dX6_image_28 : decode cX6_image 28 = .ok (.istore 4, 2) := by decide +kernel
theorem dX6_image_30 : decode cX6_image 30 = .ok (.iload 4, 2) := by decide +kernel
theorem dX6_image_32 : decode cX6_image 32 = .ok (.aload_n 0, 1) := by decide +kernel
theorem dX6_image_33 : decode cX6_image 33 = .ok (.getfield 43, 3) := by decide +kernel
theorem dX6_image_36 : decode cX6_image 36 = .ok (.getfield 136, 3) := by decide +kernel
theorem dX6_image_39 : decode cX6_image 39 = .ok (.if_icmp .ge 60, 3) := by decide +kernel
theorem dX6_image_42 : decode cX6_image 42 = .ok (.iload 4, 2) := by decide +kernel
theorem dX6_image_44 : decode cX6_image 44 = .ok (.iconst 1, 1) := by decide +kernel
theorem dX6_image_45 : decode cX6_image 45 = .ok (.iadd, 1) := by decide +kernel
theorem dX6_image_46 : decode cX6_image 46 = .ok (.istore 5, 2) := by decide +kernel
theorem dX6_image_48 : decode cX6_image 48 = .ok (.iload 5, 2) := by decide +kernel
theorem dX6_image_50 : decode cX6_image 50 = .ok (.aload_n 0, 1) := by decide +kernel
theorem dX6_image_51 : decode cX6_image 51 = .ok (.getfield 43, 3) := by decide +kernel
theorem dX6_image_54 : decode cX6_image 54 = .ok (.getfield 136, 3) := by decide +kernel
theorem dX6_image_57 : decode cX6_image 57 = .ok (.if_icmp .ge 36, 3) := by decide +kernel
theorem dX6_image_60 : decode cX6_image 60 = .ok (.aload_n 0, 1) := by decide +kernel
theorem dX6_image_61 : decode cX6_image 61 = .ok (.getfield 11, 3) := by decide +kernel
theorem dX6_image_64 : decode cX6_image 64 = .ok (.iload_n 1, 1) := by decide +kernel
theorem dX6_image_65 : decode cX6_image 65 = .ok (.aaload, 1) := by decide +kernel
theorem dX6_image_66 : decode cX6_image 66 = .ok (.getfield 99, 3) := by decide +kernel
theorem dX6_image_69 : decode cX6_image 69 = .ok (.iload_n 3, 1) := by decide +kernel
theorem dX6_image_70 : decode cX6_image 70 = .ok (.aload_n 0, 1) := by decide +kernel
theorem dX6_image_71 : decode cX6_image 71 = .ok (.getfield 43, 3) := by decide +kernel
theorem dX6_image_74 : decode cX6_image 74 = .ok (.getfield 142, 3) := by decide +kernel
theorem dX6_image_77 : decode cX6_image 77 = .ok (.iload 4, 2) := by decide +kernel
theorem dX6_image_79 : decode cX6_image 79 = .ok (.aaload, 1) := by decide +kernel
theorem dX6_image_80 : decode cX6_image 80 = .ok (.iload 5, 2) := by decide +kernel
theorem dX6_image_82 : decode cX6_image 82 = .ok (.iaload, 1) := by decide +kernel
theorem dX6_image_83 : decode cX6_image 83 = .ok (.iastore, 1) := by decide +kernel
theorem dX6_image_84 : decode cX6_image 84 = .ok (.iinc 3 1, 3) := by decide +kernel
theorem dX6_image_87 : decode cX6_image 87 = .ok (.iinc 5 1, 3) := by decide +kernel
theorem dX6_image_90 : decode cX6_image 90 = .ok (.goto (-42), 3) := by decide +kernel
theorem dX6_image_93 : decode cX6_image 93 = .ok (.iinc 4 1, 3) := by decide +kernel
theorem dX6_image_96 : decode cX6_image 96 = .ok (.goto (-66), 3) := by decide +kernel
theorem dX6_image_99 : decode cX6_image 99 = .ok (.aload_n 0, 1) := by decide +kernel
theorem dX6_image_100 : decode cX6_image 100 = .ok (.getfield 11, 3) := by decide +kernel
theorem dX6_image_103 : decode cX6_image 103 = .ok (.iload_n 1, 1) := by decide +kernel
theorem dX6_image_104 : decode cX6_image 104 = .ok (.aaload, 1) := by decide +kernel
theorem dX6_image_105 : decode cX6_image 105 = .ok (.getfield 99, 3) := by decide +kernel
theorem dX6_image_108 : decode cX6_image 108 = .ok (.iload_n 3, 1) := by decide +kernel
theorem dX6_image_109 : decode cX6_image 109 = .ok (.aload_n 0, 1) := by decide +kernel
theorem dX6_image_110 : decode cX6_image 110 = .ok (.getfield 43, 3) := by decide +kernel
theorem dX6_image_113 : decode cX6_image 113 = .ok (.getfield 303, 3) := by decide +kernel
theorem dX6_image_116 : decode cX6_image 116 = .ok (.iastore, 1) := by decide +kernel
theorem dX6_image_117 : decode cX6_image 117 = .ok (.iload_n 2, 1) := by decide +kernel
theorem dX6_image_118 : decode cX6_image 118 = .ok (.ireturn, 1) := by decide +kernel
theorem dX6_on_0 : decode cX6_on 0 = .ok (.iload_n 1, 1) := by decide +kernel
theorem dX6_on_1 : decode cX6_on 1 = .ok (.invokestatic 84, 3) := by decide +kernel
theorem dX6_on_4 : decode cX6_on 4 = .ok (.ifCond .ne 5, 3) := by decide +kernel
theorem dX6_on_7 : decode cX6_on 7 = .ok (.iconst (-1), 1) := by decide +kernel
theorem dX6_on_8 : decode cX6_on 8 = .ok (.ireturn, 1) := by decide +kernel
theorem dX6_on_9 : decode cX6_on 9 = .ok (.aload_n 0, 1) := by decide +kernel
theorem dX6_on_10 : decode cX6_on 10 = .ok (.iload_n 1, 1) := by decide +kernel
theorem dX6_on_11 : decode cX6_on 11 = .ok (.invokevirtual 306, 3) := by decide +kernel
theorem dX6_on_14 : decode cX6_on 14 = .ok (.istore_n 2, 1) := by decide +kernel
theorem dX6_on_15 : decode cX6_on 15 = .ok (.iload_n 2, 1) := by decide +kernel
theorem dX6_on_16 : decode cX6_on 16 = .ok (.ifCond .eq 9, 3) := by decide +kernel
theorem dX6_on_19 : decode cX6_on 19 = .ok (.aload_n 0, 1) := by decide +kernel
theorem dX6_on_20 : decode cX6_on 20 = .ok (.iload_n 2, 1) := by decide +kernel
theorem dX6_on_21 : decode cX6_on 21 = .ok (.invokevirtual 88, 3) := by decide +kernel
theorem dX6_on_24 : decode cX6_on 24 = .ok (.ireturn, 1) := by decide +kernel
theorem dX6_on_25 : decode cX6_on 25 = .ok (.iconst 0, 1) := by decide +kernel
theorem dX6_on_26 : decode cX6_on 26 = .ok (.istore_n 3, 1) := by decide +kernel
theorem dX6_on_27 : decode cX6_on 27 = .ok (.iconst 0, 1) := by decide +kernel
theorem dX6_on_28 : decode cX6_on 28 = .ok (.istore 4, 2) := by decide +kernel
theorem dX6_on_30 : decode cX6_on 30 = .ok (.iload 4, 2) := by decide +kernel
theorem dX6_on_32 : decode cX6_on 32 = .ok (.aload_n 0, 1) := by decide +kernel
theorem dX6_on_33 : decode cX6_on 33 = .ok (.getfield 43, 3) := by decide +kernel
theorem dX6_on_36 : decode cX6_on 36 = .ok (.getfield 136, 3) := by decide +kernel
theorem dX6_on_39 : decode cX6_on 39 = .ok (.if_icmp .ge 58, 3) := by decide +kernel
theorem dX6_on_42 : decode cX6_on 42 = .ok (.iload 4, 2) := by decide +kernel
theorem dX6_on_44 : decode cX6_on 44 = .ok (.iconst 1, 1) := by decide +kernel
theorem dX6_on_45 : decode cX6_on 45 = .ok (.iadd, 1) := by decide +kernel
theorem dX6_on_46 : decode cX6_on 46 = .ok (.istore 5, 2) := by decide +kernel
theorem dX6_on_48 : decode cX6_on 48 = .ok (.iload 5, 2) := by decide +kernel
theorem dX6_on_50 : decode cX6_on 50 = .ok (.aload_n 0, 1) := by decide +kernel
theorem dX6_on_51 : decode cX6_on 51 = .ok (.getfield 43, 3) := by decide +kernel
theorem dX6_on_54 : decode cX6_on 54 = .ok (.getfield 136, 3) := by decide +kernel
theorem dX6_on_57 : decode cX6_on 57 = .ok (.if_icmp .ge 34, 3) := by decide +kernel
theorem dX6_on_60 : decode cX6_on 60 = .ok (.aload_n 0, 1) := by decide +kernel
theorem dX6_on_61 : decode cX6_on 61 = .ok (.getfield 43, 3) := by decide +kernel
theorem dX6_on_64 : decode cX6_on 64 = .ok (.iload 4, 2) := by decide +kernel
theorem dX6_on_66 : decode cX6_on 66 = .ok (.iload 5, 2) := by decide +kernel
theorem dX6_on_68 : decode cX6_on 68 = .ok (.aload_n 0, 1) := by decide +kernel
theorem dX6_on_69 : decode cX6_on 69 = .ok (.getfield 11, 3) := by decide +kernel
theorem dX6_on_72 : decode cX6_on 72 = .ok (.iload_n 1, 1) := by decide +kernel
theorem dX6_on_73 : decode cX6_on 73 = .ok (.aaload, 1) := by decide +kernel
theorem dX6_on_74 : decode cX6_on 74 = .ok (.getfield 99, 3) := by decide +kernel
theorem dX6_on_77 : decode cX6_on 77 = .ok (.iload_n 3, 1) := by decide +kernel
theorem dX6_on_78 : decode cX6_on 78 = .ok (.iaload, 1) := by decide +kernel
theorem dX6_on_79 : decode cX6_on 79 = .ok (.invokevirtual 146, 3) := by decide +kernel
theorem dX6_on_82 : decode cX6_on 82 = .ok (.iinc 3 1, 3) := by decide +kernel
theorem dX6_on_85 : decode cX6_on 85 = .ok (.iinc 5 1, 3) := by decide +kernel
theorem dX6_on_88 : decode cX6_on 88 = .ok (.goto (-40), 3) := by decide +kernel
theorem dX6_on_91 : decode cX6_on 91 = .ok (.iinc 4 1, 3) := by decide +kernel
theorem dX6_on_94 : decode cX6_on 94 = .ok (.goto (-64), 3) := by decide +kernel
theorem dX6_on_97 : decode cX6_on 97 = .ok (.aload_n 0, 1) := by decide +kernel
theorem dX6_on_98 : decode cX6_on 98 = .ok (.getfield 43, 3) := by decide +kernel
theorem dX6_on_101 : decode cX6_on 101 = .ok (.aload_n 0, 1) := by decide +kernel
theorem dX6_on_102 : decode cX6_on 102 = .ok (.getfield 11, 3) := by decide +kernel
theorem dX6_on_105 : decode cX6_on 105 = .ok (.iload_n 1, 1) := by decide +kernel
theorem dX6_on_106 : decode cX6_on 106 = .ok (.aaload, 1) := by decide +kernel
theorem dX6_on_107 : decode cX6_on 107 = .ok (.getfield 99, 3) := by decide +kernel
theorem dX6_on_110 : decode cX6_on 110 = .ok (.iload_n 3, 1) := by decide +kernel
theorem dX6_on_111 : decode cX6_on 111 = .ok (.iaload, 1) := by decide +kernel
theorem dX6_on_112 : decode cX6_on 112 = .ok (.putfield 303, 3) := by decide +kernel
theorem dX6_on_115 : decode cX6_on 115 = .ok (.aload_n 0, 1) := by decide +kernel
theorem dX6_on_116 : decode cX6_on 116 = .ok (.invokevirtual 133, 3) := by decide +kernel
theorem dX6_on_119 : decode cX6_on 119 = .ok (.iconst 1, 1) := by decide +kernel
theorem dX6_on_120 : decode cX6_on 120 = .ok (.ireturn, 1) := by decide +kernel
theorem dX6_asked_0 : decode cX6_asked 0 = .ok (.aload_n 0, 1) := by decide +kernel
theorem dX6_asked_1 : decode cX6_asked 1 = .ok (.getfield 64, 3) := by decide +kernel
theorem dX6_asked_4 : decode cX6_asked 4 = .ok (.ireturn, 1) := by decide +kernel
theorem dX6_upper_0 : decode cX6_upper 0 = .ok (.aload_n 0, 1) := by decide +kernel
theorem dX6_upper_1 : decode cX6_upper 1 = .ok (.getfield 67, 3) := by decide +kernel
theorem dX6_upper_4 : decode cX6_upper 4 = .ok (.lreturn, 1) := by decide +kernel
theorem dX6_lower_0 : decode cX6_lower 0 = .ok (.aload_n 0, 1) := by decide +kernel
theorem dX6_lower_1 : decode cX6_lower 1 = .ok (.getfield 71, 3) := by decide +kernel
theorem dX6_lower_4 : decode cX6_lower 4 = .ok (.lreturn, 1) := by decide +kernel
theorem dX6_count_0 : decode cX6_count 0 = .ok (.iload_n 1, 1) := by decide +kernel
theorem dX6_count_1 : decode cX6_count 1 = .ok (.tableswitch 102 0 6 #[43, 51, 59, 67, 75, 86, 94], 43) := by decide +kernel
theorem dX6_count_44 : decode cX6_count 44 = .ok (.aload_n 0, 1) := by decide +kernel
theorem dX6_count_45 : decode cX6_count 45 = .ok (.getfield 43, 3) := by decide +kernel
theorem dX6_count_48 : decode cX6_count 48 = .ok (.getfield 136, 3) := by decide +kernel
theorem dX6_count_51 : decode cX6_count 51 = .ok (.ireturn, 1) := by decide +kernel
theorem dX6_count_52 : decode cX6_count 52 = .ok (.aload_n 0, 1) := by decide +kernel
theorem dX6_count_53 : decode cX6_count 53 = .ok (.getfield 43, 3) := by decide +kernel
theorem dX6_count_56 : decode cX6_count 56 = .ok (.invokevirtual 309, 3) := by decide +kernel
theorem dX6_count_59 : decode cX6_count 59 = .ok (.ireturn, 1) := by decide +kernel
theorem dX6_count_60 : decode cX6_count 60 = .ok (.aload_n 0, 1) := by decide +kernel
theorem dX6_count_61 : decode cX6_count 61 = .ok (.getfield 43, 3) := by decide +kernel
theorem dX6_count_64 : decode cX6_count 64 = .ok (.getfield 154, 3) := by decide +kernel
theorem dX6_count_67 : decode cX6_count 67 = .ok (.ireturn, 1) := by decide +kernel
theorem dX6_count_68 : decode cX6_count 68 = .ok (.aload_n 0, 1) := by decide +kernel
theorem dX6_count_69 : decode cX6_count 69 = .ok (.getfield 43, 3) := by decide +kernel
theorem dX6_count_72 : decode cX6_count 72 = .ok (.invokevirtual 312, 3) := by decide +kernel
theorem dX6_count_75 : decode cX6_count 75 = .ok (.ireturn, 1) := by decide +kernel
theorem dX6_count_76 : decode cX6_count 76 = .ok (.aload_n 0, 1) := by decide +kernel
theorem dX6_count_77 : decode cX6_count 77 = .ok (.getfield 43, 3) := by decide +kernel
theorem dX6_count_80 : decode cX6_count 80 = .ok (.getfield 303, 3) := by decide +kernel
theorem dX6_count_83 : decode cX6_count 83 = .ok (.invokestatic 315, 3) := by decide +kernel
theorem dX6_count_86 : decode cX6_count 86 = .ok (.ireturn, 1) := by decide +kernel
theorem dX6_count_87 : decode cX6_count 87 = .ok (.aload_n 0, 1) := by decide +kernel
theorem dX6_count_88 : decode cX6_count 88 = .ok (.getfield 11, 3) := by decide +kernel
theorem dX6_count_91 : decode cX6_count 91 = .ok (.invokestatic 320, 3) := by decide +kernel
theorem dX6_count_94 : decode cX6_count 94 = .ok (.ireturn, 1) := by decide +kernel
theorem dX6_count_95 : decode cX6_count 95 = .ok (.aload_n 0, 1) := by decide +kernel
theorem dX6_count_96 : decode cX6_count 96 = .ok (.getfield 15, 3) := by decide +kernel
theorem dX6_count_99 : decode cX6_count 99 = .ok (.invokestatic 320, 3) := by decide +kernel
theorem dX6_count_102 : decode cX6_count 102 = .ok (.ireturn, 1) := by decide +kernel
theorem dX6_count_103 : decode cX6_count 103 = .ok (.iconst (-1), 1) := by decide +kernel
theorem dX6_count_104 : decode cX6_count 104 = .ok (.ireturn, 1) := by decide +kernel
theorem dX6_finding_0 : decode cX6_finding 0 = .ok (.aload_n 0, 1) := by decide +kernel
theorem dX6_finding_1 : decode cX6_finding 1 = .ok (.getfield 60, 3) := by decide +kernel
theorem dX6_finding_4 : decode cX6_finding 4 = .ok (.ireturn, 1) := by decide +kernel
theorem dX6_findings_0 : decode cX6_findings 0 = .ok (.iload_n 1, 1) := by decide +kernel
theorem dX6_findings_1 : decode cX6_findings 1 = .ok (.iconst 1, 1) := by decide +kernel
theorem dX6_findings_2 : decode cX6_findings 2 = .ok (.if_icmp .lt 8, 3) := by decide +kernel
theorem dX6_findings_5 : decode cX6_findings 5 = .ok (.iload_n 1, 1) := by decide +kernel
theorem dX6_findings_6 : decode cX6_findings 6 = .ok (.iconst 5, 1) := by decide +kernel
theorem dX6_findings_7 : decode cX6_findings 7 = .ok (.if_icmp .le 5, 3) := by decide +kernel
theorem dX6_findings_10 : decode cX6_findings 10 = .ok (.iconst (-1), 1) := by decide +kernel
theorem dX6_findings_11 : decode cX6_findings 11 = .ok (.ireturn, 1) := by decide +kernel
theorem dX6_findings_12 : decode cX6_findings 12 = .ok (.aload_n 0, 1) := by decide +kernel
theorem dX6_findings_13 : decode cX6_findings 13 = .ok (.getfield 44, 3) := by decide +kernel
theorem dX6_findings_16 : decode cX6_findings 16 = .ok (.iload_n 1, 1) := by decide +kernel
theorem dX6_findings_17 : decode cX6_findings 17 = .ok (.iaload, 1) := by decide +kernel
theorem dX6_findings_18 : decode cX6_findings 18 = .ok (.ireturn, 1) := by decide +kernel
theorem dX6_digest_0 : decode cX6_digest 0 = .ok (.ldc2_w 324, 3) := by decide +kernel
theorem dX6_digest_3 : decode cX6_digest 3 = .ok (.lstore_n 1, 1) := by decide +kernel
theorem dX6_digest_4 : decode cX6_digest 4 = .ok (.iconst 0, 1) := by decide +kernel
theorem dX6_digest_5 : decode cX6_digest 5 = .ok (.istore_n 3, 1) := by decide +kernel
theorem dX6_digest_6 : decode cX6_digest 6 = .ok (.iload_n 3, 1) := by decide +kernel
theorem dX6_digest_7 : decode cX6_digest 7 = .ok (.bipush 6, 2) := by decide +kernel
theorem dX6_digest_9 : decode cX6_digest 9 = .ok (.if_icmp .gt 22, 3) := by decide +kernel
theorem dX6_digest_12 : decode cX6_digest 12 = .ok (.ldc2_w 326, 3) := by decide +kernel
theorem dX6_digest_15 : decode cX6_digest 15 = .ok (.lload_n 1, 1) := by decide +kernel
theorem dX6_digest_16 : decode cX6_digest 16 = .ok (.lmul, 1) := by decide +kernel
theorem dX6_digest_17 : decode cX6_digest 17 = .ok (.aload_n 0, 1) := by decide +kernel
theorem dX6_digest_18 : decode cX6_digest 18 = .ok (.iload_n 3, 1) := by decide +kernel
theorem dX6_digest_19 : decode cX6_digest 19 = .ok (.invokevirtual 328, 3) := by decide +kernel
theorem dX6_digest_22 : decode cX6_digest 22 = .ok (.i2l, 1) := by decide +kernel
theorem dX6_digest_23 : decode cX6_digest 23 = .ok (.ladd, 1) := by decide +kernel
theorem dX6_digest_24 : decode cX6_digest 24 = .ok (.lstore_n 1, 1) := by decide +kernel
theorem dX6_digest_25 : decode cX6_digest 25 = .ok (.iinc 3 1, 3) := by decide +kernel
theorem dX6_digest_28 : decode cX6_digest 28 = .ok (.goto (-22), 3) := by decide +kernel
theorem dX6_digest_31 : decode cX6_digest 31 = .ok (.iconst 0, 1) := by decide +kernel
theorem dX6_digest_32 : decode cX6_digest 32 = .ok (.istore_n 3, 1) := by decide +kernel
theorem dX6_digest_33 : decode cX6_digest 33 = .ok (.iload_n 3, 1) := by decide +kernel
theorem dX6_digest_34 : decode cX6_digest 34 = .ok (.aload_n 0, 1) := by decide +kernel
theorem dX6_digest_35 : decode cX6_digest 35 = .ok (.getfield 43, 3) := by decide +kernel
theorem dX6_digest_38 : decode cX6_digest 38 = .ok (.getfield 136, 3) := by decide +kernel
theorem dX6_digest_41 : decode cX6_digest 41 = .ok (.if_icmp .ge 52, 3) := by decide +kernel
theorem dX6_digest_44 : decode cX6_digest 44 = .ok (.iload_n 3, 1) := by decide +kernel
theorem dX6_digest_45 : decode cX6_digest 45 = .ok (.iconst 1, 1) := by decide +kernel
theorem dX6_digest_46 : decode cX6_digest 46 = .ok (.iadd, 1) := by decide +kernel
theorem dX6_digest_47 : decode cX6_digest 47 = .ok (.istore 4, 2) := by decide +kernel
theorem dX6_digest_49 : decode cX6_digest 49 = .ok (.iload 4, 2) := by decide +kernel
theorem dX6_digest_51 : decode cX6_digest 51 = .ok (.aload_n 0, 1) := by decide +kernel
theorem dX6_digest_52 : decode cX6_digest 52 = .ok (.getfield 43, 3) := by decide +kernel
theorem dX6_digest_55 : decode cX6_digest 55 = .ok (.getfield 136, 3) := by decide +kernel
theorem dX6_digest_58 : decode cX6_digest 58 = .ok (.if_icmp .ge 29, 3) := by decide +kernel
theorem dX6_digest_61 : decode cX6_digest 61 = .ok (.ldc2_w 326, 3) := by decide +kernel
theorem dX6_digest_64 : decode cX6_digest 64 = .ok (.lload_n 1, 1) := by decide +kernel
theorem dX6_digest_65 : decode cX6_digest 65 = .ok (.lmul, 1) := by decide +kernel
theorem dX6_digest_66 : decode cX6_digest 66 = .ok (.aload_n 0, 1) := by decide +kernel
theorem dX6_digest_67 : decode cX6_digest 67 = .ok (.getfield 43, 3) := by decide +kernel
theorem dX6_digest_70 : decode cX6_digest 70 = .ok (.getfield 142, 3) := by decide +kernel
theorem dX6_digest_73 : decode cX6_digest 73 = .ok (.iload_n 3, 1) := by decide +kernel
theorem dX6_digest_74 : decode cX6_digest 74 = .ok (.aaload, 1) := by decide +kernel
theorem dX6_digest_75 : decode cX6_digest 75 = .ok (.iload 4, 2) := by decide +kernel
theorem dX6_digest_77 : decode cX6_digest 77 = .ok (.iaload, 1) := by decide +kernel
theorem dX6_digest_78 : decode cX6_digest 78 = .ok (.i2l, 1) := by decide +kernel
theorem dX6_digest_79 : decode cX6_digest 79 = .ok (.ladd, 1) := by decide +kernel
theorem dX6_digest_80 : decode cX6_digest 80 = .ok (.lstore_n 1, 1) := by decide +kernel
theorem dX6_digest_81 : decode cX6_digest 81 = .ok (.iinc 4 1, 3) := by decide +kernel
theorem dX6_digest_84 : decode cX6_digest 84 = .ok (.goto (-35), 3) := by decide +kernel
theorem dX6_digest_87 : decode cX6_digest 87 = .ok (.iinc 3 1, 3) := by decide +kernel
theorem dX6_digest_90 : decode cX6_digest 90 = .ok (.goto (-57), 3) := by decide +kernel
theorem dX6_digest_93 : decode cX6_digest 93 = .ok (.iconst 0, 1) := by decide +kernel
theorem dX6_digest_94 : decode cX6_digest 94 = .ok (.istore_n 3, 1) := by decide +kernel
theorem dX6_digest_95 : decode cX6_digest 95 = .ok (.iload_n 3, 1) := by decide +kernel
theorem dX6_digest_96 : decode cX6_digest 96 = .ok (.aload_n 0, 1) := by decide +kernel
theorem dX6_digest_97 : decode cX6_digest 97 = .ok (.getfield 43, 3) := by decide +kernel
theorem dX6_digest_100 : decode cX6_digest 100 = .ok (.getfield 154, 3) := by decide +kernel
theorem dX6_digest_103 : decode cX6_digest 103 = .ok (.if_icmp .ge 42, 3) := by decide +kernel
theorem dX6_digest_106 : decode cX6_digest 106 = .ok (.iconst 0, 1) := by decide +kernel
theorem dX6_digest_107 : decode cX6_digest 107 = .ok (.istore 4, 2) := by decide +kernel
theorem dX6_digest_109 : decode cX6_digest 109 = .ok (.iload 4, 2) := by decide +kernel
theorem dX6_digest_111 : decode cX6_digest 111 = .ok (.iconst 4, 1) := by decide +kernel
theorem dX6_digest_112 : decode cX6_digest 112 = .ok (.if_icmp .gt 27, 3) := by decide +kernel
theorem dX6_digest_115 : decode cX6_digest 115 = .ok (.ldc2_w 326, 3) := by decide +kernel
theorem dX6_digest_118 : decode cX6_digest 118 = .ok (.lload_n 1, 1) := by decide +kernel
theorem dX6_digest_119 : decode cX6_digest 119 = .ok (.lmul, 1) := by decide +kernel
theorem dX6_digest_120 : decode cX6_digest 120 = .ok (.aload_n 0, 1) := by decide +kernel
theorem dX6_digest_121 : decode cX6_digest 121 = .ok (.getfield 43, 3) := by decide +kernel
theorem dX6_digest_124 : decode cX6_digest 124 = .ok (.iload_n 3, 1) := by decide +kernel
theorem dX6_digest_125 : decode cX6_digest 125 = .ok (.iload 4, 2) := by decide +kernel
theorem dX6_digest_127 : decode cX6_digest 127 = .ok (.invokevirtual 174, 3) := by decide +kernel
theorem dX6_digest_130 : decode cX6_digest 130 = .ok (.i2l, 1) := by decide +kernel
theorem dX6_digest_131 : decode cX6_digest 131 = .ok (.ladd, 1) := by decide +kernel
theorem dX6_digest_132 : decode cX6_digest 132 = .ok (.lstore_n 1, 1) := by decide +kernel
theorem dX6_digest_133 : decode cX6_digest 133 = .ok (.iinc 4 1, 3) := by decide +kernel
theorem dX6_digest_136 : decode cX6_digest 136 = .ok (.goto (-27), 3) := by decide +kernel
theorem dX6_digest_139 : decode cX6_digest 139 = .ok (.iinc 3 1, 3) := by decide +kernel
theorem dX6_digest_142 : decode cX6_digest 142 = .ok (.goto (-47), 3) := by decide +kernel
theorem dX6_digest_145 : decode cX6_digest 145 = .ok (.aload_n 0, 1) := by decide +kernel
theorem dX6_digest_146 : decode cX6_digest 146 = .ok (.getfield 11, 3) := by decide +kernel
theorem dX6_digest_149 : decode cX6_digest 149 = .ok (.lload_n 1, 1) := by decide +kernel
theorem dX6_digest_150 : decode cX6_digest 150 = .ok (.invokestatic 331, 3) := by decide +kernel
theorem dX6_digest_153 : decode cX6_digest 153 = .ok (.lstore_n 1, 1) := by decide +kernel
theorem dX6_digest_154 : decode cX6_digest 154 = .ok (.aload_n 0, 1) := by decide +kernel
theorem dX6_digest_155 : decode cX6_digest 155 = .ok (.getfield 15, 3) := by decide +kernel
theorem dX6_digest_158 : decode cX6_digest 158 = .ok (.lload_n 1, 1) := by decide +kernel
theorem dX6_digest_159 : decode cX6_digest 159 = .ok (.invokestatic 331, 3) := by decide +kernel
theorem dX6_digest_162 : decode cX6_digest 162 = .ok (.lreturn, 1) := by decide +kernel
theorem dX6_isRow_0 : decode cX6_isRow 0 = .ok (.iload_n 0, 1) := by decide +kernel
theorem dX6_isRow_1 : decode cX6_isRow 1 = .ok (.ifCond .lt 13, 3) := by decide +kernel
theorem dX6_isRow_4 : decode cX6_isRow 4 = .ok (.iload_n 0, 1) := by decide +kernel
theorem dX6_isRow_5 : decode cX6_isRow 5 = .ok (.bipush 6, 2) := by decide +kernel
theorem dX6_isRow_7 : decode cX6_isRow 7 = .ok (.if_icmp .ge 7, 3) := by decide +kernel
theorem dX6_isRow_10 : decode cX6_isRow 10 = .ok (.iconst 1, 1) := by decide +kernel
theorem dX6_isRow_11 : decode cX6_isRow 11 = .ok (.goto 4, 3) := by decide +kernel
theorem dX6_isRow_14 : decode cX6_isRow 14 = .ok (.iconst 0, 1) := by decide +kernel
theorem dX6_isRow_15 : decode cX6_isRow 15 = .ok (.ireturn, 1) := by decide +kernel
theorem dX6_isText_0 : decode cX6_isText 0 = .ok (.iload_n 0, 1) := by decide +kernel
theorem dX6_isText_1 : decode cX6_isText 1 = .ok (.ifCond .lt 12, 3) := by decide +kernel
theorem dX6_isText_4 : decode cX6_isText 4 = .ok (.iload_n 0, 1) := by decide +kernel
theorem dX6_isText_5 : decode cX6_isText 5 = .ok (.iconst 4, 1) := by decide +kernel
theorem dX6_isText_6 : decode cX6_isText 6 = .ok (.if_icmp .ge 7, 3) := by decide +kernel
theorem dX6_isText_9 : decode cX6_isText 9 = .ok (.iconst 1, 1) := by decide +kernel
theorem dX6_isText_10 : decode cX6_isText 10 = .ok (.goto 4, 3) := by decide +kernel
theorem dX6_isText_13 : decode cX6_isText 13 = .ok (.iconst 0, 1) := by decide +kernel
theorem dX6_isText_14 : decode cX6_isText 14 = .ok (.ireturn, 1) := by decide +kernel
theorem dX6_isMeasure_0 : decode cX6_isMeasure 0 = .ok (.iload_n 0, 1) := by decide +kernel
theorem dX6_isMeasure_1 : decode cX6_isMeasure 1 = .ok (.ifCond .lt 12, 3) := by decide +kernel
theorem dX6_isMeasure_4 : decode cX6_isMeasure 4 = .ok (.iload_n 0, 1) := by decide +kernel
theorem dX6_isMeasure_5 : decode cX6_isMeasure 5 = .ok (.iconst 4, 1) := by decide +kernel
theorem dX6_isMeasure_6 : decode cX6_isMeasure 6 = .ok (.if_icmp .gt 7, 3) := by decide +kernel
theorem dX6_isMeasure_9 : decode cX6_isMeasure 9 = .ok (.iconst 1, 1) := by decide +kernel
theorem dX6_isMeasure_10 : decode cX6_isMeasure 10 = .ok (.goto 4, 3) := by decide +kernel
theorem dX6_isMeasure_13 : decode cX6_isMeasure 13 = .ok (.iconst 0, 1) := by decide +kernel
theorem dX6_isMeasure_14 : decode cX6_isMeasure 14 = .ok (.ireturn, 1) := by decide +kernel
theorem dX6_isSeed_0 : decode cX6_isSeed 0 = .ok (.iload_n 0, 1) := by decide +kernel
theorem dX6_isSeed_1 : decode cX6_isSeed 1 = .ok (.iconst 1, 1) := by decide +kernel
theorem dX6_isSeed_2 : decode cX6_isSeed 2 = .ok (.if_icmp .lt 16, 3) := by decide +kernel
theorem dX6_isSeed_5 : decode cX6_isSeed 5 = .ok (.iload_n 0, 1) := by decide +kernel
theorem dX6_isSeed_6 : decode cX6_isSeed 6 = .ok (.i2l, 1) := by decide +kernel
theorem dX6_isSeed_7 : decode cX6_isSeed 7 = .ok (.ldc2_w 335, 3) := by decide +kernel
theorem dX6_isSeed_10 : decode cX6_isSeed 10 = .ok (.lcmp, 1) := by decide +kernel
theorem dX6_isSeed_11 : decode cX6_isSeed 11 = .ok (.ifCond .ge 7, 3) := by decide +kernel
theorem dX6_isSeed_14 : decode cX6_isSeed 14 = .ok (.iconst 1, 1) := by decide +kernel
theorem dX6_isSeed_15 : decode cX6_isSeed 15 = .ok (.goto 4, 3) := by decide +kernel
theorem dX6_isSeed_18 : decode cX6_isSeed 18 = .ok (.iconst 0, 1) := by decide +kernel
theorem dX6_isSeed_19 : decode cX6_isSeed 19 = .ok (.ireturn, 1) := by decide +kernel
theorem dX6_found_0 : decode cX6_found 0 = .ok (.aload_n 0, 1) := by decide +kernel
theorem dX6_found_1 : decode cX6_found 1 = .ok (.iload_n 1, 1) := by decide +kernel
theorem dX6_found_2 : decode cX6_found 2 = .ok (.putfield 60, 3) := by decide +kernel
theorem dX6_found_5 : decode cX6_found 5 = .ok (.aload_n 0, 1) := by decide +kernel
theorem dX6_found_6 : decode cX6_found 6 = .ok (.getfield 44, 3) := by decide +kernel
theorem dX6_found_9 : decode cX6_found 9 = .ok (.iload_n 1, 1) := by decide +kernel
theorem dX6_found_10 : decode cX6_found 10 = .ok (.dup2, 1) := by decide +kernel
theorem dX6_found_11 : decode cX6_found 11 = .ok (.iaload, 1) := by decide +kernel
theorem dX6_found_12 : decode cX6_found 12 = .ok (.iconst 1, 1) := by decide +kernel
theorem dX6_found_13 : decode cX6_found 13 = .ok (.iadd, 1) := by decide +kernel
theorem dX6_found_14 : decode cX6_found 14 = .ok (.iastore, 1) := by decide +kernel
theorem dX6_found_15 : decode cX6_found 15 = .ok (.bipush (-3), 2) := by decide +kernel
theorem dX6_found_17 : decode cX6_found 17 = .ok (.ireturn, 1) := by decide +kernel
theorem dX6_thereOf_0 : decode cX6_thereOf 0 = .ok (.iconst 0, 1) := by decide +kernel
theorem dX6_thereOf_1 : decode cX6_thereOf 1 = .ok (.istore_n 1, 1) := by decide +kernel
theorem dX6_thereOf_2 : decode cX6_thereOf 2 = .ok (.iconst 0, 1) := by decide +kernel
theorem dX6_thereOf_3 : decode cX6_thereOf 3 = .ok (.istore_n 2, 1) := by decide +kernel
theorem dX6_thereOf_4 : decode cX6_thereOf 4 = .ok (.iload_n 2, 1) := by decide +kernel
theorem dX6_thereOf_5 : decode cX6_thereOf 5 = .ok (.aload_n 0, 1) := by decide +kernel
theorem dX6_thereOf_6 : decode cX6_thereOf 6 = .ok (.arraylength, 1) := by decide +kernel
theorem dX6_thereOf_7 : decode cX6_thereOf 7 = .ok (.if_icmp .ge 21, 3) := by decide +kernel
theorem dX6_thereOf_10 : decode cX6_thereOf 10 = .ok (.aload_n 0, 1) := by decide +kernel
theorem dX6_thereOf_11 : decode cX6_thereOf 11 = .ok (.iload_n 2, 1) := by decide +kernel
theorem dX6_thereOf_12 : decode cX6_thereOf 12 = .ok (.aaload, 1) := by decide +kernel
theorem dX6_thereOf_13 : decode cX6_thereOf 13 = .ok (.invokevirtual 102, 3) := by decide +kernel
theorem dX6_thereOf_16 : decode cX6_thereOf 16 = .ok (.ifCond .ne 6, 3) := by decide +kernel
theorem dX6_thereOf_19 : decode cX6_thereOf 19 = .ok (.iinc 1 1, 3) := by decide +kernel
theorem dX6_thereOf_22 : decode cX6_thereOf 22 = .ok (.iinc 2 1, 3) := by decide +kernel
theorem dX6_thereOf_25 : decode cX6_thereOf 25 = .ok (.goto (-21), 3) := by decide +kernel
theorem dX6_thereOf_28 : decode cX6_thereOf 28 = .ok (.iload_n 1, 1) := by decide +kernel
theorem dX6_thereOf_29 : decode cX6_thereOf 29 = .ok (.ireturn, 1) := by decide +kernel
