theorem dX4_comeOnFrom_0 : decode cX4_comeOnFrom 0 = .ok (.aload_n 0, 1) := by decide +kernel
theorem dX4_comeOnFrom_1 : decode cX4_comeOnFrom 1 = .ok (.iload_n 1, 1) := by decide +kernel
theorem dX4_comeOnFrom_2 : decode cX4_comeOnFrom 2 = .ok (.iload_n 2, 1) := by decide +kernel
theorem dX4_comeOnFrom_3 : decode cX4_comeOnFrom 3 = .ok (.invokevirtual 141, 3) := by decide +kernel
theorem dX4_comeOnFrom_6 : decode cX4_comeOnFrom 6 = .ok (.istore_n 3, 1) := by decide +kernel
theorem dX4_comeOnFrom_7 : decode cX4_comeOnFrom 7 = .ok (.iconst 0, 1) := by decide +kernel
theorem dX4_comeOnFrom_8 : decode cX4_comeOnFrom 8 = .ok (.istore 4, 2) := by decide +kernel
theorem dX4_comeOnFrom_10 : decode cX4_comeOnFrom 10 = .ok (.iload 4, 2) := by decide +kernel
theorem dX4_comeOnFrom_12 : decode cX4_comeOnFrom 12 = .ok (.aload_n 0, 1) := by decide +kernel
theorem dX4_comeOnFrom_13 : decode cX4_comeOnFrom 13 = .ok (.getfield 12, 3) := by decide +kernel
theorem dX4_comeOnFrom_16 : decode cX4_comeOnFrom 16 = .ok (.getfield 96, 3) := by decide +kernel
theorem dX4_comeOnFrom_19 : decode cX4_comeOnFrom 19 = .ok (.if_icmp .ge 47, 3) := by decide +kernel
theorem dX4_comeOnFrom_22 : decode cX4_comeOnFrom 22 = .ok (.iload_n 3, 1) := by decide +kernel
theorem dX4_comeOnFrom_23 : decode cX4_comeOnFrom 23 = .ok (.iload 4, 2) := by decide +kernel
theorem dX4_comeOnFrom_25 : decode cX4_comeOnFrom 25 = .ok (.ishr, 1) := by decide +kernel
theorem dX4_comeOnFrom_26 : decode cX4_comeOnFrom 26 = .ok (.iconst 1, 1) := by decide +kernel
theorem dX4_comeOnFrom_27 : decode cX4_comeOnFrom 27 = .ok (.iand, 1) := by decide +kernel
theorem dX4_comeOnFrom_28 : decode cX4_comeOnFrom 28 = .ok (.ifCond .eq 32, 3) := by decide +kernel
theorem dX4_comeOnFrom_31 : decode cX4_comeOnFrom 31 = .ok (.aload_n 0, 1) := by decide +kernel
theorem dX4_comeOnFrom_32 : decode cX4_comeOnFrom 32 = .ok (.getfield 37, 3) := by decide +kernel
theorem dX4_comeOnFrom_35 : decode cX4_comeOnFrom 35 = .ok (.iload_n 1, 1) := by decide +kernel
theorem dX4_comeOnFrom_36 : decode cX4_comeOnFrom 36 = .ok (.iconst 1, 1) := by decide +kernel
theorem dX4_comeOnFrom_37 : decode cX4_comeOnFrom 37 = .ok (.iload 4, 2) := by decide +kernel
theorem dX4_comeOnFrom_39 : decode cX4_comeOnFrom 39 = .ok (.ishl, 1) := by decide +kernel
theorem dX4_comeOnFrom_40 : decode cX4_comeOnFrom 40 = .ok (.ior, 1) := by decide +kernel
theorem dX4_comeOnFrom_41 : decode cX4_comeOnFrom 41 = .ok (.iload 4, 2) := by decide +kernel
theorem dX4_comeOnFrom_43 : decode cX4_comeOnFrom 43 = .ok (.invokestatic 89, 3) := by decide +kernel
theorem dX4_comeOnFrom_46 : decode cX4_comeOnFrom 46 = .ok (.dup2, 1) := by decide +kernel
theorem dX4_comeOnFrom_47 : decode cX4_comeOnFrom 47 = .ok (.iaload, 1) := by decide +kernel
theorem dX4_comeOnFrom_48 : decode cX4_comeOnFrom 48 = .ok (.aload_n 0, 1) := by decide +kernel
theorem dX4_comeOnFrom_49 : decode cX4_comeOnFrom 49 = .ok (.getfield 37, 3) := by decide +kernel
theorem dX4_comeOnFrom_52 : decode cX4_comeOnFrom 52 = .ok (.iload_n 1, 1) := by decide +kernel
theorem dX4_comeOnFrom_53 : decode cX4_comeOnFrom 53 = .ok (.iload_n 2, 1) := by decide +kernel
theorem dX4_comeOnFrom_54 : decode cX4_comeOnFrom 54 = .ok (.invokestatic 89, 3) := by decide +kernel
theorem dX4_comeOnFrom_57 : decode cX4_comeOnFrom 57 = .ok (.iaload, 1) := by decide +kernel
theorem dX4_comeOnFrom_58 : decode cX4_comeOnFrom 58 = .ok (.iadd, 1) := by decide +kernel
theorem dX4_comeOnFrom_59 : decode cX4_comeOnFrom 59 = .ok (.iastore, 1) := by decide +kernel
theorem dX4_comeOnFrom_60 : decode cX4_comeOnFrom 60 = .ok (.iinc 4 1, 3) := by decide +kernel
theorem dX4_comeOnFrom_63 : decode cX4_comeOnFrom 63 = .ok (.goto (-53), 3) := by decide +kernel
theorem dX4_comeOnFrom_66 : decode cX4_comeOnFrom 66 = .ok (.return_, 1) := by decide +kernel
theorem dX4_leastBroken_0 : decode cX4_leastBroken 0 = .ok (.aload_n 0, 1) := by decide +kernel
theorem dX4_leastBroken_1 : decode cX4_leastBroken 1 = .ok (.invokevirtual 162, 3) := by decide +kernel
theorem dX4_leastBroken_4 : decode cX4_leastBroken 4 = .ok (.aload_n 0, 1) := by decide +kernel
theorem dX4_leastBroken_5 : decode cX4_leastBroken 5 = .ok (.getfield 12, 3) := by decide +kernel
theorem dX4_leastBroken_8 : decode cX4_leastBroken 8 = .ok (.invokevirtual 77, 3) := by decide +kernel
theorem dX4_leastBroken_11 : decode cX4_leastBroken 11 = .ok (.istore_n 1, 1) := by decide +kernel
theorem dX4_leastBroken_12 : decode cX4_leastBroken 12 = .ok (.iload_n 1, 1) := by decide +kernel
theorem dX4_leastBroken_13 : decode cX4_leastBroken 13 = .ok (.ifCond .lt 55, 3) := by decide +kernel
theorem dX4_leastBroken_16 : decode cX4_leastBroken 16 = .ok (.aload_n 0, 1) := by decide +kernel
theorem dX4_leastBroken_17 : decode cX4_leastBroken 17 = .ok (.iload_n 1, 1) := by decide +kernel
theorem dX4_leastBroken_18 : decode cX4_leastBroken 18 = .ok (.invokevirtual 165, 3) := by decide +kernel
theorem dX4_leastBroken_21 : decode cX4_leastBroken 21 = .ok (.iconst 0, 1) := by decide +kernel
theorem dX4_leastBroken_22 : decode cX4_leastBroken 22 = .ok (.istore_n 2, 1) := by decide +kernel
theorem dX4_leastBroken_23 : decode cX4_leastBroken 23 = .ok (.iload_n 2, 1) := by decide +kernel
theorem dX4_leastBroken_24 : decode cX4_leastBroken 24 = .ok (.aload_n 0, 1) := by decide +kernel
theorem dX4_leastBroken_25 : decode cX4_leastBroken 25 = .ok (.iload_n 1, 1) := by decide +kernel
theorem dX4_leastBroken_26 : decode cX4_leastBroken 26 = .ok (.invokevirtual 81, 3) := by decide +kernel
theorem dX4_leastBroken_29 : decode cX4_leastBroken 29 = .ok (.if_icmp .ge 33, 3) := by decide +kernel
theorem dX4_leastBroken_32 : decode cX4_leastBroken 32 = .ok (.iload_n 1, 1) := by decide +kernel
theorem dX4_leastBroken_33 : decode cX4_leastBroken 33 = .ok (.iload_n 2, 1) := by decide +kernel
theorem dX4_leastBroken_34 : decode cX4_leastBroken 34 = .ok (.invokestatic 85, 3) := by decide +kernel
theorem dX4_leastBroken_37 : decode cX4_leastBroken 37 = .ok (.ifCond .eq 19, 3) := by decide +kernel
theorem dX4_leastBroken_40 : decode cX4_leastBroken 40 = .ok (.aload_n 0, 1) := by decide +kernel
theorem dX4_leastBroken_41 : decode cX4_leastBroken 41 = .ok (.getfield 28, 3) := by decide +kernel
theorem dX4_leastBroken_44 : decode cX4_leastBroken 44 = .ok (.iload_n 1, 1) := by decide +kernel
theorem dX4_leastBroken_45 : decode cX4_leastBroken 45 = .ok (.iload_n 2, 1) := by decide +kernel
theorem dX4_leastBroken_46 : decode cX4_leastBroken 46 = .ok (.invokestatic 89, 3) := by decide +kernel
theorem dX4_leastBroken_49 : decode cX4_leastBroken 49 = .ok (.aload_n 0, 1) := by decide +kernel
theorem dX4_leastBroken_50 : decode cX4_leastBroken 50 = .ok (.iload_n 1, 1) := by decide +kernel
theorem dX4_leastBroken_51 : decode cX4_leastBroken 51 = .ok (.iload_n 2, 1) := by decide +kernel
theorem dX4_leastBroken_52 : decode cX4_leastBroken 52 = .ok (.invokevirtual 168, 3) := by decide +kernel
theorem dX4_leastBroken_55 : decode cX4_leastBroken 55 = .ok (.iastore, 1) := by decide +kernel
theorem dX4_leastBroken_56 : decode cX4_leastBroken 56 = .ok (.iinc 2 1, 3) := by decide +kernel
theorem dX4_leastBroken_59 : decode cX4_leastBroken 59 = .ok (.goto (-36), 3) := by decide +kernel
theorem dX4_leastBroken_62 : decode cX4_leastBroken 62 = .ok (.iinc 1 (-1), 3) := by decide +kernel
theorem dX4_leastBroken_65 : decode cX4_leastBroken 65 = .ok (.goto (-53), 3) := by decide +kernel
theorem dX4_leastBroken_68 : decode cX4_leastBroken 68 = .ok (.aload_n 0, 1) := by decide +kernel
theorem dX4_leastBroken_69 : decode cX4_leastBroken 69 = .ok (.getfield 28, 3) := by decide +kernel
theorem dX4_leastBroken_72 : decode cX4_leastBroken 72 = .ok (.iconst 0, 1) := by decide +kernel
theorem dX4_leastBroken_73 : decode cX4_leastBroken 73 = .ok (.iaload, 1) := by decide +kernel
theorem dX4_leastBroken_74 : decode cX4_leastBroken 74 = .ok (.ireturn, 1) := by decide +kernel
theorem dX4_costOfRule_0 : decode cX4_costOfRule 0 = .ok (.sipush 256, 3) := by decide +kernel
theorem dX4_costOfRule_3 : decode cX4_costOfRule 3 = .ok (.iconst 1, 1) := by decide +kernel
theorem dX4_costOfRule_4 : decode cX4_costOfRule 4 = .ok (.iload_n 0, 1) := by decide +kernel
theorem dX4_costOfRule_5 : decode cX4_costOfRule 5 = .ok (.ishl, 1) := by decide +kernel
theorem dX4_costOfRule_6 : decode cX4_costOfRule 6 = .ok (.ior, 1) := by decide +kernel
theorem dX4_costOfRule_7 : decode cX4_costOfRule 7 = .ok (.ireturn, 1) := by decide +kernel
theorem dX4_fillNextCosts_0 : decode cX4_fillNextCosts 0 = .ok (.aload_n 0, 1) := by decide +kernel
theorem dX4_fillNextCosts_1 : decode cX4_fillNextCosts 1 = .ok (.getfield 43, 3) := by decide +kernel
theorem dX4_fillNextCosts_4 : decode cX4_fillNextCosts 4 = .ok (.iconst 0, 1) := by decide +kernel
theorem dX4_fillNextCosts_5 : decode cX4_fillNextCosts 5 = .ok (.invokestatic 144, 3) := by decide +kernel
theorem dX4_fillNextCosts_8 : decode cX4_fillNextCosts 8 = .ok (.iconst 0, 1) := by decide +kernel
theorem dX4_fillNextCosts_9 : decode cX4_fillNextCosts 9 = .ok (.istore_n 1, 1) := by decide +kernel
theorem dX4_fillNextCosts_10 : decode cX4_fillNextCosts 10 = .ok (.iload_n 1, 1) := by decide +kernel
theorem dX4_fillNextCosts_11 : decode cX4_fillNextCosts 11 = .ok (.bipush 10, 2) := by decide +kernel
theorem dX4_fillNextCosts_13 : decode cX4_fillNextCosts 13 = .ok (.if_icmp .gt 54, 3) := by decide +kernel
theorem dX4_fillNextCosts_16 : decode cX4_fillNextCosts 16 = .ok (.iconst 0, 1) := by decide +kernel
theorem dX4_fillNextCosts_17 : decode cX4_fillNextCosts 17 = .ok (.istore_n 2, 1) := by decide +kernel
theorem dX4_fillNextCosts_18 : decode cX4_fillNextCosts 18 = .ok (.iload_n 2, 1) := by decide +kernel
theorem dX4_fillNextCosts_19 : decode cX4_fillNextCosts 19 = .ok (.aload_n 0, 1) := by decide +kernel
theorem dX4_fillNextCosts_20 : decode cX4_fillNextCosts 20 = .ok (.getfield 12, 3) := by decide +kernel
theorem dX4_fillNextCosts_23 : decode cX4_fillNextCosts 23 = .ok (.getfield 113, 3) := by decide +kernel
theorem dX4_fillNextCosts_26 : decode cX4_fillNextCosts 26 = .ok (.if_icmp .ge 35, 3) := by decide +kernel
theorem dX4_fillNextCosts_29 : decode cX4_fillNextCosts 29 = .ok (.aload_n 0, 1) := by decide +kernel
theorem dX4_fillNextCosts_30 : decode cX4_fillNextCosts 30 = .ok (.aload_n 0, 1) := by decide +kernel
theorem dX4_fillNextCosts_31 : decode cX4_fillNextCosts 31 = .ok (.getfield 12, 3) := by decide +kernel
theorem dX4_fillNextCosts_34 : decode cX4_fillNextCosts 34 = .ok (.iload_n 2, 1) := by decide +kernel
theorem dX4_fillNextCosts_35 : decode cX4_fillNextCosts 35 = .ok (.iload_n 1, 1) := by decide +kernel
theorem dX4_fillNextCosts_36 : decode cX4_fillNextCosts 36 = .ok (.invokevirtual 119, 3) := by decide +kernel
theorem dX4_fillNextCosts_39 : decode cX4_fillNextCosts 39 = .ok (.iload_n 2, 1) := by decide +kernel
theorem dX4_fillNextCosts_40 : decode cX4_fillNextCosts 40 = .ok (.invokestatic 171, 3) := by decide +kernel
theorem dX4_fillNextCosts_43 : decode cX4_fillNextCosts 43 = .ok (.aload_n 0, 1) := by decide +kernel
theorem dX4_fillNextCosts_44 : decode cX4_fillNextCosts 44 = .ok (.getfield 43, 3) := by decide +kernel
theorem dX4_fillNextCosts_47 : decode cX4_fillNextCosts 47 = .ok (.iload_n 1, 1) := by decide +kernel
theorem dX4_fillNextCosts_48 : decode cX4_fillNextCosts 48 = .ok (.iconst 0, 1) := by decide +kernel
theorem dX4_fillNextCosts_49 : decode cX4_fillNextCosts 49 = .ok (.invokestatic 89, 3) := by decide +kernel
theorem dX4_fillNextCosts_52 : decode cX4_fillNextCosts 52 = .ok (.invokevirtual 174, 3) := by decide +kernel
theorem dX4_fillNextCosts_55 : decode cX4_fillNextCosts 55 = .ok (.iinc 2 1, 3) := by decide +kernel
theorem dX4_fillNextCosts_58 : decode cX4_fillNextCosts 58 = .ok (.goto (-40), 3) := by decide +kernel
theorem dX4_fillNextCosts_61 : decode cX4_fillNextCosts 61 = .ok (.iinc 1 1, 3) := by decide +kernel
theorem dX4_fillNextCosts_64 : decode cX4_fillNextCosts 64 = .ok (.goto (-54), 3) := by decide +kernel
theorem dX4_fillNextCosts_67 : decode cX4_fillNextCosts 67 = .ok (.return_, 1) := by decide +kernel
theorem dX4_fillBehindCosts_0 : decode cX4_fillBehindCosts 0 = .ok (.aload_n 0, 1) := by decide +kernel
theorem dX4_fillBehindCosts_1 : decode cX4_fillBehindCosts 1 = .ok (.getfield 40, 3) := by decide +kernel
theorem dX4_fillBehindCosts_4 : decode cX4_fillBehindCosts 4 = .ok (.iconst 0, 1) := by decide +kernel
theorem dX4_fillBehindCosts_5 : decode cX4_fillBehindCosts 5 = .ok (.invokestatic 144, 3) := by decide +kernel
theorem dX4_fillBehindCosts_8 : decode cX4_fillBehindCosts 8 = .ok (.iconst 0, 1) := by decide +kernel
theorem dX4_fillBehindCosts_9 : decode cX4_fillBehindCosts 9 = .ok (.istore_n 2, 1) := by decide +kernel
theorem dX4_fillBehindCosts_10 : decode cX4_fillBehindCosts 10 = .ok (.iload_n 2, 1) := by decide +kernel
theorem dX4_fillBehindCosts_11 : decode cX4_fillBehindCosts 11 = .ok (.aload_n 0, 1) := by decide +kernel
theorem dX4_fillBehindCosts_12 : decode cX4_fillBehindCosts 12 = .ok (.getfield 12, 3) := by decide +kernel
theorem dX4_fillBehindCosts_15 : decode cX4_fillBehindCosts 15 = .ok (.getfield 113, 3) := by decide +kernel
theorem dX4_fillBehindCosts_18 : decode cX4_fillBehindCosts 18 = .ok (.if_icmp .ge 31, 3) := by decide +kernel
theorem dX4_fillBehindCosts_21 : decode cX4_fillBehindCosts 21 = .ok (.aload_n 0, 1) := by decide +kernel
theorem dX4_fillBehindCosts_22 : decode cX4_fillBehindCosts 22 = .ok (.aload_n 0, 1) := by decide +kernel
theorem dX4_fillBehindCosts_23 : decode cX4_fillBehindCosts 23 = .ok (.getfield 12, 3) := by decide +kernel
theorem dX4_fillBehindCosts_26 : decode cX4_fillBehindCosts 26 = .ok (.iload_n 2, 1) := by decide +kernel
theorem dX4_fillBehindCosts_27 : decode cX4_fillBehindCosts 27 = .ok (.iload_n 1, 1) := by decide +kernel
theorem dX4_fillBehindCosts_28 : decode cX4_fillBehindCosts 28 = .ok (.invokevirtual 116, 3) := by decide +kernel
theorem dX4_fillBehindCosts_31 : decode cX4_fillBehindCosts 31 = .ok (.iload_n 2, 1) := by decide +kernel
theorem dX4_fillBehindCosts_32 : decode cX4_fillBehindCosts 32 = .ok (.invokestatic 171, 3) := by decide +kernel
theorem dX4_fillBehindCosts_35 : decode cX4_fillBehindCosts 35 = .ok (.aload_n 0, 1) := by decide +kernel
theorem dX4_fillBehindCosts_36 : decode cX4_fillBehindCosts 36 = .ok (.getfield 40, 3) := by decide +kernel
theorem dX4_fillBehindCosts_39 : decode cX4_fillBehindCosts 39 = .ok (.iconst 0, 1) := by decide +kernel
theorem dX4_fillBehindCosts_40 : decode cX4_fillBehindCosts 40 = .ok (.invokevirtual 174, 3) := by decide +kernel
theorem dX4_fillBehindCosts_43 : decode cX4_fillBehindCosts 43 = .ok (.iinc 2 1, 3) := by decide +kernel
theorem dX4_fillBehindCosts_46 : decode cX4_fillBehindCosts 46 = .ok (.goto (-36), 3) := by decide +kernel
theorem dX4_fillBehindCosts_49 : decode cX4_fillBehindCosts 49 = .ok (.return_, 1) := by decide +kernel
theorem dX4_addCosts_0 : decode cX4_addCosts 0 = .ok (.iconst 0, 1) := by decide +kernel
theorem dX4_addCosts_1 : decode cX4_addCosts 1 = .ok (.istore 5, 2) := by decide +kernel
theorem dX4_addCosts_3 : decode cX4_addCosts 3 = .ok (.iload 5, 2) := by decide +kernel
theorem dX4_addCosts_5 : decode cX4_addCosts 5 = .ok (.aload_n 0, 1) := by decide +kernel
theorem dX4_addCosts_6 : decode cX4_addCosts 6 = .ok (.getfield 12, 3) := by decide +kernel
theorem dX4_addCosts_9 : decode cX4_addCosts 9 = .ok (.getfield 96, 3) := by decide +kernel
theorem dX4_addCosts_12 : decode cX4_addCosts 12 = .ok (.if_icmp .ge 29, 3) := by decide +kernel
theorem dX4_addCosts_15 : decode cX4_addCosts 15 = .ok (.iload_n 1, 1) := by decide +kernel
theorem dX4_addCosts_16 : decode cX4_addCosts 16 = .ok (.iload 5, 2) := by decide +kernel
theorem dX4_addCosts_18 : decode cX4_addCosts 18 = .ok (.ishr, 1) := by decide +kernel
theorem dX4_addCosts_19 : decode cX4_addCosts 19 = .ok (.iconst 1, 1) := by decide +kernel
theorem dX4_addCosts_20 : decode cX4_addCosts 20 = .ok (.iand, 1) := by decide +kernel
theorem dX4_addCosts_21 : decode cX4_addCosts 21 = .ok (.ifCond .eq 14, 3) := by decide +kernel
theorem dX4_addCosts_24 : decode cX4_addCosts 24 = .ok (.aload_n 3, 1) := by decide +kernel
theorem dX4_addCosts_25 : decode cX4_addCosts 25 = .ok (.iload 4, 2) := by decide +kernel
theorem dX4_addCosts_27 : decode cX4_addCosts 27 = .ok (.iload 5, 2) := by decide +kernel
theorem dX4_addCosts_29 : decode cX4_addCosts 29 = .ok (.iadd, 1) := by decide +kernel
theorem dX4_addCosts_30 : decode cX4_addCosts 30 = .ok (.dup2, 1) := by decide +kernel
theorem dX4_addCosts_31 : decode cX4_addCosts 31 = .ok (.iaload, 1) := by decide +kernel
theorem dX4_addCosts_32 : decode cX4_addCosts 32 = .ok (.iload_n 2, 1) := by decide +kernel
theorem dX4_addCosts_33 : decode cX4_addCosts 33 = .ok (.iadd, 1) := by decide +kernel
theorem dX4_addCosts_34 : decode cX4_addCosts 34 = .ok (.iastore, 1) := by decide +kernel
theorem dX4_addCosts_35 : decode cX4_addCosts 35 = .ok (.iinc 5 1, 3) := by decide +kernel
theorem dX4_addCosts_38 : decode cX4_addCosts 38 = .ok (.goto (-35), 3) := by decide +kernel
theorem dX4_addCosts_41 : decode cX4_addCosts 41 = .ok (.return_, 1) := by decide +kernel
theorem dX4_leastBrokenFrom_0 : decode cX4_leastBrokenFrom 0 = .ok (.iload_n 1, 1) := by decide +kernel
theorem dX4_leastBrokenFrom_1 : decode cX4_leastBrokenFrom 1 = .ok (.aload_n 0, 1) := by decide +kernel
theorem dX4_leastBrokenFrom_2 : decode cX4_leastBrokenFrom 2 = .ok (.getfield 12, 3) := by decide +kernel
theorem dX4_leastBrokenFrom_5 : decode cX4_leastBrokenFrom 5 = .ok (.invokevirtual 77, 3) := by decide +kernel
theorem dX4_leastBrokenFrom_8 : decode cX4_leastBrokenFrom 8 = .ok (.if_icmp .ne 5, 3) := by decide +kernel
theorem dX4_leastBrokenFrom_11 : decode cX4_leastBrokenFrom 11 = .ok (.iconst 0, 1) := by decide +kernel
theorem dX4_leastBrokenFrom_12 : decode cX4_leastBrokenFrom 12 = .ok (.ireturn, 1) := by decide +kernel
theorem dX4_leastBrokenFrom_13 : decode cX4_leastBrokenFrom 13 = .ok (.iload_n 1, 1) := by decide +kernel
theorem dX4_leastBrokenFrom_14 : decode cX4_leastBrokenFrom 14 = .ok (.ifCond .ne 8, 3) := by decide +kernel
theorem dX4_leastBrokenFrom_17 : decode cX4_leastBrokenFrom 17 = .ok (.bipush 10, 2) := by decide +kernel
theorem dX4_leastBrokenFrom_19 : decode cX4_leastBrokenFrom 19 = .ok (.goto 4, 3) := by decide +kernel
theorem dX4_leastBrokenFrom_22 : decode cX4_leastBrokenFrom 22 = .ok (.iload_n 2, 1) := by decide +kernel
theorem dX4_leastBrokenFrom_23 : decode cX4_leastBrokenFrom 23 = .ok (.iconst 0, 1) := by decide +kernel
theorem dX4_leastBrokenFrom_24 : decode cX4_leastBrokenFrom 24 = .ok (.invokestatic 89, 3) := by decide +kernel
theorem dX4_leastBrokenFrom_27 : decode cX4_leastBrokenFrom 27 = .ok (.istore_n 3, 1) := by decide +kernel
theorem dX4_leastBrokenFrom_28 : decode cX4_leastBrokenFrom 28 = .ok (.ldc 70, 2) := by decide +kernel
theorem dX4_leastBrokenFrom_30 : decode cX4_leastBrokenFrom 30 = .ok (.istore 4, 2) := by decide +kernel
theorem dX4_leastBrokenFrom_32 : decode cX4_leastBrokenFrom 32 = .ok (.iconst 0, 1) := by decide +kernel
theorem dX4_leastBrokenFrom_33 : decode cX4_leastBrokenFrom 33 = .ok (.istore 5, 2) := by decide +kernel
theorem dX4_leastBrokenFrom_35 : decode cX4_leastBrokenFrom 35 = .ok (.iload 5, 2) := by decide +kernel
theorem dX4_leastBrokenFrom_37 : decode cX4_leastBrokenFrom 37 = .ok (.aload_n 0, 1) := by decide +kernel
theorem dX4_leastBrokenFrom_38 : decode cX4_leastBrokenFrom 38 = .ok (.getfield 12, 3) := by decide +kernel
theorem dX4_leastBrokenFrom_41 : decode cX4_leastBrokenFrom 41 = .ok (.getfield 96, 3) := by decide +kernel
theorem dX4_leastBrokenFrom_44 : decode cX4_leastBrokenFrom 44 = .ok (.if_icmp .ge 63, 3) := by decide +kernel
theorem dX4_leastBrokenFrom_47 : decode cX4_leastBrokenFrom 47 = .ok (.iload_n 1, 1) := by decide +kernel
theorem dX4_leastBrokenFrom_48 : decode cX4_leastBrokenFrom 48 = .ok (.iload 5, 2) := by decide +kernel
theorem dX4_leastBrokenFrom_50 : decode cX4_leastBrokenFrom 50 = .ok (.ishr, 1) := by decide +kernel
theorem dX4_leastBrokenFrom_51 : decode cX4_leastBrokenFrom 51 = .ok (.iconst 1, 1) := by decide +kernel
theorem dX4_leastBrokenFrom_52 : decode cX4_leastBrokenFrom 52 = .ok (.iand, 1) := by decide +kernel
theorem dX4_leastBrokenFrom_53 : decode cX4_leastBrokenFrom 53 = .ok (.ifCond .ne 48, 3) := by decide +kernel
theorem dX4_leastBrokenFrom_56 : decode cX4_leastBrokenFrom 56 = .ok (.aload_n 0, 1) := by decide +kernel
theorem dX4_leastBrokenFrom_57 : decode cX4_leastBrokenFrom 57 = .ok (.getfield 40, 3) := by decide +kernel
theorem dX4_leastBrokenFrom_60 : decode cX4_leastBrokenFrom 60 = .ok (.iload 5, 2) := by decide +kernel
theorem dX4_leastBrokenFrom_62 : decode cX4_leastBrokenFrom 62 = .ok (.iaload, 1) := by decide +kernel
theorem dX4_leastBrokenFrom_63 : decode cX4_leastBrokenFrom 63 = .ok (.aload_n 0, 1) := by decide +kernel
theorem dX4_leastBrokenFrom_64 : decode cX4_leastBrokenFrom 64 = .ok (.getfield 43, 3) := by decide +kernel
theorem dX4_leastBrokenFrom_67 : decode cX4_leastBrokenFrom 67 = .ok (.iload_n 3, 1) := by decide +kernel
theorem dX4_leastBrokenFrom_68 : decode cX4_leastBrokenFrom 68 = .ok (.iload 5, 2) := by decide +kernel
theorem dX4_leastBrokenFrom_70 : decode cX4_leastBrokenFrom 70 = .ok (.iadd, 1) := by decide +kernel
theorem dX4_leastBrokenFrom_71 : decode cX4_leastBrokenFrom 71 = .ok (.iaload, 1) := by decide +kernel
theorem dX4_leastBrokenFrom_72 : decode cX4_leastBrokenFrom 72 = .ok (.iadd, 1) := by decide +kernel
theorem dX4_leastBrokenFrom_73 : decode cX4_leastBrokenFrom 73 = .ok (.istore 6, 2) := by decide +kernel
theorem dX4_leastBrokenFrom_75 : decode cX4_leastBrokenFrom 75 = .ok (.iload 4, 2) := by decide +kernel
theorem dX4_leastBrokenFrom_77 : decode cX4_leastBrokenFrom 77 = .ok (.iload 6, 2) := by decide +kernel
theorem dX4_leastBrokenFrom_79 : decode cX4_leastBrokenFrom 79 = .ok (.aload_n 0, 1) := by decide +kernel
theorem dX4_leastBrokenFrom_80 : decode cX4_leastBrokenFrom 80 = .ok (.getfield 28, 3) := by decide +kernel
theorem dX4_leastBrokenFrom_83 : decode cX4_leastBrokenFrom 83 = .ok (.iload_n 1, 1) := by decide +kernel
theorem dX4_leastBrokenFrom_84 : decode cX4_leastBrokenFrom 84 = .ok (.iconst 1, 1) := by decide +kernel
theorem dX4_leastBrokenFrom_85 : decode cX4_leastBrokenFrom 85 = .ok (.iload 5, 2) := by decide +kernel
theorem dX4_leastBrokenFrom_87 : decode cX4_leastBrokenFrom 87 = .ok (.ishl, 1) := by decide +kernel
theorem dX4_leastBrokenFrom_88 : decode cX4_leastBrokenFrom 88 = .ok (.ior, 1) := by decide +kernel
theorem dX4_leastBrokenFrom_89 : decode cX4_leastBrokenFrom 89 = .ok (.iload 5, 2) := by decide +kernel
theorem dX4_leastBrokenFrom_91 : decode cX4_leastBrokenFrom 91 = .ok (.invokestatic 89, 3) := by decide +kernel
theorem dX4_leastBrokenFrom_94 : decode cX4_leastBrokenFrom 94 = .ok (.iaload, 1) := by decide +kernel
theorem dX4_leastBrokenFrom_95 : decode cX4_leastBrokenFrom 95 = .ok (.iadd, 1) := by decide +kernel
theorem dX4_leastBrokenFrom_96 : decode cX4_leastBrokenFrom 96 = .ok (.invokestatic 125, 3) := by decide +kernel
theorem dX4_leastBrokenFrom_99 : decode cX4_leastBrokenFrom 99 = .ok (.istore 4, 2) := by decide +kernel
theorem dX4_leastBrokenFrom_101 : decode cX4_leastBrokenFrom 101 = .ok (.iinc 5 1, 3) := by decide +kernel
theorem dX4_leastBrokenFrom_104 : decode cX4_leastBrokenFrom 104 = .ok (.goto (-69), 3) := by decide +kernel
theorem dX4_leastBrokenFrom_107 : decode cX4_leastBrokenFrom 107 = .ok (.iload 4, 2) := by decide +kernel
theorem dX4_leastBrokenFrom_109 : decode cX4_leastBrokenFrom 109 = .ok (.ireturn, 1) := by decide +kernel
theorem dX5_init_0 : decode cX5_init 0 = .ok (.aload_n 0, 1) := by decide +kernel
theorem dX5_init_1 : decode cX5_init 1 = .ok (.invokespecial 3, 3) := by decide +kernel
theorem dX5_init_4 : decode cX5_init 4 = .ok (.aload_n 0, 1) := by decide +kernel
theorem dX5_init_5 : decode cX5_init 5 = .ok (.iconst 0, 1) := by decide +kernel
theorem dX5_init_6 : decode cX5_init 6 = .ok (.putfield 9, 3) := by decide +kernel
theorem dX5_init_9 : decode cX5_init 9 = .ok (.aload_n 0, 1) := by decide +kernel
theorem dX5_init_10 : decode cX5_init 10 = .ok (.iconst 0, 1) := by decide +kernel
theorem dX5_init_11 : decode cX5_init 11 = .ok (.putfield 15, 3) := by decide +kernel
theorem dX5_init_14 : decode cX5_init 14 = .ok (.aload_n 0, 1) := by decide +kernel
theorem dX5_init_15 : decode cX5_init 15 = .ok (.iconst 0, 1) := by decide +kernel
theorem dX5_init_16 : decode cX5_init 16 = .ok (.putfield 18, 3) := by decide +kernel
theorem dX5_init_19 : decode cX5_init 19 = .ok (.aload_n 0, 1) := by decide +kernel
theorem dX5_init_20 : decode cX5_init 20 = .ok (.bipush 10, 2) := by decide +kernel
theorem dX5_init_22 : decode cX5_init 22 = .ok (.bipush 10, 2) := by decide +kernel
theorem dX5_init_24 : decode cX5_init 24 = .ok (.multianewarray 21 2, 4) := by decide +kernel
theorem dX5_init_28 : decode cX5_init 28 = .ok (.putfield 23, 3) := by decide +kernel
theorem dX5_init_31 : decode cX5_init 31 = .ok (.aload_n 0, 1) := by decide +kernel
theorem dX5_init_32 : decode cX5_init 32 = .ok (.bipush 10, 2) := by decide +kernel
theorem dX5_init_34 : decode cX5_init 34 = .ok (.newarray .int, 2) := by decide +kernel
theorem dX5_init_36 : decode cX5_init 36 = .ok (.putfield 26, 3) := by decide +kernel
theorem dX5_init_39 : decode cX5_init 39 = .ok (.aload_n 0, 1) := by decide +kernel
theorem dX5_init_40 : decode cX5_init 40 = .ok (.bipush 10, 2) := by decide +kernel
theorem dX5_init_42 : decode cX5_init 42 = .ok (.newarray .int, 2) := by decide +kernel
theorem dX5_init_44 : decode cX5_init 44 = .ok (.putfield 30, 3) := by decide +kernel
theorem dX5_init_47 : decode cX5_init 47 = .ok (.aload_n 0, 1) := by decide +kernel
theorem dX5_init_48 : decode cX5_init 48 = .ok (.bipush 8, 2) := by decide +kernel
theorem dX5_init_50 : decode cX5_init 50 = .ok (.newarray .int, 2) := by decide +kernel
theorem dX5_init_52 : decode cX5_init 52 = .ok (.putfield 33, 3) := by decide +kernel
theorem dX5_init_55 : decode cX5_init 55 = .ok (.aload_n 0, 1) := by decide +kernel
theorem dX5_init_56 : decode cX5_init 56 = .ok (.bipush 8, 2) := by decide +kernel
theorem dX5_init_58 : decode cX5_init 58 = .ok (.newarray .int, 2) := by decide +kernel
theorem dX5_init_60 : decode cX5_init 60 = .ok (.putfield 36, 3) := by decide +kernel
theorem dX5_init_63 : decode cX5_init 63 = .ok (.aload_n 0, 1) := by decide +kernel
theorem dX5_init_64 : decode cX5_init 64 = .ok (.bipush 8, 2) := by decide +kernel
theorem dX5_init_66 : decode cX5_init 66 = .ok (.newarray .int, 2) := by decide +kernel
theorem dX5_init_68 : decode cX5_init 68 = .ok (.putfield 39, 3) := by decide +kernel
theorem dX5_init_71 : decode cX5_init 71 = .ok (.aload_n 0, 1) := by decide +kernel
theorem dX5_init_72 : decode cX5_init 72 = .ok (.bipush 8, 2) := by decide +kernel
theorem dX5_init_74 : decode cX5_init 74 = .ok (.newarray .int, 2) := by decide +kernel
theorem dX5_init_76 : decode cX5_init 76 = .ok (.putfield 42, 3) := by decide +kernel
theorem dX5_init_79 : decode cX5_init 79 = .ok (.aload_n 0, 1) := by decide +kernel
theorem dX5_init_80 : decode cX5_init 80 = .ok (.bipush 10, 2) := by decide +kernel
theorem dX5_init_82 : decode cX5_init 82 = .ok (.newarray .int, 2) := by decide +kernel
theorem dX5_init_84 : decode cX5_init 84 = .ok (.putfield 45, 3) := by decide +kernel
theorem dX5_init_87 : decode cX5_init 87 = .ok (.return_, 1) := by decide +kernel
theorem dX5_clear_0 : decode cX5_clear 0 = .ok (.aload_n 0, 1) := by decide +kernel
theorem dX5_clear_1 : decode cX5_clear 1 = .ok (.iload_n 1, 1) := by decide +kernel
theorem dX5_clear_2 : decode cX5_clear 2 = .ok (.putfield 9, 3) := by decide +kernel
theorem dX5_clear_5 : decode cX5_clear 5 = .ok (.aload_n 0, 1) := by decide +kernel
theorem dX5_clear_6 : decode cX5_clear 6 = .ok (.iconst 0, 1) := by decide +kernel
theorem dX5_clear_7 : decode cX5_clear 7 = .ok (.putfield 15, 3) := by decide +kernel
theorem dX5_clear_10 : decode cX5_clear 10 = .ok (.aload_n 0, 1) := by decide +kernel
theorem dX5_clear_11 : decode cX5_clear 11 = .ok (.iconst 0, 1) := by decide +kernel
theorem dX5_clear_12 : decode cX5_clear 12 = .ok (.putfield 18, 3) := by decide +kernel
theorem dX5_clear_15 : decode cX5_clear 15 = .ok (.iconst 0, 1) := by decide +kernel
theorem dX5_clear_16 : decode cX5_clear 16 = .ok (.istore_n 2, 1) := by decide +kernel
theorem dX5_clear_17 : decode cX5_clear 17 = .ok (.iload_n 2, 1) := by decide +kernel
theorem dX5_clear_18 : decode cX5_clear 18 = .ok (.bipush 10, 2) := by decide +kernel
theorem dX5_clear_20 : decode cX5_clear 20 = .ok (.if_icmp .ge 33, 3) := by decide +kernel
theorem dX5_clear_23 : decode cX5_clear 23 = .ok (.aload_n 0, 1) := by decide +kernel
theorem dX5_clear_24 : decode cX5_clear 24 = .ok (.getfield 23, 3) := by decide +kernel
theorem dX5_clear_27 : decode cX5_clear 27 = .ok (.iload_n 2, 1) := by decide +kernel
theorem dX5_clear_28 : decode cX5_clear 28 = .ok (.aaload, 1) := by decide +kernel
theorem dX5_clear_29 : decode cX5_clear 29 = .ok (.iconst 0, 1) := by decide +kernel
theorem dX5_clear_30 : decode cX5_clear 30 = .ok (.invokestatic 48, 3) := by decide +kernel
theorem dX5_clear_33 : decode cX5_clear 33 = .ok (.aload_n 0, 1) := by decide +kernel
theorem dX5_clear_34 : decode cX5_clear 34 = .ok (.getfield 26, 3) := by decide +kernel
theorem dX5_clear_37 : decode cX5_clear 37 = .ok (.iload_n 2, 1) := by decide +kernel
theorem dX5_clear_38 : decode cX5_clear 38 = .ok (.iconst 0, 1) := by decide +kernel
theorem dX5_clear_39 : decode cX5_clear 39 = .ok (.iastore, 1) := by decide +kernel
theorem dX5_clear_40 : decode cX5_clear 40 = .ok (.aload_n 0, 1) := by decide +kernel
theorem dX5_clear_41 : decode cX5_clear 41 = .ok (.getfield 30, 3) := by decide +kernel
theorem dX5_clear_44 : decode cX5_clear 44 = .ok (.iload_n 2, 1) := by decide +kernel
theorem dX5_clear_45 : decode cX5_clear 45 = .ok (.iconst 0, 1) := by decide +kernel
theorem dX5_clear_46 : decode cX5_clear 46 = .ok (.iastore, 1) := by decide +kernel
theorem dX5_clear_47 : decode cX5_clear 47 = .ok (.iinc 2 1, 3) := by decide +kernel
theorem dX5_clear_50 : decode cX5_clear 50 = .ok (.goto (-33), 3) := by decide +kernel
theorem dX5_clear_53 : decode cX5_clear 53 = .ok (.return_, 1) := by decide +kernel
theorem dX5_take_0 : decode cX5_take 0 = .ok (.aload_n 0, 1) := by decide +kernel
theorem dX5_take_1 : decode cX5_take 1 = .ok (.aload_n 1, 1) := by decide +kernel
theorem dX5_take_2 : decode cX5_take 2 = .ok (.getfield 9, 3) := by decide +kernel
theorem dX5_take_5 : decode cX5_take 5 = .ok (.invokevirtual 54, 3) := by decide +kernel
theorem dX5_take_8 : decode cX5_take 8 = .ok (.iconst 0, 1) := by decide +kernel
theorem dX5_take_9 : decode cX5_take 9 = .ok (.istore_n 2, 1) := by decide +kernel
theorem dX5_take_10 : decode cX5_take 10 = .ok (.iload_n 2, 1) := by decide +kernel
theorem dX5_take_11 : decode cX5_take 11 = .ok (.aload_n 0, 1) := by decide +kernel
theorem dX5_take_12 : decode cX5_take 12 = .ok (.getfield 9, 3) := by decide +kernel
theorem dX5_take_15 : decode cX5_take 15 = .ok (.if_icmp .ge 41, 3) := by decide +kernel
theorem dX5_take_18 : decode cX5_take 18 = .ok (.iload_n 2, 1) := by decide +kernel
theorem dX5_take_19 : decode cX5_take 19 = .ok (.iconst 1, 1) := by decide +kernel
theorem dX5_take_20 : decode cX5_take 20 = .ok (.iadd, 1) := by decide +kernel
theorem dX5_take_21 : decode cX5_take 21 = .ok (.istore_n 3, 1) := by decide +kernel
theorem dX5_take_22 : decode cX5_take 22 = .ok (.iload_n 3, 1) := by decide +kernel
theorem dX5_take_23 : decode cX5_take 23 = .ok (.aload_n 0, 1) := by decide +kernel
theorem dX5_take_24 : decode cX5_take 24 = .ok (.getfield 9, 3) := by decide +kernel
theorem dX5_take_27 : decode cX5_take 27 = .ok (.if_icmp .ge 23, 3) := by decide +kernel
theorem dX5_take_30 : decode cX5_take 30 = .ok (.aload_n 0, 1) := by decide +kernel
theorem dX5_take_31 : decode cX5_take 31 = .ok (.iload_n 2, 1) := by decide +kernel
theorem dX5_take_32 : decode cX5_take 32 = .ok (.iload_n 3, 1) := by decide +kernel
theorem dX5_take_33 : decode cX5_take 33 = .ok (.aload_n 1, 1) := by decide +kernel
theorem dX5_take_34 : decode cX5_take 34 = .ok (.getfield 23, 3) := by decide +kernel
theorem dX5_take_37 : decode cX5_take 37 = .ok (.iload_n 2, 1) := by decide +kernel
theorem dX5_take_38 : decode cX5_take 38 = .ok (.aaload, 1) := by decide +kernel
theorem dX5_take_39 : decode cX5_take 39 = .ok (.iload_n 3, 1) := by decide +kernel
theorem dX5_take_40 : decode cX5_take 40 = .ok (.iaload, 1) := by decide +kernel
theorem dX5_take_41 : decode cX5_take 41 = .ok (.invokevirtual 58, 3) := by decide +kernel
theorem dX5_take_44 : decode cX5_take 44 = .ok (.iinc 3 1, 3) := by decide +kernel
theorem dX5_take_47 : decode cX5_take 47 = .ok (.goto (-25), 3) := by decide +kernel
theorem dX5_take_50 : decode cX5_take 50 = .ok (.iinc 2 1, 3) := by decide +kernel
theorem dX5_take_53 : decode cX5_take 53 = .ok (.goto (-43), 3) := by decide +kernel
theorem dX5_take_56 : decode cX5_take 56 = .ok (.iconst 0, 1) := by decide +kernel
theorem dX5_take_57 : decode cX5_take 57 = .ok (.istore_n 2, 1) := by decide +kernel
theorem dX5_take_58 : decode cX5_take 58 = .ok (.iload_n 2, 1) := by decide +kernel
theorem dX5_take_59 : decode cX5_take 59 = .ok (.aload_n 1, 1) := by decide +kernel
theorem dX5_take_60 : decode cX5_take 60 = .ok (.getfield 15, 3) := by decide +kernel
theorem dX5_take_63 : decode cX5_take 63 = .ok (.if_icmp .ge 38, 3) := by decide +kernel
theorem dX5_take_66 : decode cX5_take 66 = .ok (.aload_n 0, 1) := by decide +kernel
theorem dX5_take_67 : decode cX5_take 67 = .ok (.aload_n 1, 1) := by decide +kernel
theorem dX5_take_68 : decode cX5_take 68 = .ok (.getfield 33, 3) := by decide +kernel
theorem dX5_take_71 : decode cX5_take 71 = .ok (.iload_n 2, 1) := by decide +kernel
theorem dX5_take_72 : decode cX5_take 72 = .ok (.iaload, 1) := by decide +kernel
theorem dX5_take_73 : decode cX5_take 73 = .ok (.aload_n 1, 1) := by decide +kernel
theorem dX5_take_74 : decode cX5_take 74 = .ok (.getfield 36, 3) := by decide +kernel
theorem dX5_take_77 : decode cX5_take 77 = .ok (.iload_n 2, 1) := by decide +kernel
theorem dX5_take_78 : decode cX5_take 78 = .ok (.iaload, 1) := by decide +kernel
theorem dX5_take_79 : decode cX5_take 79 = .ok (.aload_n 1, 1) := by decide +kernel
theorem dX5_take_80 : decode cX5_take 80 = .ok (.getfield 39, 3) := by decide +kernel
theorem dX5_take_83 : decode cX5_take 83 = .ok (.iload_n 2, 1) := by decide +kernel
theorem dX5_take_84 : decode cX5_take 84 = .ok (.iaload, 1) := by decide +kernel
theorem dX5_take_85 : decode cX5_take 85 = .ok (.aload_n 1, 1) := by decide +kernel
theorem dX5_take_86 : decode cX5_take 86 = .ok (.getfield 42, 3) := by decide +kernel
theorem dX5_take_89 : decode cX5_take 89 = .ok (.iload_n 2, 1) := by decide +kernel
theorem dX5_take_90 : decode cX5_take 90 = .ok (.iaload, 1) := by decide +kernel
theorem dX5_take_91 : decode cX5_take 91 = .ok (.invokevirtual 62, 3) := by decide +kernel
theorem dX5_take_94 : decode cX5_take 94 = .ok (.pop, 1) := by decide +kernel
theorem dX5_take_95 : decode cX5_take 95 = .ok (.iinc 2 1, 3) := by decide +kernel
theorem dX5_take_98 : decode cX5_take 98 = .ok (.goto (-40), 3) := by decide +kernel
theorem dX5_take_101 : decode cX5_take 101 = .ok (.return_, 1) := by decide +kernel
theorem dX5_everything_0 : decode cX5_everything 0 = .ok (.iconst 1, 1) := by decide +kernel
theorem dX5_everything_1 : decode cX5_everything 1 = .ok (.aload_n 0, 1) := by decide +kernel
theorem dX5_everything_2 : decode cX5_everything 2 = .ok (.getfield 9, 3) := by decide +kernel
theorem dX5_everything_5 : decode cX5_everything 5 = .ok (.ishl, 1) := by decide +kernel
theorem dX5_everything_6 : decode cX5_everything 6 = .ok (.iconst 1, 1) := by decide +kernel
theorem dX5_everything_7 : decode cX5_everything 7 = .ok (.isub, 1) := by decide +kernel
theorem dX5_everything_8 : decode cX5_everything 8 = .ok (.ireturn, 1) := by decide +kernel
theorem dX5_isThing_0 : decode cX5_isThing 0 = .ok (.iload_n 1, 1) := by decide +kernel
theorem dX5_isThing_1 : decode cX5_isThing 1 = .ok (.ifCond .lt 15, 3) := by decide +kernel
theorem dX5_isThing_4 : decode cX5_isThing 4 = .ok (.iload_n 1, 1) := by decide +kernel
theorem dX5_isThing_5 : decode cX5_isThing 5 = .ok (.aload_n 0, 1) := by decide +kernel
theorem dX5_isThing_6 : decode cX5_isThing 6 = .ok (.getfield 9, 3) := by decide +kernel
theorem dX5_isThing_9 : decode cX5_isThing 9 = .ok (.if_icmp .ge 7, 3) := by decide +kernel
theorem dX5_isThing_12 : decode cX5_isThing 12 = .ok (.iconst 1, 1) := by decide +kernel
theorem dX5_isThing_13 : decode cX5_isThing 13 = .ok (.goto 4, 3) := by decide +kernel
theorem dX5_isThing_16 : decode cX5_isThing 16 = .ok (.iconst 0, 1) := by decide +kernel
theorem dX5_isThing_17 : decode cX5_isThing 17 = .ok (.ireturn, 1) := by decide +kernel
theorem dX5_areUnlike_0 : decode cX5_areUnlike 0 = .ok (.aload_n 0, 1) := by decide +kernel
theorem dX5_areUnlike_1 : decode cX5_areUnlike 1 = .ok (.iload_n 1, 1) := by decide +kernel
theorem dX5_areUnlike_2 : decode cX5_areUnlike 2 = .ok (.invokevirtual 66, 3) := by decide +kernel
theorem dX5_areUnlike_5 : decode cX5_areUnlike 5 = .ok (.ifCond .eq 20, 3) := by decide +kernel
theorem dX5_areUnlike_8 : decode cX5_areUnlike 8 = .ok (.aload_n 0, 1) := by decide +kernel
theorem dX5_areUnlike_9 : decode cX5_areUnlike 9 = .ok (.iload_n 2, 1) := by decide +kernel
theorem dX5_areUnlike_10 : decode cX5_areUnlike 10 = .ok (.invokevirtual 66, 3) := by decide +kernel
theorem dX5_areUnlike_13 : decode cX5_areUnlike 13 = .ok (.ifCond .eq 12, 3) := by decide +kernel
theorem dX5_areUnlike_16 : decode cX5_areUnlike 16 = .ok (.iload_n 1, 1) := by decide +kernel
theorem dX5_areUnlike_17 : decode cX5_areUnlike 17 = .ok (.iload_n 2, 1) := by decide +kernel
theorem dX5_areUnlike_18 : decode cX5_areUnlike 18 = .ok (.if_icmp .eq 7, 3) := by decide +kernel
theorem dX5_areUnlike_21 : decode cX5_areUnlike 21 = .ok (.iconst 1, 1) := by decide +kernel
theorem dX5_areUnlike_22 : decode cX5_areUnlike 22 = .ok (.goto 4, 3) := by decide +kernel
theorem dX5_areUnlike_25 : decode cX5_areUnlike 25 = .ok (.iconst 0, 1) := by decide +kernel
theorem dX5_areUnlike_26 : decode cX5_areUnlike 26 = .ok (.ireturn, 1) := by decide +kernel
theorem dX5_memberOf_0 : decode cX5_memberOf 0 = .ok (.iconst 0, 1) := by decide +kernel
theorem dX5_memberOf_1 : decode cX5_memberOf 1 = .ok (.istore_n 3, 1) := by decide +kernel
theorem dX5_memberOf_2 : decode cX5_memberOf 2 = .ok (.iconst 0, 1) := by decide +kernel
theorem dX5_memberOf_3 : decode cX5_memberOf 3 = .ok (.istore 4, 2) := by decide +kernel
theorem dX5_memberOf_5 : decode cX5_memberOf 5 = .ok (.iload 4, 2) := by decide +kernel
theorem dX5_memberOf_7 : decode cX5_memberOf 7 = .ok (.aload_n 0, 1) := by decide +kernel
theorem dX5_memberOf_8 : decode cX5_memberOf 8 = .ok (.getfield 9, 3) := by decide +kernel
theorem dX5_memberOf_11 : decode cX5_memberOf 11 = .ok (.if_icmp .ge 29, 3) := by decide +kernel
theorem dX5_memberOf_14 : decode cX5_memberOf 14 = .ok (.iload_n 1, 1) := by decide +kernel
theorem dX5_memberOf_15 : decode cX5_memberOf 15 = .ok (.iload 4, 2) := by decide +kernel
theorem dX5_memberOf_17 : decode cX5_memberOf 17 = .ok (.ishr, 1) := by decide +kernel
theorem dX5_memberOf_18 : decode cX5_memberOf 18 = .ok (.iconst 1, 1) := by decide +kernel
theorem dX5_memberOf_19 : decode cX5_memberOf 19 = .ok (.iand, 1) := by decide +kernel
theorem dX5_memberOf_20 : decode cX5_memberOf 20 = .ok (.ifCond .eq 14, 3) := by decide +kernel
theorem dX5_memberOf_23 : decode cX5_memberOf 23 = .ok (.iload_n 3, 1) := by decide +kernel
theorem dX5_memberOf_24 : decode cX5_memberOf 24 = .ok (.iload_n 2, 1) := by decide +kernel
theorem dX5_memberOf_25 : decode cX5_memberOf 25 = .ok (.if_icmp .ne 6, 3) := by decide +kernel
theorem dX5_memberOf_28 : decode cX5_memberOf 28 = .ok (.iload 4, 2) := by decide +kernel
theorem dX5_memberOf_30 : decode cX5_memberOf 30 = .ok (.ireturn, 1) := by decide +kernel
theorem dX5_memberOf_31 : decode cX5_memberOf 31 = .ok (.iinc 3 1, 3) := by decide +kernel
theorem dX5_memberOf_34 : decode cX5_memberOf 34 = .ok (.iinc 4 1, 3) := by decide +kernel
theorem dX5_memberOf_37 : decode cX5_memberOf 37 = .ok (.goto (-32), 3) := by decide +kernel
theorem dX5_memberOf_40 : decode cX5_memberOf 40 = .ok (.iconst 0, 1) := by decide +kernel
theorem dX5_memberOf_41 : decode cX5_memberOf 41 = .ok (.ireturn, 1) := by decide +kernel
theorem dX5_setTie_0 : decode cX5_setTie 0 = .ok (.aload_n 0, 1) := by decide +kernel
theorem dX5_setTie_1 : decode cX5_setTie 1 = .ok (.iload_n 1, 1) := by decide +kernel
theorem dX5_setTie_2 : decode cX5_setTie 2 = .ok (.iload_n 2, 1) := by decide +kernel
theorem dX5_setTie_3 : decode cX5_setTie 3 = .ok (.iload_n 3, 1) := by decide +kernel
theorem dX5_setTie_4 : decode cX5_setTie 4 = .ok (.invokevirtual 70, 3) := by decide +kernel
theorem dX5_setTie_7 : decode cX5_setTie 7 = .ok (.aload_n 0, 1) := by decide +kernel
theorem dX5_setTie_8 : decode cX5_setTie 8 = .ok (.iload_n 2, 1) := by decide +kernel
theorem dX5_setTie_9 : decode cX5_setTie 9 = .ok (.iload_n 1, 1) := by decide +kernel
theorem dX5_setTie_10 : decode cX5_setTie 10 = .ok (.iload_n 3, 1) := by decide +kernel
theorem dX5_setTie_11 : decode cX5_setTie 11 = .ok (.invokevirtual 70, 3) := by decide +kernel
theorem dX5_setTie_14 : decode cX5_setTie 14 = .ok (.return_, 1) := by decide +kernel
theorem dX5_setSide_0 : decode cX5_setSide 0 = .ok (.aload_n 0, 1) := by decide +kernel
theorem dX5_setSide_1 : decode cX5_setSide 1 = .ok (.getfield 30, 3) := by decide +kernel
theorem dX5_setSide_4 : decode cX5_setSide 4 = .ok (.iload_n 1, 1) := by decide +kernel
theorem dX5_setSide_5 : decode cX5_setSide 5 = .ok (.dup2, 1) := by decide +kernel
theorem dX5_setSide_6 : decode cX5_setSide 6 = .ok (.iaload, 1) := by decide +kernel
theorem dX5_setSide_7 : decode cX5_setSide 7 = .ok (.iload_n 3, 1) := by decide +kernel
theorem dX5_setSide_8 : decode cX5_setSide 8 = .ok (.aload_n 0, 1) := by decide +kernel
theorem dX5_setSide_9 : decode cX5_setSide 9 = .ok (.getfield 23, 3) := by decide +kernel
theorem dX5_setSide_12 : decode cX5_setSide 12 = .ok (.iload_n 1, 1) := by decide +kernel
theorem dX5_setSide_13 : decode cX5_setSide 13 = .ok (.aaload, 1) := by decide +kernel
theorem dX5_setSide_14 : decode cX5_setSide 14 = .ok (.iload_n 2, 1) := by decide +kernel
theorem dX5_setSide_15 : decode cX5_setSide 15 = .ok (.iaload, 1) := by decide +kernel
theorem dX5_setSide_16 : decode cX5_setSide 16 = .ok (.isub, 1) := by decide +kernel
theorem dX5_setSide_17 : decode cX5_setSide 17 = .ok (.iadd, 1) := by decide +kernel
theorem dX5_setSide_18 : decode cX5_setSide 18 = .ok (.iastore, 1) := by decide +kernel
theorem dX5_setSide_19 : decode cX5_setSide 19 = .ok (.aload_n 0, 1) := by decide +kernel
theorem dX5_setSide_20 : decode cX5_setSide 20 = .ok (.getfield 23, 3) := by decide +kernel
theorem dX5_setSide_23 : decode cX5_setSide 23 = .ok (.iload_n 1, 1) := by decide +kernel
theorem dX5_setSide_24 : decode cX5_setSide 24 = .ok (.aaload, 1) := by decide +kernel
theorem dX5_setSide_25 : decode cX5_setSide 25 = .ok (.iload_n 2, 1) := by decide +kernel
theorem dX5_setSide_26 : decode cX5_setSide 26 = .ok (.iload_n 3, 1) := by decide +kernel
theorem dX5_setSide_27 : decode cX5_setSide 27 = .ok (.iastore, 1) := by decide +kernel
theorem dX5_setSide_28 : decode cX5_setSide 28 = .ok (.aload_n 0, 1) := by decide +kernel
theorem dX5_setSide_29 : decode cX5_setSide 29 = .ok (.getfield 26, 3) := by decide +kernel
theorem dX5_setSide_32 : decode cX5_setSide 32 = .ok (.iload_n 1, 1) := by decide +kernel
theorem dX5_setSide_33 : decode cX5_setSide 33 = .ok (.iload_n 3, 1) := by decide +kernel
theorem dX5_setSide_34 : decode cX5_setSide 34 = .ok (.ifCond .le 16, 3) := by decide +kernel
theorem dX5_setSide_37 : decode cX5_setSide 37 = .ok (.aload_n 0, 1) := by decide +kernel
theorem dX5_setSide_38 : decode cX5_setSide 38 = .ok (.getfield 26, 3) := by decide +kernel
theorem dX5_setSide_41 : decode cX5_setSide 41 = .ok (.iload_n 1, 1) := by decide +kernel
theorem dX5_setSide_42 : decode cX5_setSide 42 = .ok (.iaload, 1) := by decide +kernel
theorem dX5_setSide_43 : decode cX5_setSide 43 = .ok (.iconst 1, 1) := by decide +kernel
theorem dX5_setSide_44 : decode cX5_setSide 44 = .ok (.iload_n 2, 1) := by decide +kernel
theorem dX5_setSide_45 : decode cX5_setSide 45 = .ok (.ishl, 1) := by decide +kernel
theorem dX5_setSide_46 : decode cX5_setSide 46 = .ok (.ior, 1) := by decide +kernel
theorem dX5_setSide_47 : decode cX5_setSide 47 = .ok (.goto 15, 3) := by decide +kernel
theorem dX5_setSide_50 : decode cX5_setSide 50 = .ok (.aload_n 0, 1) := by decide +kernel
theorem dX5_setSide_51 : decode cX5_setSide 51 = .ok (.getfield 26, 3) := by decide +kernel
theorem dX5_setSide_54 : decode cX5_setSide 54 = .ok (.iload_n 1, 1) := by decide +kernel
theorem dX5_setSide_55 : decode cX5_setSide 55 = .ok (.iaload, 1) := by decide +kernel
theorem dX5_setSide_56 : decode cX5_setSide 56 = .ok (.iconst 1, 1) := by decide +kernel
theorem dX5_setSide_57 : decode cX5_setSide 57 = .ok (.iload_n 2, 1) := by decide +kernel
theorem dX5_setSide_58 : decode cX5_setSide 58 = .ok (.ishl, 1) := by decide +kernel
theorem dX5_setSide_59 : decode cX5_setSide 59 = .ok (.iconst (-1), 1) := by decide +kernel
theorem dX5_setSide_60 : decode cX5_setSide 60 = .ok (.ixor, 1) := by decide +kernel
theorem dX5_setSide_61 : decode cX5_setSide 61 = .ok (.iand, 1) := by decide +kernel
theorem dX5_setSide_62 : decode cX5_setSide 62 = .ok (.iastore, 1) := by decide +kernel
theorem dX5_setSide_63 : decode cX5_setSide 63 = .ok (.return_, 1) := by decide +kernel
theorem dX5_tieCount_0 : decode cX5_tieCount 0 = .ok (.iconst 0, 1) := by decide +kernel
theorem dX5_tieCount_1 : decode cX5_tieCount 1 = .ok (.istore_n 1, 1) := by decide +kernel
theorem dX5_tieCount_2 : decode cX5_tieCount 2 = .ok (.iconst 0, 1) := by decide +kernel
theorem dX5_tieCount_3 : decode cX5_tieCount 3 = .ok (.istore_n 2, 1) := by decide +kernel
theorem dX5_tieCount_4 : decode cX5_tieCount 4 = .ok (.iload_n 2, 1) := by decide +kernel
theorem dX5_tieCount_5 : decode cX5_tieCount 5 = .ok (.aload_n 0, 1) := by decide +kernel
theorem dX5_tieCount_6 : decode cX5_tieCount 6 = .ok (.getfield 9, 3) := by decide +kernel
theorem dX5_tieCount_9 : decode cX5_tieCount 9 = .ok (.if_icmp .ge 21, 3) := by decide +kernel
theorem dX5_tieCount_12 : decode cX5_tieCount 12 = .ok (.iload_n 1, 1) := by decide +kernel
theorem dX5_tieCount_13 : decode cX5_tieCount 13 = .ok (.aload_n 0, 1) := by decide +kernel
theorem dX5_tieCount_14 : decode cX5_tieCount 14 = .ok (.getfield 26, 3) := by decide +kernel
theorem dX5_tieCount_17 : decode cX5_tieCount 17 = .ok (.iload_n 2, 1) := by decide +kernel
theorem dX5_tieCount_18 : decode cX5_tieCount 18 = .ok (.iaload, 1) := by decide +kernel
theorem dX5_tieCount_19 : decode cX5_tieCount 19 = .ok (.invokestatic 73, 3) := by decide +kernel
theorem dX5_tieCount_22 : decode cX5_tieCount 22 = .ok (.iadd, 1) := by decide +kernel
theorem dX5_tieCount_23 : decode cX5_tieCount 23 = .ok (.istore_n 1, 1) := by decide +kernel
theorem dX5_tieCount_24 : decode cX5_tieCount 24 = .ok (.iinc 2 1, 3) := by decide +kernel
theorem dX5_tieCount_27 : decode cX5_tieCount 27 = .ok (.goto (-23), 3) := by decide +kernel
theorem dX5_tieCount_30 : decode cX5_tieCount 30 = .ok (.iload_n 1, 1) := by decide +kernel
theorem dX5_tieCount_31 : decode cX5_tieCount 31 = .ok (.iconst 2, 1) := by decide +kernel
theorem dX5_tieCount_32 : decode cX5_tieCount 32 = .ok (.idiv, 1) := by decide +kernel
theorem dX5_tieCount_33 : decode cX5_tieCount 33 = .ok (.ireturn, 1) := by decide +kernel
theorem dX5_allWeight_0 : decode cX5_allWeight 0 = .ok (.iconst 0, 1) := by decide +kernel
theorem dX5_allWeight_1 : decode cX5_allWeight 1 = .ok (.istore_n 1, 1) := by decide +kernel
theorem dX5_allWeight_2 : decode cX5_allWeight 2 = .ok (.iconst 0, 1) := by decide +kernel
theorem dX5_allWeight_3 : decode cX5_allWeight 3 = .ok (.istore_n 2, 1) := by decide +kernel
theorem dX5_allWeight_4 : decode cX5_allWeight 4 = .ok (.iload_n 2, 1) := by decide +kernel
theorem dX5_allWeight_5 : decode cX5_allWeight 5 = .ok (.aload_n 0, 1) := by decide +kernel
theorem dX5_allWeight_6 : decode cX5_allWeight 6 = .ok (.getfield 9, 3) := by decide +kernel
theorem dX5_allWeight_9 : decode cX5_allWeight 9 = .ok (.if_icmp .ge 18, 3) := by decide +kernel
theorem dX5_allWeight_12 : decode cX5_allWeight 12 = .ok (.iload_n 1, 1) := by decide +kernel
theorem dX5_allWeight_13 : decode cX5_allWeight 13 = .ok (.aload_n 0, 1) := by decide +kernel
theorem dX5_allWeight_14 : decode cX5_allWeight 14 = .ok (.getfield 30, 3) := by decide +kernel
theorem dX5_allWeight_17 : decode cX5_allWeight 17 = .ok (.iload_n 2, 1) := by decide +kernel
theorem dX5_allWeight_18 : decode cX5_allWeight 18 = .ok (.iaload, 1) := by decide +kernel
theorem dX5_allWeight_19 : decode cX5_allWeight 19 = .ok (.iadd, 1) := by decide +kernel
theorem dX5_allWeight_20 : decode cX5_allWeight 20 = .ok (.istore_n 1, 1) := by decide +kernel
theorem dX5_allWeight_21 : decode cX5_allWeight 21 = .ok (.iinc 2 1, 3) := by decide +kernel
theorem dX5_allWeight_24 : decode cX5_allWeight 24 = .ok (.goto (-20), 3) := by decide +kernel
theorem dX5_allWeight_27 : decode cX5_allWeight 27 = .ok (.iload_n 1, 1) := by decide +kernel
theorem dX5_allWeight_28 : decode cX5_allWeight 28 = .ok (.iconst 2, 1) := by decide +kernel
theorem dX5_allWeight_29 : decode cX5_allWeight 29 = .ok (.idiv, 1) := by decide +kernel
theorem dX5_allWeight_30 : decode cX5_allWeight 30 = .ok (.ireturn, 1) := by decide +kernel
theorem dX5_isRule_0 : decode cX5_isRule 0 = .ok (.iload_n 1, 1) := by decide +kernel
theorem dX5_isRule_1 : decode cX5_isRule 1 = .ok (.ifCond .lt 15, 3) := by decide +kernel
theorem dX5_isRule_4 : decode cX5_isRule 4 = .ok (.iload_n 1, 1) := by decide +kernel
theorem dX5_isRule_5 : decode cX5_isRule 5 = .ok (.aload_n 0, 1) := by decide +kernel
theorem dX5_isRule_6 : decode cX5_isRule 6 = .ok (.getfield 15, 3) := by decide +kernel
theorem dX5_isRule_9 : decode cX5_isRule 9 = .ok (.if_icmp .ge 7, 3) := by decide +kernel
theorem dX5_isRule_12 : decode cX5_isRule 12 = .ok (.iconst 1, 1) := by decide +kernel
theorem dX5_isRule_13 : decode cX5_isRule 13 = .ok (.goto 4, 3) := by decide +kernel
theorem dX5_isRule_16 : decode cX5_isRule 16 = .ok (.iconst 0, 1) := by decide +kernel
theorem dX5_isRule_17 : decode cX5_isRule 17 = .ok (.ireturn, 1) := by decide +kernel
theorem dX5_canRule_0 : decode cX5_canRule 0 = .ok (.iload_n 1, 1) := by decide +kernel
theorem dX5_canRule_1 : decode cX5_canRule 1 = .ok (.tableswitch 111 0 6 #[43, 45, 45, 52, 52, 45, 76], 43) := by decide +kernel
theorem dX5_canRule_44 : decode cX5_canRule 44 = .ok (.iconst 1, 1) := by decide +kernel
theorem dX5_canRule_45 : decode cX5_canRule 45 = .ok (.ireturn, 1) := by decide +kernel
theorem dX5_canRule_46 : decode cX5_canRule 46 = .ok (.aload_n 0, 1) := by decide +kernel
theorem dX5_canRule_47 : decode cX5_canRule 47 = .ok (.iload_n 2, 1) := by decide +kernel
theorem dX5_canRule_48 : decode cX5_canRule 48 = .ok (.iload_n 3, 1) := by decide +kernel
theorem dX5_canRule_49 : decode cX5_canRule 49 = .ok (.invokevirtual 79, 3) := by decide +kernel
theorem dX5_canRule_52 : decode cX5_canRule 52 = .ok (.ireturn, 1) := by decide +kernel
theorem dX5_canRule_53 : decode cX5_canRule 53 = .ok (.aload_n 0, 1) := by decide +kernel
theorem dX5_canRule_54 : decode cX5_canRule 54 = .ok (.iload_n 2, 1) := by decide +kernel
theorem dX5_canRule_55 : decode cX5_canRule 55 = .ok (.invokevirtual 66, 3) := by decide +kernel
theorem dX5_canRule_58 : decode cX5_canRule 58 = .ok (.ifCond .eq 17, 3) := by decide +kernel
theorem dX5_canRule_61 : decode cX5_canRule 61 = .ok (.iload_n 3, 1) := by decide +kernel
theorem dX5_canRule_62 : decode cX5_canRule 62 = .ok (.ifCond .lt 13, 3) := by decide +kernel
theorem dX5_canRule_65 : decode cX5_canRule 65 = .ok (.iload_n 3, 1) := by decide +kernel
theorem dX5_canRule_66 : decode cX5_canRule 66 = .ok (.bipush 9, 2) := by decide +kernel
theorem dX5_canRule_68 : decode cX5_canRule 68 = .ok (.if_icmp .gt 7, 3) := by decide +kernel
theorem dX5_canRule_71 : decode cX5_canRule 71 = .ok (.iconst 1, 1) := by decide +kernel
theorem dX5_canRule_72 : decode cX5_canRule 72 = .ok (.goto 4, 3) := by decide +kernel
theorem dX5_canRule_75 : decode cX5_canRule 75 = .ok (.iconst 0, 1) := by decide +kernel
theorem dX5_canRule_76 : decode cX5_canRule 76 = .ok (.ireturn, 1) := by decide +kernel
theorem dX5_canRule_77 : decode cX5_canRule 77 = .ok (.aload_n 0, 1) := by decide +kernel
theorem dX5_canRule_78 : decode cX5_canRule 78 = .ok (.iload_n 2, 1) := by decide +kernel
theorem dX5_canRule_79 : decode cX5_canRule 79 = .ok (.iload_n 3, 1) := by decide +kernel
theorem dX5_canRule_80 : decode cX5_canRule 80 = .ok (.invokevirtual 79, 3) := by decide +kernel
theorem dX5_canRule_83 : decode cX5_canRule 83 = .ok (.ifCond .eq 27, 3) := by decide +kernel
theorem dX5_canRule_86 : decode cX5_canRule 86 = .ok (.aload_n 0, 1) := by decide +kernel
theorem dX5_canRule_87 : decode cX5_canRule 87 = .ok (.iload_n 2, 1) := by decide +kernel
theorem dX5_canRule_88 : decode cX5_canRule 88 = .ok (.iload 4, 2) := by decide +kernel
theorem dX5_canRule_90 : decode cX5_canRule 90 = .ok (.invokevirtual 79, 3) := by decide +kernel
theorem dX5_canRule_93 : decode cX5_canRule 93 = .ok (.ifCond .eq 17, 3) := by decide +kernel
theorem dX5_canRule_96 : decode cX5_canRule 96 = .ok (.aload_n 0, 1) := by decide +kernel
theorem dX5_canRule_97 : decode cX5_canRule 97 = .ok (.iload_n 3, 1) := by decide +kernel
theorem dX5_canRule_98 : decode cX5_canRule 98 = .ok (.iload 4, 2) := by decide +kernel
theorem dX5_canRule_100 : decode cX5_canRule 100 = .ok (.invokevirtual 79, 3) := by decide +kernel
theorem dX5_canRule_103 : decode cX5_canRule 103 = .ok (.ifCond .eq 7, 3) := by decide +kernel
theorem dX5_canRule_106 : decode cX5_canRule 106 = .ok (.iconst 1, 1) := by decide +kernel
theorem dX5_canRule_107 : decode cX5_canRule 107 = .ok (.goto 4, 3) := by decide +kernel
theorem dX5_canRule_110 : decode cX5_canRule 110 = .ok (.iconst 0, 1) := by decide +kernel
theorem dX5_canRule_111 : decode cX5_canRule 111 = .ok (.ireturn, 1) := by decide +kernel
theorem dX5_canRule_112 : decode cX5_canRule 112 = .ok (.iconst 0, 1) := by decide +kernel
theorem dX5_canRule_113 : decode cX5_canRule 113 = .ok (.ireturn, 1) := by decide +kernel
theorem dX5_addRule_0 : decode cX5_addRule 0 = .ok (.aload_n 0, 1) := by decide +kernel
theorem dX5_addRule_1 : decode cX5_addRule 1 = .ok (.getfield 15, 3) := by decide +kernel
theorem dX5_addRule_4 : decode cX5_addRule 4 = .ok (.istore 5, 2) := by decide +kernel
theorem dX5_addRule_6 : decode cX5_addRule 6 = .ok (.aload_n 0, 1) := by decide +kernel
theorem dX5_addRule_7 : decode cX5_addRule 7 = .ok (.getfield 33, 3) := by decide +kernel
theorem dX5_addRule_10 : decode cX5_addRule 10 = .ok (.iload 5, 2) := by decide +kernel
theorem dX5_addRule_12 : decode cX5_addRule 12 = .ok (.iload_n 1, 1) := by decide +kernel
theorem dX5_addRule_13 : decode cX5_addRule 13 = .ok (.iastore, 1) := by decide +kernel
theorem dX5_addRule_14 : decode cX5_addRule 14 = .ok (.aload_n 0, 1) := by decide +kernel
theorem dX5_addRule_15 : decode cX5_addRule 15 = .ok (.getfield 36, 3) := by decide +kernel
theorem dX5_addRule_18 : decode cX5_addRule 18 = .ok (.iload 5, 2) := by decide +kernel
theorem dX5_addRule_20 : decode cX5_addRule 20 = .ok (.iload_n 1, 1) := by decide +kernel
theorem dX5_addRule_21 : decode cX5_addRule 21 = .ok (.ifCond .ne 7, 3) := by decide +kernel
theorem dX5_addRule_24 : decode cX5_addRule 24 = .ok (.iconst 0, 1) := by decide +kernel
theorem dX5_addRule_25 : decode cX5_addRule 25 = .ok (.goto 4, 3) := by decide +kernel
theorem dX5_addRule_28 : decode cX5_addRule 28 = .ok (.iload_n 2, 1) := by decide +kernel
theorem dX5_addRule_29 : decode cX5_addRule 29 = .ok (.iastore, 1) := by decide +kernel
theorem dX5_addRule_30 : decode cX5_addRule 30 = .ok (.aload_n 0, 1) := by decide +kernel
theorem dX5_addRule_31 : decode cX5_addRule 31 = .ok (.getfield 39, 3) := by decide +kernel
theorem dX5_addRule_34 : decode cX5_addRule 34 = .ok (.iload 5, 2) := by decide +kernel
theorem dX5_addRule_36 : decode cX5_addRule 36 = .ok (.iload_n 1, 1) := by decide +kernel
theorem dX5_addRule_37 : decode cX5_addRule 37 = .ok (.ifCond .ne 7, 3) := by decide +kernel
theorem dX5_addRule_40 : decode cX5_addRule 40 = .ok (.iconst 0, 1) := by decide +kernel
theorem dX5_addRule_41 : decode cX5_addRule 41 = .ok (.goto 4, 3) := by decide +kernel
theorem dX5_addRule_44 : decode cX5_addRule 44 = .ok (.iload_n 3, 1) := by decide +kernel
theorem dX5_addRule_45 : decode cX5_addRule 45 = .ok (.iastore, 1) := by decide +kernel
theorem dX5_addRule_46 : decode cX5_addRule 46 = .ok (.aload_n 0, 1) := by decide +kernel
theorem dX5_addRule_47 : decode cX5_addRule 47 = .ok (.getfield 42, 3) := by decide +kernel
theorem dX5_addRule_50 : decode cX5_addRule 50 = .ok (.iload 5, 2) := by decide +kernel
theorem dX5_addRule_52 : decode cX5_addRule 52 = .ok (.iload_n 1, 1) := by decide +kernel
theorem dX5_addRule_53 : decode cX5_addRule 53 = .ok (.bipush 6, 2) := by decide +kernel
theorem dX5_addRule_55 : decode cX5_addRule 55 = .ok (.if_icmp .ne 8, 3) := by decide +kernel
theorem dX5_addRule_58 : decode cX5_addRule 58 = .ok (.iload 4, 2) := by decide +kernel
theorem dX5_addRule_60 : decode cX5_addRule 60 = .ok (.goto 4, 3) := by decide +kernel
theorem dX5_addRule_63 : decode cX5_addRule 63 = .ok (.iconst 0, 1) := by decide +kernel
theorem dX5_addRule_64 : decode cX5_addRule 64 = .ok (.iastore, 1) := by decide +kernel
theorem dX5_addRule_65 : decode cX5_addRule 65 = .ok (.aload_n 0, 1) := by decide +kernel
theorem dX5_addRule_66 : decode cX5_addRule 66 = .ok (.dup, 1) := by decide +kernel
theorem dX5_addRule_67 : decode cX5_addRule 67 = .ok (.getfield 15, 3) := by decide +kernel
theorem dX5_addRule_70 : decode cX5_addRule 70 = .ok (.iconst 1, 1) := by decide +kernel
theorem dX5_addRule_71 : decode cX5_addRule 71 = .ok (.iadd, 1) := by decide +kernel
theorem dX5_addRule_72 : decode cX5_addRule 72 = .ok (.putfield 15, 3) := by decide +kernel
theorem dX5_addRule_75 : decode cX5_addRule 75 = .ok (.iload 5, 2) := by decide +kernel
theorem dX5_addRule_77 : decode cX5_addRule 77 = .ok (.ireturn, 1) := by decide +kernel
theorem dX5_dropRules_0 : decode cX5_dropRules 0 = .ok (.aload_n 0, 1) := by decide +kernel
theorem dX5_dropRules_1 : decode cX5_dropRules 1 = .ok (.iload_n 1, 1) := by decide +kernel
theorem dX5_dropRules_2 : decode cX5_dropRules 2 = .ok (.putfield 15, 3) := by decide +kernel
theorem dX5_dropRules_5 : decode cX5_dropRules 5 = .ok (.aload_n 0, 1) := by decide +kernel
theorem dX5_dropRules_6 : decode cX5_dropRules 6 = .ok (.dup, 1) := by decide +kernel
theorem dX5_dropRules_7 : decode cX5_dropRules 7 = .ok (.getfield 18, 3) := by decide +kernel
theorem dX5_dropRules_10 : decode cX5_dropRules 10 = .ok (.iconst 1, 1) := by decide +kernel
theorem dX5_dropRules_11 : decode cX5_dropRules 11 = .ok (.iload_n 1, 1) := by decide +kernel
theorem dX5_dropRules_12 : decode cX5_dropRules 12 = .ok (.ishl, 1) := by decide +kernel
theorem dX5_dropRules_13 : decode cX5_dropRules 13 = .ok (.iconst 1, 1) := by decide +kernel
theorem dX5_dropRules_14 : decode cX5_dropRules 14 = .ok (.isub, 1) := by decide +kernel
theorem dX5_dropRules_15 : decode cX5_dropRules 15 = .ok (.iand, 1) := by decide +kernel
theorem dX5_dropRules_16 : decode cX5_dropRules 16 = .ok (.putfield 18, 3) := by decide +kernel
theorem dX5_dropRules_19 : decode cX5_dropRules 19 = .ok (.return_, 1) := by decide +kernel
theorem dX5_isOff_0 : decode cX5_isOff 0 = .ok (.aload_n 0, 1) := by decide +kernel
theorem dX5_isOff_1 : decode cX5_isOff 1 = .ok (.getfield 18, 3) := by decide +kernel
theorem dX5_isOff_4 : decode cX5_isOff 4 = .ok (.iload_n 1, 1) := by decide +kernel
theorem dX5_isOff_5 : decode cX5_isOff 5 = .ok (.ishr, 1) := by decide +kernel
theorem dX5_isOff_6 : decode cX5_isOff 6 = .ok (.iconst 1, 1) := by decide +kernel
theorem dX5_isOff_7 : decode cX5_isOff 7 = .ok (.iand, 1) := by decide +kernel
theorem dX5_isOff_8 : decode cX5_isOff 8 = .ok (.ifCond .eq 7, 3) := by decide +kernel
theorem dX5_isOff_11 : decode cX5_isOff 11 = .ok (.iconst 1, 1) := by decide +kernel
theorem dX5_isOff_12 : decode cX5_isOff 12 = .ok (.goto 4, 3) := by decide +kernel
theorem dX5_isOff_15 : decode cX5_isOff 15 = .ok (.iconst 0, 1) := by decide +kernel
theorem dX5_isOff_16 : decode cX5_isOff 16 = .ok (.ireturn, 1) := by decide +kernel
theorem dX5_setOff_0 : decode cX5_setOff 0 = .ok (.aload_n 0, 1) := by decide +kernel
theorem dX5_setOff_1 : decode cX5_setOff 1 = .ok (.iload_n 2, 1) := by decide +kernel
theorem dX5_setOff_2 : decode cX5_setOff 2 = .ok (.ifCond .eq 14, 3) := by decide +kernel
theorem dX5_setOff_5 : decode cX5_setOff 5 = .ok (.aload_n 0, 1) := by decide +kernel
theorem dX5_setOff_6 : decode cX5_setOff 6 = .ok (.getfield 18, 3) := by decide +kernel
theorem dX5_setOff_9 : decode cX5_setOff 9 = .ok (.iconst 1, 1) := by decide +kernel
theorem dX5_setOff_10 : decode cX5_setOff 10 = .ok (.iload_n 1, 1) := by decide +kernel
theorem dX5_setOff_11 : decode cX5_setOff 11 = .ok (.ishl, 1) := by decide +kernel
theorem dX5_setOff_12 : decode cX5_setOff 12 = .ok (.ior, 1) := by decide +kernel
theorem dX5_setOff_13 : decode cX5_setOff 13 = .ok (.goto 13, 3) := by decide +kernel
theorem dX5_setOff_16 : decode cX5_setOff 16 = .ok (.aload_n 0, 1) := by decide +kernel
theorem dX5_setOff_17 : decode cX5_setOff 17 = .ok (.getfield 18, 3) := by decide +kernel
theorem dX5_setOff_20 : decode cX5_setOff 20 = .ok (.iconst 1, 1) := by decide +kernel
theorem dX5_setOff_21 : decode cX5_setOff 21 = .ok (.iload_n 1, 1) := by decide +kernel
theorem dX5_setOff_22 : decode cX5_setOff 22 = .ok (.ishl, 1) := by decide +kernel
theorem dX5_setOff_23 : decode cX5_setOff 23 = .ok (.iconst (-1), 1) := by decide +kernel
theorem dX5_setOff_24 : decode cX5_setOff 24 = .ok (.ixor, 1) := by decide +kernel
theorem dX5_setOff_25 : decode cX5_setOff 25 = .ok (.iand, 1) := by decide +kernel
theorem dX5_setOff_26 : decode cX5_setOff 26 = .ok (.putfield 18, 3) := by decide +kernel
theorem dX5_setOff_29 : decode cX5_setOff 29 = .ok (.return_, 1) := by decide +kernel
theorem dX5_ruleNumber_0 : decode cX5_ruleNumber 0 = .ok (.iload_n 2, 1) := by decide +kernel
theorem dX5_ruleNumber_1 : decode cX5_ruleNumber 1 = .ok (.tableswitch 59 0 3 #[31, 38, 45, 52], 31) := by decide +kernel
theorem dX5_ruleNumber_32 : decode cX5_ruleNumber 32 = .ok (.aload_n 0, 1) := by decide +kernel
theorem dX5_ruleNumber_33 : decode cX5_ruleNumber 33 = .ok (.getfield 33, 3) := by decide +kernel
theorem dX5_ruleNumber_36 : decode cX5_ruleNumber 36 = .ok (.iload_n 1, 1) := by decide +kernel
theorem dX5_ruleNumber_37 : decode cX5_ruleNumber 37 = .ok (.iaload, 1) := by decide +kernel
theorem dX5_ruleNumber_38 : decode cX5_ruleNumber 38 = .ok (.ireturn, 1) := by decide +kernel
theorem dX5_ruleNumber_39 : decode cX5_ruleNumber 39 = .ok (.aload_n 0, 1) := by decide +kernel
theorem dX5_ruleNumber_40 : decode cX5_ruleNumber 40 = .ok (.getfield 36, 3) := by decide +kernel
theorem dX5_ruleNumber_43 : decode cX5_ruleNumber 43 = .ok (.iload_n 1, 1) := by decide +kernel
theorem dX5_ruleNumber_44 : decode cX5_ruleNumber 44 = .ok (.iaload, 1) := by decide +kernel
theorem dX5_ruleNumber_45 : decode cX5_ruleNumber 45 = .ok (.ireturn, 1) := by decide +kernel
theorem dX5_ruleNumber_46 : decode cX5_ruleNumber 46 = .ok (.aload_n 0, 1) := by decide +kernel
theorem dX5_ruleNumber_47 : decode cX5_ruleNumber 47 = .ok (.getfield 39, 3) := by decide +kernel
theorem dX5_ruleNumber_50 : decode cX5_ruleNumber 50 = .ok (.iload_n 1, 1) := by decide +kernel
theorem dX5_ruleNumber_51 : decode cX5_ruleNumber 51 = .ok (.iaload, 1) := by decide +kernel
theorem dX5_ruleNumber_52 : decode cX5_ruleNumber 52 = .ok (.ireturn, 1) := by decide +kernel
theorem dX5_ruleNumber_53 : decode cX5_ruleNumber 53 = .ok (.aload_n 0, 1) := by decide +kernel
theorem dX5_ruleNumber_54 : decode cX5_ruleNumber 54 = .ok (.getfield 42, 3) := by decide +kernel
theorem dX5_ruleNumber_57 : decode cX5_ruleNumber 57 = .ok (.iload_n 1, 1) := by decide +kernel
theorem dX5_ruleNumber_58 : decode cX5_ruleNumber 58 = .ok (.iaload, 1) := by decide +kernel
theorem dX5_ruleNumber_59 : decode cX5_ruleNumber 59 = .ok (.ireturn, 1) := by decide +kernel
theorem dX5_ruleNumber_60 : decode cX5_ruleNumber 60 = .ok (.aload_n 0, 1) := by decide +kernel
theorem dX5_ruleNumber_61 : decode cX5_ruleNumber 61 = .ok (.iload_n 1, 1) := by decide +kernel
theorem dX5_ruleNumber_62 : decode cX5_ruleNumber 62 = .ok (.invokevirtual 83, 3) := by decide +kernel
theorem dX5_ruleNumber_65 : decode cX5_ruleNumber 65 = .ok (.ifCond .eq 7, 3) := by decide +kernel
theorem dX5_ruleNumber_68 : decode cX5_ruleNumber 68 = .ok (.iconst 1, 1) := by decide +kernel
theorem dX5_ruleNumber_69 : decode cX5_ruleNumber 69 = .ok (.goto 4, 3) := by decide +kernel
theorem dX5_ruleNumber_72 : decode cX5_ruleNumber 72 = .ok (.iconst 0, 1) := by decide +kernel
theorem dX5_ruleNumber_73 : decode cX5_ruleNumber 73 = .ok (.ireturn, 1) := by decide +kernel
theorem dX5_isOfKind_0 : decode cX5_isOfKind 0 = .ok (.aload_n 0, 1) := by decide +kernel
theorem dX5_isOfKind_1 : decode cX5_isOfKind 1 = .ok (.getfield 33, 3) := by decide +kernel
theorem dX5_isOfKind_4 : decode cX5_isOfKind 4 = .ok (.iload_n 1, 1) := by decide +kernel
theorem dX5_isOfKind_5 : decode cX5_isOfKind 5 = .ok (.iaload, 1) := by decide +kernel
theorem dX5_isOfKind_6 : decode cX5_isOfKind 6 = .ok (.iload_n 2, 1) := by decide +kernel
theorem dX5_isOfKind_7 : decode cX5_isOfKind 7 = .ok (.if_icmp .eq 34, 3) := by decide +kernel
theorem dX5_isOfKind_10 : decode cX5_isOfKind 10 = .ok (.iload_n 2, 1) := by decide +kernel
theorem dX5_isOfKind_11 : decode cX5_isOfKind 11 = .ok (.iconst 1, 1) := by decide +kernel
theorem dX5_isOfKind_12 : decode cX5_isOfKind 12 = .ok (.if_icmp .ne 13, 3) := by decide +kernel
theorem dX5_isOfKind_15 : decode cX5_isOfKind 15 = .ok (.aload_n 0, 1) := by decide +kernel
theorem dX5_isOfKind_16 : decode cX5_isOfKind 16 = .ok (.getfield 33, 3) := by decide +kernel
theorem dX5_isOfKind_19 : decode cX5_isOfKind 19 = .ok (.iload_n 1, 1) := by decide +kernel
theorem dX5_isOfKind_20 : decode cX5_isOfKind 20 = .ok (.iaload, 1) := by decide +kernel
theorem dX5_isOfKind_21 : decode cX5_isOfKind 21 = .ok (.iconst 2, 1) := by decide +kernel
theorem dX5_isOfKind_22 : decode cX5_isOfKind 22 = .ok (.if_icmp .eq 19, 3) := by decide +kernel
theorem dX5_isOfKind_25 : decode cX5_isOfKind 25 = .ok (.iload_n 2, 1) := by decide +kernel
theorem dX5_isOfKind_26 : decode cX5_isOfKind 26 = .ok (.iconst 5, 1) := by decide +kernel
theorem dX5_isOfKind_27 : decode cX5_isOfKind 27 = .ok (.if_icmp .ne 18, 3) := by decide +kernel
theorem dX5_isOfKind_30 : decode cX5_isOfKind 30 = .ok (.aload_n 0, 1) := by decide +kernel
theorem dX5_isOfKind_31 : decode cX5_isOfKind 31 = .ok (.getfield 33, 3) := by decide +kernel
theorem dX5_isOfKind_34 : decode cX5_isOfKind 34 = .ok (.iload_n 1, 1) := by decide +kernel
theorem dX5_isOfKind_35 : decode cX5_isOfKind 35 = .ok (.iaload, 1) := by decide +kernel
theorem dX5_isOfKind_36 : decode cX5_isOfKind 36 = .ok (.bipush 6, 2) := by decide +kernel
theorem dX5_isOfKind_38 : decode cX5_isOfKind 38 = .ok (.if_icmp .ne 7, 3) := by decide +kernel
theorem dX5_isOfKind_41 : decode cX5_isOfKind 41 = .ok (.iconst 1, 1) := by decide +kernel
theorem dX5_isOfKind_42 : decode cX5_isOfKind 42 = .ok (.goto 4, 3) := by decide +kernel
theorem dX5_isOfKind_45 : decode cX5_isOfKind 45 = .ok (.iconst 0, 1) := by decide +kernel
theorem dX5_isOfKind_46 : decode cX5_isOfKind 46 = .ok (.ireturn, 1) := by decide +kernel
theorem dX5_aheadCount_0 : decode cX5_aheadCount 0 = .ok (.iconst 0, 1) := by decide +kernel
theorem dX5_aheadCount_1 : decode cX5_aheadCount 1 = .ok (.istore_n 1, 1) := by decide +kernel
theorem dX5_aheadCount_2 : decode cX5_aheadCount 2 = .ok (.iconst 0, 1) := by decide +kernel
theorem dX5_aheadCount_3 : decode cX5_aheadCount 3 = .ok (.istore_n 2, 1) := by decide +kernel
theorem dX5_aheadCount_4 : decode cX5_aheadCount 4 = .ok (.iload_n 2, 1) := by decide +kernel
theorem dX5_aheadCount_5 : decode cX5_aheadCount 5 = .ok (.aload_n 0, 1) := by decide +kernel
theorem dX5_aheadCount_6 : decode cX5_aheadCount 6 = .ok (.getfield 15, 3) := by decide +kernel
theorem dX5_aheadCount_9 : decode cX5_aheadCount 9 = .ok (.if_icmp .ge 21, 3) := by decide +kernel
theorem dX5_aheadCount_12 : decode cX5_aheadCount 12 = .ok (.aload_n 0, 1) := by decide +kernel
theorem dX5_aheadCount_13 : decode cX5_aheadCount 13 = .ok (.iload_n 2, 1) := by decide +kernel
theorem dX5_aheadCount_14 : decode cX5_aheadCount 14 = .ok (.iconst 1, 1) := by decide +kernel
theorem dX5_aheadCount_15 : decode cX5_aheadCount 15 = .ok (.invokevirtual 86, 3) := by decide +kernel
theorem dX5_aheadCount_18 : decode cX5_aheadCount 18 = .ok (.ifCond .eq 6, 3) := by decide +kernel
theorem dX5_aheadCount_21 : decode cX5_aheadCount 21 = .ok (.iinc 1 1, 3) := by decide +kernel
theorem dX5_aheadCount_24 : decode cX5_aheadCount 24 = .ok (.iinc 2 1, 3) := by decide +kernel
theorem dX5_aheadCount_27 : decode cX5_aheadCount 27 = .ok (.goto (-23), 3) := by decide +kernel
theorem dX5_aheadCount_30 : decode cX5_aheadCount 30 = .ok (.iload_n 1, 1) := by decide +kernel
theorem dX5_aheadCount_31 : decode cX5_aheadCount 31 = .ok (.ireturn, 1) := by decide +kernel
theorem dX5_markOf_0 : decode cX5_markOf 0 = .ok (.iload_n 2, 1) := by decide +kernel
theorem dX5_markOf_1 : decode cX5_markOf 1 = .ok (.tableswitch 99 2 5 #[31, 31, 38, 54], 31) := by decide +kernel
theorem dX5_markOf_32 : decode cX5_markOf 32 = .ok (.aload_n 0, 1) := by decide +kernel
theorem dX5_markOf_33 : decode cX5_markOf 33 = .ok (.getfield 39, 3) := by decide +kernel
theorem dX5_markOf_36 : decode cX5_markOf 36 = .ok (.iload_n 1, 1) := by decide +kernel
theorem dX5_markOf_37 : decode cX5_markOf 37 = .ok (.iaload, 1) := by decide +kernel
theorem dX5_markOf_38 : decode cX5_markOf 38 = .ok (.ireturn, 1) := by decide +kernel
theorem dX5_markOf_39 : decode cX5_markOf 39 = .ok (.aload_n 0, 1) := by decide +kernel
theorem dX5_markOf_40 : decode cX5_markOf 40 = .ok (.getfield 39, 3) := by decide +kernel
theorem dX5_markOf_43 : decode cX5_markOf 43 = .ok (.iload_n 1, 1) := by decide +kernel
theorem dX5_markOf_44 : decode cX5_markOf 44 = .ok (.iaload, 1) := by decide +kernel
theorem dX5_markOf_45 : decode cX5_markOf 45 = .ok (.aload_n 0, 1) := by decide +kernel
theorem dX5_markOf_46 : decode cX5_markOf 46 = .ok (.getfield 9, 3) := by decide +kernel
theorem dX5_markOf_49 : decode cX5_markOf 49 = .ok (.iconst 1, 1) := by decide +kernel
theorem dX5_markOf_50 : decode cX5_markOf 50 = .ok (.isub, 1) := by decide +kernel
theorem dX5_markOf_51 : decode cX5_markOf 51 = .ok (.invokestatic 89, 3) := by decide +kernel
theorem dX5_markOf_54 : decode cX5_markOf 54 = .ok (.ireturn, 1) := by decide +kernel
theorem dX5_markOf_55 : decode cX5_markOf 55 = .ok (.aload_n 0, 1) := by decide +kernel
theorem dX5_markOf_56 : decode cX5_markOf 56 = .ok (.getfield 33, 3) := by decide +kernel
theorem dX5_markOf_59 : decode cX5_markOf 59 = .ok (.iload_n 1, 1) := by decide +kernel
theorem dX5_markOf_60 : decode cX5_markOf 60 = .ok (.iaload, 1) := by decide +kernel
theorem dX5_markOf_61 : decode cX5_markOf 61 = .ok (.bipush 6, 2) := by decide +kernel
theorem dX5_markOf_63 : decode cX5_markOf 63 = .ok (.if_icmp .ne 21, 3) := by decide +kernel
theorem dX5_markOf_66 : decode cX5_markOf 66 = .ok (.aload_n 0, 1) := by decide +kernel
theorem dX5_markOf_67 : decode cX5_markOf 67 = .ok (.getfield 39, 3) := by decide +kernel
theorem dX5_markOf_70 : decode cX5_markOf 70 = .ok (.iload_n 1, 1) := by decide +kernel
theorem dX5_markOf_71 : decode cX5_markOf 71 = .ok (.iaload, 1) := by decide +kernel
theorem dX5_markOf_72 : decode cX5_markOf 72 = .ok (.aload_n 0, 1) := by decide +kernel
theorem dX5_markOf_73 : decode cX5_markOf 73 = .ok (.getfield 42, 3) := by decide +kernel
theorem dX5_markOf_76 : decode cX5_markOf 76 = .ok (.iload_n 1, 1) := by decide +kernel
theorem dX5_markOf_77 : decode cX5_markOf 77 = .ok (.iaload, 1) := by decide +kernel
theorem dX5_markOf_78 : decode cX5_markOf 78 = .ok (.invokestatic 89, 3) := by decide +kernel
theorem dX5_markOf_81 : decode cX5_markOf 81 = .ok (.goto 18, 3) := by decide +kernel
theorem dX5_markOf_84 : decode cX5_markOf 84 = .ok (.aload_n 0, 1) := by decide +kernel
theorem dX5_markOf_85 : decode cX5_markOf 85 = .ok (.getfield 36, 3) := by decide +kernel
theorem dX5_markOf_88 : decode cX5_markOf 88 = .ok (.iload_n 1, 1) := by decide +kernel
theorem dX5_markOf_89 : decode cX5_markOf 89 = .ok (.iaload, 1) := by decide +kernel
theorem dX5_markOf_90 : decode cX5_markOf 90 = .ok (.aload_n 0, 1) := by decide +kernel
theorem dX5_markOf_91 : decode cX5_markOf 91 = .ok (.getfield 39, 3) := by decide +kernel
theorem dX5_markOf_94 : decode cX5_markOf 94 = .ok (.iload_n 1, 1) := by decide +kernel
theorem dX5_markOf_95 : decode cX5_markOf 95 = .ok (.iaload, 1) := by decide +kernel
theorem dX5_markOf_96 : decode cX5_markOf 96 = .ok (.invokestatic 89, 3) := by decide +kernel
theorem dX5_markOf_99 : decode cX5_markOf 99 = .ok (.ireturn, 1) := by decide +kernel
theorem dX5_markOf_100 : decode cX5_markOf 100 = .ok (.aload_n 0, 1) := by decide +kernel
theorem dX5_markOf_101 : decode cX5_markOf 101 = .ok (.getfield 36, 3) := by decide +kernel
theorem dX5_markOf_104 : decode cX5_markOf 104 = .ok (.iload_n 1, 1) := by decide +kernel
theorem dX5_markOf_105 : decode cX5_markOf 105 = .ok (.iaload, 1) := by decide +kernel
theorem dX5_markOf_106 : decode cX5_markOf 106 = .ok (.ireturn, 1) := by decide +kernel
theorem dX5_barredBehind_0 : decode cX5_barredBehind 0 = .ok (.aload_n 0, 1) := by decide +kernel
theorem dX5_barredBehind_1 : decode cX5_barredBehind 1 = .ok (.iload_n 1, 1) := by decide +kernel
theorem dX5_barredBehind_2 : decode cX5_barredBehind 2 = .ok (.invokevirtual 83, 3) := by decide +kernel
theorem dX5_barredBehind_5 : decode cX5_barredBehind 5 = .ok (.ifCond .eq 5, 3) := by decide +kernel
theorem dX5_barredBehind_8 : decode cX5_barredBehind 8 = .ok (.iconst 0, 1) := by decide +kernel
theorem dX5_barredBehind_9 : decode cX5_barredBehind 9 = .ok (.ireturn, 1) := by decide +kernel
theorem dX5_barredBehind_10 : decode cX5_barredBehind 10 = .ok (.aload_n 0, 1) := by decide +kernel
theorem dX5_barredBehind_11 : decode cX5_barredBehind 11 = .ok (.getfield 33, 3) := by decide +kernel
theorem dX5_barredBehind_14 : decode cX5_barredBehind 14 = .ok (.iload_n 1, 1) := by decide +kernel
theorem dX5_barredBehind_15 : decode cX5_barredBehind 15 = .ok (.iaload, 1) := by decide +kernel
theorem dX5_barredBehind_16 : decode cX5_barredBehind 16 = .ok (.tableswitch 154 1 6 #[40, 154, 66, 92, 154, 118], 40) := by decide +kernel
theorem dX5_barredBehind_56 : decode cX5_barredBehind 56 = .ok (.iload_n 2, 1) := by decide +kernel
theorem dX5_barredBehind_57 : decode cX5_barredBehind 57 = .ok (.aload_n 0, 1) := by decide +kernel
theorem dX5_barredBehind_58 : decode cX5_barredBehind 58 = .ok (.getfield 36, 3) := by decide +kernel
theorem dX5_barredBehind_61 : decode cX5_barredBehind 61 = .ok (.iload_n 1, 1) := by decide +kernel
theorem dX5_barredBehind_62 : decode cX5_barredBehind 62 = .ok (.iaload, 1) := by decide +kernel
theorem dX5_barredBehind_63 : decode cX5_barredBehind 63 = .ok (.ishr, 1) := by decide +kernel
theorem dX5_barredBehind_64 : decode cX5_barredBehind 64 = .ok (.iconst 1, 1) := by decide +kernel
theorem dX5_barredBehind_65 : decode cX5_barredBehind 65 = .ok (.iand, 1) := by decide +kernel
theorem dX5_barredBehind_66 : decode cX5_barredBehind 66 = .ok (.ifCond .eq 7, 3) := by decide +kernel
theorem dX5_barredBehind_69 : decode cX5_barredBehind 69 = .ok (.iconst 0, 1) := by decide +kernel
theorem dX5_barredBehind_70 : decode cX5_barredBehind 70 = .ok (.goto 11, 3) := by decide +kernel
theorem dX5_barredBehind_73 : decode cX5_barredBehind 73 = .ok (.iconst 1, 1) := by decide +kernel
theorem dX5_barredBehind_74 : decode cX5_barredBehind 74 = .ok (.aload_n 0, 1) := by decide +kernel
theorem dX5_barredBehind_75 : decode cX5_barredBehind 75 = .ok (.getfield 39, 3) := by decide +kernel
theorem dX5_barredBehind_78 : decode cX5_barredBehind 78 = .ok (.iload_n 1, 1) := by decide +kernel
theorem dX5_barredBehind_79 : decode cX5_barredBehind 79 = .ok (.iaload, 1) := by decide +kernel
theorem dX5_barredBehind_80 : decode cX5_barredBehind 80 = .ok (.ishl, 1) := by decide +kernel
theorem dX5_barredBehind_81 : decode cX5_barredBehind 81 = .ok (.ireturn, 1) := by decide +kernel
theorem dX5_barredBehind_82 : decode cX5_barredBehind 82 = .ok (.iload_n 2, 1) := by decide +kernel
theorem dX5_barredBehind_83 : decode cX5_barredBehind 83 = .ok (.invokestatic 73, 3) := by decide +kernel
theorem dX5_barredBehind_86 : decode cX5_barredBehind 86 = .ok (.aload_n 0, 1) := by decide +kernel
theorem dX5_barredBehind_87 : decode cX5_barredBehind 87 = .ok (.getfield 39, 3) := by decide +kernel
theorem dX5_barredBehind_90 : decode cX5_barredBehind 90 = .ok (.iload_n 1, 1) := by decide +kernel
theorem dX5_barredBehind_91 : decode cX5_barredBehind 91 = .ok (.iaload, 1) := by decide +kernel
theorem dX5_barredBehind_92 : decode cX5_barredBehind 92 = .ok (.if_icmp .ne 7, 3) := by decide +kernel
theorem dX5_barredBehind_95 : decode cX5_barredBehind 95 = .ok (.iconst 0, 1) := by decide +kernel
theorem dX5_barredBehind_96 : decode cX5_barredBehind 96 = .ok (.goto 11, 3) := by decide +kernel
theorem dX5_barredBehind_99 : decode cX5_barredBehind 99 = .ok (.iconst 1, 1) := by decide +kernel
theorem dX5_barredBehind_100 : decode cX5_barredBehind 100 = .ok (.aload_n 0, 1) := by decide +kernel
theorem dX5_barredBehind_101 : decode cX5_barredBehind 101 = .ok (.getfield 36, 3) := by decide +kernel
theorem dX5_barredBehind_104 : decode cX5_barredBehind 104 = .ok (.iload_n 1, 1) := by decide +kernel
theorem dX5_barredBehind_105 : decode cX5_barredBehind 105 = .ok (.iaload, 1) := by decide +kernel
theorem dX5_barredBehind_106 : decode cX5_barredBehind 106 = .ok (.ishl, 1) := by decide +kernel
theorem dX5_barredBehind_107 : decode cX5_barredBehind 107 = .ok (.ireturn, 1) := by decide +kernel
theorem dX5_barredBehind_108 : decode cX5_barredBehind 108 = .ok (.iload_n 2, 1) := by decide +kernel
theorem dX5_barredBehind_109 : decode cX5_barredBehind 109 = .ok (.invokestatic 73, 3) := by decide +kernel
theorem dX5_barredBehind_112 : decode cX5_barredBehind 112 = .ok (.aload_n 0, 1) := by decide +kernel
theorem dX5_barredBehind_113 : decode cX5_barredBehind 113 = .ok (.getfield 39, 3) := by decide +kernel
theorem dX5_barredBehind_116 : decode cX5_barredBehind 116 = .ok (.iload_n 1, 1) := by decide +kernel
theorem dX5_barredBehind_117 : decode cX5_barredBehind 117 = .ok (.iaload, 1) := by decide +kernel
theorem dX5_barredBehind_118 : decode cX5_barredBehind 118 = .ok (.if_icmp .gt 7, 3) := by decide +kernel
theorem dX5_barredBehind_121 : decode cX5_barredBehind 121 = .ok (.iconst 0, 1) := by decide +kernel
theorem dX5_barredBehind_122 : decode cX5_barredBehind 122 = .ok (.goto 11, 3) := by decide +kernel
theorem dX5_barredBehind_125 : decode cX5_barredBehind 125 = .ok (.iconst 1, 1) := by decide +kernel
theorem dX5_barredBehind_126 : decode cX5_barredBehind 126 = .ok (.aload_n 0, 1) := by decide +kernel
theorem dX5_barredBehind_127 : decode cX5_barredBehind 127 = .ok (.getfield 36, 3) := by decide +kernel
theorem dX5_barredBehind_130 : decode cX5_barredBehind 130 = .ok (.iload_n 1, 1) := by decide +kernel
theorem dX5_barredBehind_131 : decode cX5_barredBehind 131 = .ok (.iaload, 1) := by decide +kernel
theorem dX5_barredBehind_132 : decode cX5_barredBehind 132 = .ok (.ishl, 1) := by decide +kernel
theorem dX5_barredBehind_133 : decode cX5_barredBehind 133 = .ok (.ireturn, 1) := by decide +kernel
theorem dX5_barredBehind_134 : decode cX5_barredBehind 134 = .ok (.iload_n 2, 1) := by decide +kernel
theorem dX5_barredBehind_135 : decode cX5_barredBehind 135 = .ok (.aload_n 0, 1) := by decide +kernel
theorem dX5_barredBehind_136 : decode cX5_barredBehind 136 = .ok (.getfield 39, 3) := by decide +kernel
theorem dX5_barredBehind_139 : decode cX5_barredBehind 139 = .ok (.iload_n 1, 1) := by decide +kernel
theorem dX5_barredBehind_140 : decode cX5_barredBehind 140 = .ok (.iaload, 1) := by decide +kernel
theorem dX5_barredBehind_141 : decode cX5_barredBehind 141 = .ok (.ishr, 1) := by decide +kernel
theorem dX5_barredBehind_142 : decode cX5_barredBehind 142 = .ok (.iconst 1, 1) := by decide +kernel
theorem dX5_barredBehind_143 : decode cX5_barredBehind 143 = .ok (.iand, 1) := by decide +kernel
theorem dX5_barredBehind_144 : decode cX5_barredBehind 144 = .ok (.iload_n 2, 1) := by decide +kernel
theorem dX5_barredBehind_145 : decode cX5_barredBehind 145 = .ok (.aload_n 0, 1) := by decide +kernel
theorem dX5_barredBehind_146 : decode cX5_barredBehind 146 = .ok (.getfield 42, 3) := by decide +kernel
theorem dX5_barredBehind_149 : decode cX5_barredBehind 149 = .ok (.iload_n 1, 1) := by decide +kernel
theorem dX5_barredBehind_150 : decode cX5_barredBehind 150 = .ok (.iaload, 1) := by decide +kernel
theorem dX5_barredBehind_151 : decode cX5_barredBehind 151 = .ok (.ishr, 1) := by decide +kernel
theorem dX5_barredBehind_152 : decode cX5_barredBehind 152 = .ok (.iconst 1, 1) := by decide +kernel
theorem dX5_barredBehind_153 : decode cX5_barredBehind 153 = .ok (.iand, 1) := by decide +kernel
theorem dX5_barredBehind_154 : decode cX5_barredBehind 154 = .ok (.if_icmp .eq 7, 3) := by decide +kernel
theorem dX5_barredBehind_157 : decode cX5_barredBehind 157 = .ok (.iconst 0, 1) := by decide +kernel
theorem dX5_barredBehind_158 : decode cX5_barredBehind 158 = .ok (.goto 11, 3) := by decide +kernel
theorem dX5_barredBehind_161 : decode cX5_barredBehind 161 = .ok (.iconst 1, 1) := by decide +kernel
theorem dX5_barredBehind_162 : decode cX5_barredBehind 162 = .ok (.aload_n 0, 1) := by decide +kernel
theorem dX5_barredBehind_163 : decode cX5_barredBehind 163 = .ok (.getfield 36, 3) := by decide +kernel
theorem dX5_barredBehind_166 : decode cX5_barredBehind 166 = .ok (.iload_n 1, 1) := by decide +kernel
theorem dX5_barredBehind_167 : decode cX5_barredBehind 167 = .ok (.iaload, 1) := by decide +kernel
theorem dX5_barredBehind_168 : decode cX5_barredBehind 168 = .ok (.ishl, 1) := by decide +kernel
theorem dX5_barredBehind_169 : decode cX5_barredBehind 169 = .ok (.ireturn, 1) := by decide +kernel
theorem dX5_barredBehind_170 : decode cX5_barredBehind 170 = .ok (.iconst 0, 1) := by decide +kernel
theorem dX5_barredBehind_171 : decode cX5_barredBehind 171 = .ok (.ireturn, 1) := by decide +kernel
theorem dX5_barredNextTo_0 : decode cX5_barredNextTo 0 = .ok (.aload_n 0, 1) := by decide +kernel
theorem dX5_barredNextTo_1 : decode cX5_barredNextTo 1 = .ok (.iload_n 1, 1) := by decide +kernel
theorem dX5_barredNextTo_2 : decode cX5_barredNextTo 2 = .ok (.invokevirtual 83, 3) := by decide +kernel
theorem dX5_barredNextTo_5 : decode cX5_barredNextTo 5 = .ok (.ifCond .eq 5, 3) := by decide +kernel
theorem dX5_barredNextTo_8 : decode cX5_barredNextTo 8 = .ok (.iconst 0, 1) := by decide +kernel
theorem dX5_barredNextTo_9 : decode cX5_barredNextTo 9 = .ok (.ireturn, 1) := by decide +kernel
theorem dX5_barredNextTo_10 : decode cX5_barredNextTo 10 = .ok (.aload_n 0, 1) := by decide +kernel
theorem dX5_barredNextTo_11 : decode cX5_barredNextTo 11 = .ok (.getfield 33, 3) := by decide +kernel
theorem dX5_barredNextTo_14 : decode cX5_barredNextTo 14 = .ok (.iload_n 1, 1) := by decide +kernel
theorem dX5_barredNextTo_15 : decode cX5_barredNextTo 15 = .ok (.iaload, 1) := by decide +kernel
theorem dX5_barredNextTo_16 : decode cX5_barredNextTo 16 = .ok (.lookupswitch 95 #[(2, 28), (5, 51)], 28) := by decide +kernel
theorem dX5_barredNextTo_44 : decode cX5_barredNextTo 44 = .ok (.iload_n 2, 1) := by decide +kernel
theorem dX5_barredNextTo_45 : decode cX5_barredNextTo 45 = .ok (.aload_n 0, 1) := by decide +kernel
theorem dX5_barredNextTo_46 : decode cX5_barredNextTo 46 = .ok (.getfield 36, 3) := by decide +kernel
theorem dX5_barredNextTo_49 : decode cX5_barredNextTo 49 = .ok (.iload_n 1, 1) := by decide +kernel
theorem dX5_barredNextTo_50 : decode cX5_barredNextTo 50 = .ok (.iaload, 1) := by decide +kernel
theorem dX5_barredNextTo_51 : decode cX5_barredNextTo 51 = .ok (.if_icmp .ne 7, 3) := by decide +kernel
theorem dX5_barredNextTo_54 : decode cX5_barredNextTo 54 = .ok (.iconst 0, 1) := by decide +kernel
theorem dX5_barredNextTo_55 : decode cX5_barredNextTo 55 = .ok (.goto 11, 3) := by decide +kernel
theorem dX5_barredNextTo_58 : decode cX5_barredNextTo 58 = .ok (.iconst 1, 1) := by decide +kernel
theorem dX5_barredNextTo_59 : decode cX5_barredNextTo 59 = .ok (.aload_n 0, 1) := by decide +kernel
theorem dX5_barredNextTo_60 : decode cX5_barredNextTo 60 = .ok (.getfield 39, 3) := by decide +kernel
theorem dX5_barredNextTo_63 : decode cX5_barredNextTo 63 = .ok (.iload_n 1, 1) := by decide +kernel
theorem dX5_barredNextTo_64 : decode cX5_barredNextTo 64 = .ok (.iaload, 1) := by decide +kernel
theorem dX5_barredNextTo_65 : decode cX5_barredNextTo 65 = .ok (.ishl, 1) := by decide +kernel
theorem dX5_barredNextTo_66 : decode cX5_barredNextTo 66 = .ok (.ireturn, 1) := by decide +kernel
theorem dX5_barredNextTo_67 : decode cX5_barredNextTo 67 = .ok (.iload_n 2, 1) := by decide +kernel
theorem dX5_barredNextTo_68 : decode cX5_barredNextTo 68 = .ok (.aload_n 0, 1) := by decide +kernel
theorem dX5_barredNextTo_69 : decode cX5_barredNextTo 69 = .ok (.getfield 36, 3) := by decide +kernel
theorem dX5_barredNextTo_72 : decode cX5_barredNextTo 72 = .ok (.iload_n 1, 1) := by decide +kernel
theorem dX5_barredNextTo_73 : decode cX5_barredNextTo 73 = .ok (.iaload, 1) := by decide +kernel
theorem dX5_barredNextTo_74 : decode cX5_barredNextTo 74 = .ok (.if_icmp .ne 14, 3) := by decide +kernel
theorem dX5_barredNextTo_77 : decode cX5_barredNextTo 77 = .ok (.iconst 1, 1) := by decide +kernel
theorem dX5_barredNextTo_78 : decode cX5_barredNextTo 78 = .ok (.aload_n 0, 1) := by decide +kernel
theorem dX5_barredNextTo_79 : decode cX5_barredNextTo 79 = .ok (.getfield 39, 3) := by decide +kernel
theorem dX5_barredNextTo_82 : decode cX5_barredNextTo 82 = .ok (.iload_n 1, 1) := by decide +kernel
theorem dX5_barredNextTo_83 : decode cX5_barredNextTo 83 = .ok (.iaload, 1) := by decide +kernel
theorem dX5_barredNextTo_84 : decode cX5_barredNextTo 84 = .ok (.ishl, 1) := by decide +kernel
theorem dX5_barredNextTo_85 : decode cX5_barredNextTo 85 = .ok (.goto 25, 3) := by decide +kernel
theorem dX5_barredNextTo_88 : decode cX5_barredNextTo 88 = .ok (.iload_n 2, 1) := by decide +kernel
theorem dX5_barredNextTo_89 : decode cX5_barredNextTo 89 = .ok (.aload_n 0, 1) := by decide +kernel
theorem dX5_barredNextTo_90 : decode cX5_barredNextTo 90 = .ok (.getfield 39, 3) := by decide +kernel
theorem dX5_barredNextTo_93 : decode cX5_barredNextTo 93 = .ok (.iload_n 1, 1) := by decide +kernel
theorem dX5_barredNextTo_94 : decode cX5_barredNextTo 94 = .ok (.iaload, 1) := by decide +kernel
theorem dX5_barredNextTo_95 : decode cX5_barredNextTo 95 = .ok (.if_icmp .ne 14, 3) := by decide +kernel
theorem dX5_barredNextTo_98 : decode cX5_barredNextTo 98 = .ok (.iconst 1, 1) := by decide +kernel
theorem dX5_barredNextTo_99 : decode cX5_barredNextTo 99 = .ok (.aload_n 0, 1) := by decide +kernel
theorem dX5_barredNextTo_100 : decode cX5_barredNextTo 100 = .ok (.getfield 36, 3) := by decide +kernel
theorem dX5_barredNextTo_103 : decode cX5_barredNextTo 103 = .ok (.iload_n 1, 1) := by decide +kernel
theorem dX5_barredNextTo_104 : decode cX5_barredNextTo 104 = .ok (.iaload, 1) := by decide +kernel
theorem dX5_barredNextTo_105 : decode cX5_barredNextTo 105 = .ok (.ishl, 1) := by decide +kernel
theorem dX5_barredNextTo_106 : decode cX5_barredNextTo 106 = .ok (.goto 4, 3) := by decide +kernel
theorem dX5_barredNextTo_109 : decode cX5_barredNextTo 109 = .ok (.iconst 0, 1) := by decide +kernel
theorem dX5_barredNextTo_110 : decode cX5_barredNextTo 110 = .ok (.ireturn, 1) := by decide +kernel
theorem dX5_barredNextTo_111 : decode cX5_barredNextTo 111 = .ok (.iconst 0, 1) := by decide +kernel
theorem dX5_barredNextTo_112 : decode cX5_barredNextTo 112 = .ok (.ireturn, 1) := by decide +kernel
theorem dX5_isOrder_0 : decode cX5_isOrder 0 = .ok (.iconst 0, 1) := by decide +kernel
theorem dX5_isOrder_1 : decode cX5_isOrder 1 = .ok (.istore_n 2, 1) := by decide +kernel
theorem dX5_isOrder_2 : decode cX5_isOrder 2 = .ok (.iconst 0, 1) := by decide +kernel
theorem dX5_isOrder_3 : decode cX5_isOrder 3 = .ok (.istore_n 3, 1) := by decide +kernel
theorem dX5_isOrder_4 : decode cX5_isOrder 4 = .ok (.iload_n 3, 1) := by decide +kernel
theorem dX5_isOrder_5 : decode cX5_isOrder 5 = .ok (.aload_n 0, 1) := by decide +kernel
theorem dX5_isOrder_6 : decode cX5_isOrder 6 = .ok (.getfield 9, 3) := by decide +kernel
theorem dX5_isOrder_9 : decode cX5_isOrder 9 = .ok (.if_icmp .ge 29, 3) := by decide +kernel
theorem dX5_isOrder_12 : decode cX5_isOrder 12 = .ok (.aload_n 0, 1) := by decide +kernel
theorem dX5_isOrder_13 : decode cX5_isOrder 13 = .ok (.aload_n 1, 1) := by decide +kernel
theorem dX5_isOrder_14 : decode cX5_isOrder 14 = .ok (.iload_n 3, 1) := by decide +kernel
theorem dX5_isOrder_15 : decode cX5_isOrder 15 = .ok (.iaload, 1) := by decide +kernel
theorem dX5_isOrder_16 : decode cX5_isOrder 16 = .ok (.invokevirtual 66, 3) := by decide +kernel
theorem dX5_isOrder_19 : decode cX5_isOrder 19 = .ok (.ifCond .ne 5, 3) := by decide +kernel
theorem dX5_isOrder_22 : decode cX5_isOrder 22 = .ok (.iconst 0, 1) := by decide +kernel
theorem dX5_isOrder_23 : decode cX5_isOrder 23 = .ok (.ireturn, 1) := by decide +kernel
theorem dX5_isOrder_24 : decode cX5_isOrder 24 = .ok (.iload_n 2, 1) := by decide +kernel
theorem dX5_isOrder_25 : decode cX5_isOrder 25 = .ok (.iconst 1, 1) := by decide +kernel
theorem dX5_isOrder_26 : decode cX5_isOrder 26 = .ok (.aload_n 1, 1) := by decide +kernel
theorem dX5_isOrder_27 : decode cX5_isOrder 27 = .ok (.iload_n 3, 1) := by decide +kernel
theorem dX5_isOrder_28 : decode cX5_isOrder 28 = .ok (.iaload, 1) := by decide +kernel
theorem dX5_isOrder_29 : decode cX5_isOrder 29 = .ok (.ishl, 1) := by decide +kernel
theorem dX5_isOrder_30 : decode cX5_isOrder 30 = .ok (.ior, 1) := by decide +kernel
theorem dX5_isOrder_31 : decode cX5_isOrder 31 = .ok (.istore_n 2, 1) := by decide +kernel
theorem dX5_isOrder_32 : decode cX5_isOrder 32 = .ok (.iinc 3 1, 3) := by decide +kernel
theorem dX5_isOrder_35 : decode cX5_isOrder 35 = .ok (.goto (-31), 3) := by decide +kernel
theorem dX5_isOrder_38 : decode cX5_isOrder 38 = .ok (.iload_n 2, 1) := by decide +kernel
theorem dX5_isOrder_39 : decode cX5_isOrder 39 = .ok (.aload_n 0, 1) := by decide +kernel
theorem dX5_isOrder_40 : decode cX5_isOrder 40 = .ok (.invokevirtual 95, 3) := by decide +kernel
theorem dX5_isOrder_43 : decode cX5_isOrder 43 = .ok (.if_icmp .ne 7, 3) := by decide +kernel
theorem dX5_isOrder_46 : decode cX5_isOrder 46 = .ok (.iconst 1, 1) := by decide +kernel
theorem dX5_isOrder_47 : decode cX5_isOrder 47 = .ok (.goto 4, 3) := by decide +kernel
theorem dX5_isOrder_50 : decode cX5_isOrder 50 = .ok (.iconst 0, 1) := by decide +kernel
theorem dX5_isOrder_51 : decode cX5_isOrder 51 = .ok (.ireturn, 1) := by decide +kernel
theorem dX5_seatsOf_0 : decode cX5_seatsOf 0 = .ok (.iconst 0, 1) := by decide +kernel
theorem dX5_seatsOf_1 : decode cX5_seatsOf 1 = .ok (.istore_n 3, 1) := by decide +kernel
theorem dX5_seatsOf_2 : decode cX5_seatsOf 2 = .ok (.iload_n 3, 1) := by decide +kernel
theorem dX5_seatsOf_3 : decode cX5_seatsOf 3 = .ok (.aload_n 0, 1) := by decide +kernel
theorem dX5_seatsOf_4 : decode cX5_seatsOf 4 = .ok (.getfield 9, 3) := by decide +kernel
theorem dX5_seatsOf_7 : decode cX5_seatsOf 7 = .ok (.if_icmp .ge 15, 3) := by decide +kernel
theorem dX5_seatsOf_10 : decode cX5_seatsOf 10 = .ok (.aload_n 2, 1) := by decide +kernel
theorem dX5_seatsOf_11 : decode cX5_seatsOf 11 = .ok (.aload_n 1, 1) := by decide +kernel
theorem dX5_seatsOf_12 : decode cX5_seatsOf 12 = .ok (.iload_n 3, 1) := by decide +kernel
theorem dX5_seatsOf_13 : decode cX5_seatsOf 13 = .ok (.iaload, 1) := by decide +kernel
theorem dX5_seatsOf_14 : decode cX5_seatsOf 14 = .ok (.iload_n 3, 1) := by decide +kernel
theorem dX5_seatsOf_15 : decode cX5_seatsOf 15 = .ok (.iastore, 1) := by decide +kernel
theorem dX5_seatsOf_16 : decode cX5_seatsOf 16 = .ok (.iinc 3 1, 3) := by decide +kernel
theorem dX5_seatsOf_19 : decode cX5_seatsOf 19 = .ok (.goto (-17), 3) := by decide +kernel
theorem dX5_seatsOf_22 : decode cX5_seatsOf 22 = .ok (.return_, 1) := by decide +kernel
theorem dX5_firstBroken_0 : decode cX5_firstBroken 0 = .ok (.aload_n 0, 1) := by decide +kernel
theorem dX5_firstBroken_1 : decode cX5_firstBroken 1 = .ok (.aload_n 1, 1) := by decide +kernel
theorem dX5_firstBroken_2 : decode cX5_firstBroken 2 = .ok (.aload_n 0, 1) := by decide +kernel
theorem dX5_firstBroken_3 : decode cX5_firstBroken 3 = .ok (.getfield 45, 3) := by decide +kernel
theorem dX5_firstBroken_6 : decode cX5_firstBroken 6 = .ok (.invokevirtual 99, 3) := by decide +kernel
theorem dX5_firstBroken_9 : decode cX5_firstBroken 9 = .ok (.iconst 0, 1) := by decide +kernel
theorem dX5_firstBroken_10 : decode cX5_firstBroken 10 = .ok (.istore_n 2, 1) := by decide +kernel
theorem dX5_firstBroken_11 : decode cX5_firstBroken 11 = .ok (.iload_n 2, 1) := by decide +kernel
theorem dX5_firstBroken_12 : decode cX5_firstBroken 12 = .ok (.aload_n 0, 1) := by decide +kernel
theorem dX5_firstBroken_13 : decode cX5_firstBroken 13 = .ok (.getfield 15, 3) := by decide +kernel
theorem dX5_firstBroken_16 : decode cX5_firstBroken 16 = .ok (.if_icmp .ge 27, 3) := by decide +kernel
theorem dX5_firstBroken_19 : decode cX5_firstBroken 19 = .ok (.aload_n 0, 1) := by decide +kernel
theorem dX5_firstBroken_20 : decode cX5_firstBroken 20 = .ok (.iload_n 2, 1) := by decide +kernel
theorem dX5_firstBroken_21 : decode cX5_firstBroken 21 = .ok (.invokevirtual 83, 3) := by decide +kernel
theorem dX5_firstBroken_24 : decode cX5_firstBroken 24 = .ok (.ifCond .ne 13, 3) := by decide +kernel
theorem dX5_firstBroken_27 : decode cX5_firstBroken 27 = .ok (.aload_n 0, 1) := by decide +kernel
theorem dX5_firstBroken_28 : decode cX5_firstBroken 28 = .ok (.iload_n 2, 1) := by decide +kernel
theorem dX5_firstBroken_29 : decode cX5_firstBroken 29 = .ok (.invokevirtual 103, 3) := by decide +kernel
theorem dX5_firstBroken_32 : decode cX5_firstBroken 32 = .ok (.ifCond .ne 5, 3) := by decide +kernel
theorem dX5_firstBroken_35 : decode cX5_firstBroken 35 = .ok (.iload_n 2, 1) := by decide +kernel
theorem dX5_firstBroken_36 : decode cX5_firstBroken 36 = .ok (.ireturn, 1) := by decide +kernel
theorem dX5_firstBroken_37 : decode cX5_firstBroken 37 = .ok (.iinc 2 1, 3) := by decide +kernel
theorem dX5_firstBroken_40 : decode cX5_firstBroken 40 = .ok (.goto (-29), 3) := by decide +kernel
theorem dX5_firstBroken_43 : decode cX5_firstBroken 43 = .ok (.bipush (-9), 2) := by decide +kernel
theorem dX5_firstBroken_45 : decode cX5_firstBroken 45 = .ok (.ireturn, 1) := by decide +kernel
theorem dX5_isKept_0 : decode cX5_isKept 0 = .ok (.aload_n 0, 1) := by decide +kernel
theorem dX5_isKept_1 : decode cX5_isKept 1 = .ok (.getfield 45, 3) := by decide +kernel
theorem dX5_isKept_4 : decode cX5_isKept 4 = .ok (.aload_n 0, 1) := by decide +kernel
theorem dX5_isKept_5 : decode cX5_isKept 5 = .ok (.getfield 36, 3) := by decide +kernel
theorem dX5_isKept_8 : decode cX5_isKept 8 = .ok (.iload_n 1, 1) := by decide +kernel
theorem dX5_isKept_9 : decode cX5_isKept 9 = .ok (.iaload, 1) := by decide +kernel
theorem dX5_isKept_10 : decode cX5_isKept 10 = .ok (.iaload, 1) := by decide +kernel
theorem dX5_isKept_11 : decode cX5_isKept 11 = .ok (.istore_n 2, 1) := by decide +kernel
theorem dX5_isKept_12 : decode cX5_isKept 12 = .ok (.aload_n 0, 1) := by decide +kernel
theorem dX5_isKept_13 : decode cX5_isKept 13 = .ok (.getfield 33, 3) := by decide +kernel
theorem dX5_isKept_16 : decode cX5_isKept 16 = .ok (.iload_n 1, 1) := by decide +kernel
theorem dX5_isKept_17 : decode cX5_isKept 17 = .ok (.iaload, 1) := by decide +kernel
theorem dX5_isKept_18 : decode cX5_isKept 18 = .ok (.tableswitch 189 1 6 #[38, 59, 82, 98, 114, 140], 38) := by decide +kernel
theorem dX5_isKept_56 : decode cX5_isKept 56 = .ok (.iload_n 2, 1) := by decide +kernel
theorem dX5_isKept_57 : decode cX5_isKept 57 = .ok (.aload_n 0, 1) := by decide +kernel
theorem dX5_isKept_58 : decode cX5_isKept 58 = .ok (.getfield 45, 3) := by decide +kernel
theorem dX5_isKept_61 : decode cX5_isKept 61 = .ok (.aload_n 0, 1) := by decide +kernel
theorem dX5_isKept_62 : decode cX5_isKept 62 = .ok (.getfield 39, 3) := by decide +kernel
theorem dX5_isKept_65 : decode cX5_isKept 65 = .ok (.iload_n 1, 1) := by decide +kernel
theorem dX5_isKept_66 : decode cX5_isKept 66 = .ok (.iaload, 1) := by decide +kernel
theorem dX5_isKept_67 : decode cX5_isKept 67 = .ok (.iaload, 1) := by decide +kernel
theorem dX5_isKept_68 : decode cX5_isKept 68 = .ok (.if_icmp .ge 7, 3) := by decide +kernel
theorem dX5_isKept_71 : decode cX5_isKept 71 = .ok (.iconst 1, 1) := by decide +kernel
theorem dX5_isKept_72 : decode cX5_isKept 72 = .ok (.goto 4, 3) := by decide +kernel
theorem dX5_isKept_75 : decode cX5_isKept 75 = .ok (.iconst 0, 1) := by decide +kernel
theorem dX5_isKept_76 : decode cX5_isKept 76 = .ok (.ireturn, 1) := by decide +kernel
theorem dX5_isKept_77 : decode cX5_isKept 77 = .ok (.iload_n 2, 1) := by decide +kernel
theorem dX5_isKept_78 : decode cX5_isKept 78 = .ok (.iconst 1, 1) := by decide +kernel
theorem dX5_isKept_79 : decode cX5_isKept 79 = .ok (.iadd, 1) := by decide +kernel
theorem dX5_isKept_80 : decode cX5_isKept 80 = .ok (.aload_n 0, 1) := by decide +kernel
theorem dX5_isKept_81 : decode cX5_isKept 81 = .ok (.getfield 45, 3) := by decide +kernel
theorem dX5_isKept_84 : decode cX5_isKept 84 = .ok (.aload_n 0, 1) := by decide +kernel
theorem dX5_isKept_85 : decode cX5_isKept 85 = .ok (.getfield 39, 3) := by decide +kernel
theorem dX5_isKept_88 : decode cX5_isKept 88 = .ok (.iload_n 1, 1) := by decide +kernel
theorem dX5_isKept_89 : decode cX5_isKept 89 = .ok (.iaload, 1) := by decide +kernel
theorem dX5_isKept_90 : decode cX5_isKept 90 = .ok (.iaload, 1) := by decide +kernel
theorem dX5_isKept_91 : decode cX5_isKept 91 = .ok (.if_icmp .ne 7, 3) := by decide +kernel
theorem dX5_isKept_94 : decode cX5_isKept 94 = .ok (.iconst 1, 1) := by decide +kernel
theorem dX5_isKept_95 : decode cX5_isKept 95 = .ok (.goto 4, 3) := by decide +kernel
theorem dX5_isKept_98 : decode cX5_isKept 98 = .ok (.iconst 0, 1) := by decide +kernel
theorem dX5_isKept_99 : decode cX5_isKept 99 = .ok (.ireturn, 1) := by decide +kernel
theorem dX5_isKept_100 : decode cX5_isKept 100 = .ok (.iload_n 2, 1) := by decide +kernel
theorem dX5_isKept_101 : decode cX5_isKept 101 = .ok (.aload_n 0, 1) := by decide +kernel
theorem dX5_isKept_102 : decode cX5_isKept 102 = .ok (.getfield 39, 3) := by decide +kernel
theorem dX5_isKept_105 : decode cX5_isKept 105 = .ok (.iload_n 1, 1) := by decide +kernel
theorem dX5_isKept_106 : decode cX5_isKept 106 = .ok (.iaload, 1) := by decide +kernel
theorem dX5_isKept_107 : decode cX5_isKept 107 = .ok (.if_icmp .ne 7, 3) := by decide +kernel
theorem dX5_isKept_110 : decode cX5_isKept 110 = .ok (.iconst 1, 1) := by decide +kernel
theorem dX5_isKept_111 : decode cX5_isKept 111 = .ok (.goto 4, 3) := by decide +kernel
theorem dX5_isKept_114 : decode cX5_isKept 114 = .ok (.iconst 0, 1) := by decide +kernel
theorem dX5_isKept_115 : decode cX5_isKept 115 = .ok (.ireturn, 1) := by decide +kernel
theorem dX5_isKept_116 : decode cX5_isKept 116 = .ok (.iload_n 2, 1) := by decide +kernel
theorem dX5_isKept_117 : decode cX5_isKept 117 = .ok (.aload_n 0, 1) := by decide +kernel
theorem dX5_isKept_118 : decode cX5_isKept 118 = .ok (.getfield 39, 3) := by decide +kernel
theorem dX5_isKept_121 : decode cX5_isKept 121 = .ok (.iload_n 1, 1) := by decide +kernel
theorem dX5_isKept_122 : decode cX5_isKept 122 = .ok (.iaload, 1) := by decide +kernel
theorem dX5_isKept_123 : decode cX5_isKept 123 = .ok (.if_icmp .gt 7, 3) := by decide +kernel
theorem dX5_isKept_126 : decode cX5_isKept 126 = .ok (.iconst 1, 1) := by decide +kernel
theorem dX5_isKept_127 : decode cX5_isKept 127 = .ok (.goto 4, 3) := by decide +kernel
theorem dX5_isKept_130 : decode cX5_isKept 130 = .ok (.iconst 0, 1) := by decide +kernel
theorem dX5_isKept_131 : decode cX5_isKept 131 = .ok (.ireturn, 1) := by decide +kernel
theorem dX5_isKept_132 : decode cX5_isKept 132 = .ok (.iload_n 2, 1) := by decide +kernel
theorem dX5_isKept_133 : decode cX5_isKept 133 = .ok (.aload_n 0, 1) := by decide +kernel
theorem dX5_isKept_134 : decode cX5_isKept 134 = .ok (.getfield 45, 3) := by decide +kernel
theorem dX5_isKept_137 : decode cX5_isKept 137 = .ok (.aload_n 0, 1) := by decide +kernel
theorem dX5_isKept_138 : decode cX5_isKept 138 = .ok (.getfield 39, 3) := by decide +kernel
theorem dX5_isKept_141 : decode cX5_isKept 141 = .ok (.iload_n 1, 1) := by decide +kernel
theorem dX5_isKept_142 : decode cX5_isKept 142 = .ok (.iaload, 1) := by decide +kernel
theorem dX5_isKept_143 : decode cX5_isKept 143 = .ok (.iaload, 1) := by decide +kernel
theorem dX5_isKept_144 : decode cX5_isKept 144 = .ok (.isub, 1) := by decide +kernel
theorem dX5_isKept_145 : decode cX5_isKept 145 = .ok (.invokestatic 106, 3) := by decide +kernel
theorem dX5_isKept_148 : decode cX5_isKept 148 = .ok (.iconst 1, 1) := by decide +kernel
theorem dX5_isKept_149 : decode cX5_isKept 149 = .ok (.if_icmp .eq 7, 3) := by decide +kernel
theorem dX5_isKept_152 : decode cX5_isKept 152 = .ok (.iconst 1, 1) := by decide +kernel
theorem dX5_isKept_153 : decode cX5_isKept 153 = .ok (.goto 4, 3) := by decide +kernel
theorem dX5_isKept_156 : decode cX5_isKept 156 = .ok (.iconst 0, 1) := by decide +kernel
theorem dX5_isKept_157 : decode cX5_isKept 157 = .ok (.ireturn, 1) := by decide +kernel
theorem dX5_isKept_158 : decode cX5_isKept 158 = .ok (.aload_n 0, 1) := by decide +kernel
theorem dX5_isKept_159 : decode cX5_isKept 159 = .ok (.getfield 45, 3) := by decide +kernel
theorem dX5_isKept_162 : decode cX5_isKept 162 = .ok (.aload_n 0, 1) := by decide +kernel
theorem dX5_isKept_163 : decode cX5_isKept 163 = .ok (.getfield 39, 3) := by decide +kernel
theorem dX5_isKept_166 : decode cX5_isKept 166 = .ok (.iload_n 1, 1) := by decide +kernel
theorem dX5_isKept_167 : decode cX5_isKept 167 = .ok (.iaload, 1) := by decide +kernel
theorem dX5_isKept_168 : decode cX5_isKept 168 = .ok (.iaload, 1) := by decide +kernel
theorem dX5_isKept_169 : decode cX5_isKept 169 = .ok (.iload_n 2, 1) := by decide +kernel
theorem dX5_isKept_170 : decode cX5_isKept 170 = .ok (.if_icmp .ge 7, 3) := by decide +kernel
theorem dX5_isKept_173 : decode cX5_isKept 173 = .ok (.iconst 1, 1) := by decide +kernel
theorem dX5_isKept_174 : decode cX5_isKept 174 = .ok (.goto 4, 3) := by decide +kernel
theorem dX5_isKept_177 : decode cX5_isKept 177 = .ok (.iconst 0, 1) := by decide +kernel
theorem dX5_isKept_178 : decode cX5_isKept 178 = .ok (.aload_n 0, 1) := by decide +kernel
theorem dX5_isKept_179 : decode cX5_isKept 179 = .ok (.getfield 45, 3) := by decide +kernel
theorem dX5_isKept_182 : decode cX5_isKept 182 = .ok (.aload_n 0, 1) := by decide +kernel
theorem dX5_isKept_183 : decode cX5_isKept 183 = .ok (.getfield 42, 3) := by decide +kernel
theorem dX5_isKept_186 : decode cX5_isKept 186 = .ok (.iload_n 1, 1) := by decide +kernel
theorem dX5_isKept_187 : decode cX5_isKept 187 = .ok (.iaload, 1) := by decide +kernel
theorem dX5_isKept_188 : decode cX5_isKept 188 = .ok (.iaload, 1) := by decide +kernel
theorem dX5_isKept_189 : decode cX5_isKept 189 = .ok (.iload_n 2, 1) := by decide +kernel
theorem dX5_isKept_190 : decode cX5_isKept 190 = .ok (.if_icmp .ge 7, 3) := by decide +kernel
theorem dX5_isKept_193 : decode cX5_isKept 193 = .ok (.iconst 1, 1) := by decide +kernel
theorem dX5_isKept_194 : decode cX5_isKept 194 = .ok (.goto 4, 3) := by decide +kernel
theorem dX5_isKept_197 : decode cX5_isKept 197 = .ok (.iconst 0, 1) := by decide +kernel
theorem dX5_isKept_198 : decode cX5_isKept 198 = .ok (.if_icmp .eq 7, 3) := by decide +kernel
theorem dX5_isKept_201 : decode cX5_isKept 201 = .ok (.iconst 1, 1) := by decide +kernel
theorem dX5_isKept_202 : decode cX5_isKept 202 = .ok (.goto 4, 3) := by decide +kernel
theorem dX5_isKept_205 : decode cX5_isKept 205 = .ok (.iconst 0, 1) := by decide +kernel
theorem dX5_isKept_206 : decode cX5_isKept 206 = .ok (.ireturn, 1) := by decide +kernel
theorem dX5_isKept_207 : decode cX5_isKept 207 = .ok (.iconst 1, 1) := by decide +kernel
theorem dX5_isKept_208 : decode cX5_isKept 208 = .ok (.ireturn, 1) := by decide +kernel
theorem dX5_measured_0 : decode cX5_measured 0 = .ok (.iload_n 1, 1) := by decide +kernel
theorem dX5_measured_1 : decode cX5_measured 1 = .ok (.iconst 4, 1) := by decide +kernel
theorem dX5_measured_2 : decode cX5_measured 2 = .ok (.if_icmp .ne 9, 3) := by decide +kernel
theorem dX5_measured_5 : decode cX5_measured 5 = .ok (.aload_n 0, 1) := by decide +kernel
theorem dX5_measured_6 : decode cX5_measured 6 = .ok (.aload_n 2, 1) := by decide +kernel
theorem dX5_measured_7 : decode cX5_measured 7 = .ok (.invokevirtual 109, 3) := by decide +kernel
theorem dX5_measured_10 : decode cX5_measured 10 = .ok (.ireturn, 1) := by decide +kernel
theorem dX5_measured_11 : decode cX5_measured 11 = .ok (.iconst 0, 1) := by decide +kernel
theorem dX5_measured_12 : decode cX5_measured 12 = .ok (.istore_n 3, 1) := by decide +kernel
theorem dX5_measured_13 : decode cX5_measured 13 = .ok (.iconst 0, 1) := by decide +kernel
theorem dX5_measured_14 : decode cX5_measured 14 = .ok (.istore 4, 2) := by decide +kernel
theorem dX5_measured_16 : decode cX5_measured 16 = .ok (.iconst 0, 1) := by decide +kernel
theorem dX5_measured_17 : decode cX5_measured 17 = .ok (.istore 5, 2) := by decide +kernel
theorem dX5_measured_19 : decode cX5_measured 19 = .ok (.iconst 0, 1) := by decide +kernel
theorem dX5_measured_20 : decode cX5_measured 20 = .ok (.istore 6, 2) := by decide +kernel
theorem dX5_measured_22 : decode cX5_measured 22 = .ok (.iload 6, 2) := by decide +kernel
theorem dX5_measured_24 : decode cX5_measured 24 = .ok (.iconst 1, 1) := by decide +kernel
theorem dX5_measured_25 : decode cX5_measured 25 = .ok (.iadd, 1) := by decide +kernel
theorem dX5_measured_26 : decode cX5_measured 26 = .ok (.aload_n 0, 1) := by decide +kernel
theorem dX5_measured_27 : decode cX5_measured 27 = .ok (.getfield 9, 3) := by decide +kernel
theorem dX5_measured_30 : decode cX5_measured 30 = .ok (.if_icmp .ge 79, 3) := by decide +kernel
theorem dX5_measured_33 : decode cX5_measured 33 = .ok (.iload 4, 2) := by decide +kernel
theorem dX5_measured_35 : decode cX5_measured 35 = .ok (.aload_n 0, 1) := by decide +kernel
theorem dX5_measured_36 : decode cX5_measured 36 = .ok (.aload_n 2, 1) := by decide +kernel
theorem dX5_measured_37 : decode cX5_measured 37 = .ok (.iload 6, 2) := by decide +kernel
theorem dX5_measured_39 : decode cX5_measured 39 = .ok (.iaload, 1) := by decide +kernel
theorem dX5_measured_40 : decode cX5_measured 40 = .ok (.iload_n 3, 1) := by decide +kernel
theorem dX5_measured_41 : decode cX5_measured 41 = .ok (.invokevirtual 113, 3) := by decide +kernel
theorem dX5_measured_44 : decode cX5_measured 44 = .ok (.iadd, 1) := by decide +kernel
theorem dX5_measured_45 : decode cX5_measured 45 = .ok (.istore 4, 2) := by decide +kernel
theorem dX5_measured_47 : decode cX5_measured 47 = .ok (.iload_n 3, 1) := by decide +kernel
theorem dX5_measured_48 : decode cX5_measured 48 = .ok (.iconst 1, 1) := by decide +kernel
theorem dX5_measured_49 : decode cX5_measured 49 = .ok (.aload_n 2, 1) := by decide +kernel
theorem dX5_measured_50 : decode cX5_measured 50 = .ok (.iload 6, 2) := by decide +kernel
theorem dX5_measured_52 : decode cX5_measured 52 = .ok (.iaload, 1) := by decide +kernel
theorem dX5_measured_53 : decode cX5_measured 53 = .ok (.ishl, 1) := by decide +kernel
theorem dX5_measured_54 : decode cX5_measured 54 = .ok (.ior, 1) := by decide +kernel
theorem dX5_measured_55 : decode cX5_measured 55 = .ok (.istore_n 3, 1) := by decide +kernel
theorem dX5_measured_56 : decode cX5_measured 56 = .ok (.iload_n 1, 1) := by decide +kernel
theorem dX5_measured_57 : decode cX5_measured 57 = .ok (.ifCond .eq 8, 3) := by decide +kernel
theorem dX5_measured_60 : decode cX5_measured 60 = .ok (.iload_n 1, 1) := by decide +kernel
theorem dX5_measured_61 : decode cX5_measured 61 = .ok (.iconst 1, 1) := by decide +kernel
theorem dX5_measured_62 : decode cX5_measured 62 = .ok (.if_icmp .ne 8, 3) := by decide +kernel
theorem dX5_measured_65 : decode cX5_measured 65 = .ok (.iload 4, 2) := by decide +kernel
theorem dX5_measured_67 : decode cX5_measured 67 = .ok (.goto 8, 3) := by decide +kernel
theorem dX5_measured_70 : decode cX5_measured 70 = .ok (.aload_n 0, 1) := by decide +kernel
theorem dX5_measured_71 : decode cX5_measured 71 = .ok (.iload_n 3, 1) := by decide +kernel
theorem dX5_measured_72 : decode cX5_measured 72 = .ok (.invokevirtual 116, 3) := by decide +kernel
theorem dX5_measured_75 : decode cX5_measured 75 = .ok (.istore 7, 2) := by decide +kernel
theorem dX5_measured_77 : decode cX5_measured 77 = .ok (.iload_n 1, 1) := by decide +kernel
theorem dX5_measured_78 : decode cX5_measured 78 = .ok (.ifCond .eq 8, 3) := by decide +kernel
theorem dX5_measured_81 : decode cX5_measured 81 = .ok (.iload_n 1, 1) := by decide +kernel
theorem dX5_measured_82 : decode cX5_measured 82 = .ok (.iconst 3, 1) := by decide +kernel
theorem dX5_measured_83 : decode cX5_measured 83 = .ok (.if_icmp .ne 11, 3) := by decide +kernel
theorem dX5_measured_86 : decode cX5_measured 86 = .ok (.iload 5, 2) := by decide +kernel
theorem dX5_measured_88 : decode cX5_measured 88 = .ok (.iload 7, 2) := by decide +kernel
theorem dX5_measured_90 : decode cX5_measured 90 = .ok (.iadd, 1) := by decide +kernel
theorem dX5_measured_91 : decode cX5_measured 91 = .ok (.goto 10, 3) := by decide +kernel
theorem dX5_measured_94 : decode cX5_measured 94 = .ok (.iload 5, 2) := by decide +kernel
theorem dX5_measured_96 : decode cX5_measured 96 = .ok (.iload 7, 2) := by decide +kernel
theorem dX5_measured_98 : decode cX5_measured 98 = .ok (.invokestatic 119, 3) := by decide +kernel
theorem dX5_measured_101 : decode cX5_measured 101 = .ok (.istore 5, 2) := by decide +kernel
theorem dX5_measured_103 : decode cX5_measured 103 = .ok (.iinc 6 1, 3) := by decide +kernel
theorem dX5_measured_106 : decode cX5_measured 106 = .ok (.goto (-84), 3) := by decide +kernel
theorem dX5_measured_109 : decode cX5_measured 109 = .ok (.iload 5, 2) := by decide +kernel
theorem dX5_measured_111 : decode cX5_measured 111 = .ok (.ireturn, 1) := by decide +kernel
theorem dX5_longest_0 : decode cX5_longest 0 = .ok (.iconst 0, 1) := by decide +kernel
theorem dX5_longest_1 : decode cX5_longest 1 = .ok (.istore_n 2, 1) := by decide +kernel
theorem dX5_longest_2 : decode cX5_longest 2 = .ok (.iconst 0, 1) := by decide +kernel
theorem dX5_longest_3 : decode cX5_longest 3 = .ok (.istore_n 3, 1) := by decide +kernel
theorem dX5_longest_4 : decode cX5_longest 4 = .ok (.iload_n 3, 1) := by decide +kernel
theorem dX5_longest_5 : decode cX5_longest 5 = .ok (.aload_n 0, 1) := by decide +kernel
theorem dX5_longest_6 : decode cX5_longest 6 = .ok (.getfield 9, 3) := by decide +kernel
theorem dX5_longest_9 : decode cX5_longest 9 = .ok (.if_icmp .ge 54, 3) := by decide +kernel
theorem dX5_longest_12 : decode cX5_longest 12 = .ok (.iload_n 3, 1) := by decide +kernel
theorem dX5_longest_13 : decode cX5_longest 13 = .ok (.iconst 1, 1) := by decide +kernel
theorem dX5_longest_14 : decode cX5_longest 14 = .ok (.iadd, 1) := by decide +kernel
theorem dX5_longest_15 : decode cX5_longest 15 = .ok (.istore 4, 2) := by decide +kernel
theorem dX5_longest_17 : decode cX5_longest 17 = .ok (.iload 4, 2) := by decide +kernel
theorem dX5_longest_19 : decode cX5_longest 19 = .ok (.aload_n 0, 1) := by decide +kernel
theorem dX5_longest_20 : decode cX5_longest 20 = .ok (.getfield 9, 3) := by decide +kernel
theorem dX5_longest_23 : decode cX5_longest 23 = .ok (.if_icmp .ge 34, 3) := by decide +kernel
theorem dX5_longest_26 : decode cX5_longest 26 = .ok (.aload_n 0, 1) := by decide +kernel
theorem dX5_longest_27 : decode cX5_longest 27 = .ok (.getfield 23, 3) := by decide +kernel
theorem dX5_longest_30 : decode cX5_longest 30 = .ok (.aload_n 1, 1) := by decide +kernel
theorem dX5_longest_31 : decode cX5_longest 31 = .ok (.iload_n 3, 1) := by decide +kernel
theorem dX5_longest_32 : decode cX5_longest 32 = .ok (.iaload, 1) := by decide +kernel
theorem dX5_longest_33 : decode cX5_longest 33 = .ok (.aaload, 1) := by decide +kernel
theorem dX5_longest_34 : decode cX5_longest 34 = .ok (.aload_n 1, 1) := by decide +kernel
theorem dX5_longest_35 : decode cX5_longest 35 = .ok (.iload 4, 2) := by decide +kernel
theorem dX5_longest_37 : decode cX5_longest 37 = .ok (.iaload, 1) := by decide +kernel
theorem dX5_longest_38 : decode cX5_longest 38 = .ok (.iaload, 1) := by decide +kernel
theorem dX5_longest_39 : decode cX5_longest 39 = .ok (.ifCond .le 12, 3) := by decide +kernel
theorem dX5_longest_42 : decode cX5_longest 42 = .ok (.iload_n 2, 1) := by decide +kernel
theorem dX5_longest_43 : decode cX5_longest 43 = .ok (.iload 4, 2) := by decide +kernel
theorem dX5_longest_45 : decode cX5_longest 45 = .ok (.iload_n 3, 1) := by decide +kernel
theorem dX5_longest_46 : decode cX5_longest 46 = .ok (.isub, 1) := by decide +kernel
theorem dX5_longest_47 : decode cX5_longest 47 = .ok (.invokestatic 119, 3) := by decide +kernel
theorem dX5_longest_50 : decode cX5_longest 50 = .ok (.istore_n 2, 1) := by decide +kernel
theorem dX5_longest_51 : decode cX5_longest 51 = .ok (.iinc 4 1, 3) := by decide +kernel
theorem dX5_longest_54 : decode cX5_longest 54 = .ok (.goto (-37), 3) := by decide +kernel
theorem dX5_longest_57 : decode cX5_longest 57 = .ok (.iinc 3 1, 3) := by decide +kernel
theorem dX5_longest_60 : decode cX5_longest 60 = .ok (.goto (-56), 3) := by decide +kernel
theorem dX5_longest_63 : decode cX5_longest 63 = .ok (.iload_n 2, 1) := by decide +kernel
theorem dX5_longest_64 : decode cX5_longest 64 = .ok (.ireturn, 1) := by decide +kernel
theorem dX5_weightAdded_0 : decode cX5_weightAdded 0 = .ok (.iconst 0, 1) := by decide +kernel
theorem dX5_weightAdded_1 : decode cX5_weightAdded 1 = .ok (.istore_n 3, 1) := by decide +kernel
theorem dX5_weightAdded_2 : decode cX5_weightAdded 2 = .ok (.iconst 0, 1) := by decide +kernel
theorem dX5_weightAdded_3 : decode cX5_weightAdded 3 = .ok (.istore 4, 2) := by decide +kernel
theorem dX5_weightAdded_5 : decode cX5_weightAdded 5 = .ok (.iload 4, 2) := by decide +kernel
theorem dX5_weightAdded_7 : decode cX5_weightAdded 7 = .ok (.aload_n 0, 1) := by decide +kernel
theorem dX5_weightAdded_8 : decode cX5_weightAdded 8 = .ok (.getfield 9, 3) := by decide +kernel
theorem dX5_weightAdded_11 : decode cX5_weightAdded 11 = .ok (.if_icmp .ge 30, 3) := by decide +kernel
theorem dX5_weightAdded_14 : decode cX5_weightAdded 14 = .ok (.iload_n 2, 1) := by decide +kernel
theorem dX5_weightAdded_15 : decode cX5_weightAdded 15 = .ok (.iload 4, 2) := by decide +kernel
theorem dX5_weightAdded_17 : decode cX5_weightAdded 17 = .ok (.ishr, 1) := by decide +kernel
theorem dX5_weightAdded_18 : decode cX5_weightAdded 18 = .ok (.iconst 1, 1) := by decide +kernel
theorem dX5_weightAdded_19 : decode cX5_weightAdded 19 = .ok (.iand, 1) := by decide +kernel
theorem dX5_weightAdded_20 : decode cX5_weightAdded 20 = .ok (.ifCond .eq 15, 3) := by decide +kernel
theorem dX5_weightAdded_23 : decode cX5_weightAdded 23 = .ok (.iload_n 3, 1) := by decide +kernel
theorem dX5_weightAdded_24 : decode cX5_weightAdded 24 = .ok (.aload_n 0, 1) := by decide +kernel
theorem dX5_weightAdded_25 : decode cX5_weightAdded 25 = .ok (.getfield 23, 3) := by decide +kernel
theorem dX5_weightAdded_28 : decode cX5_weightAdded 28 = .ok (.iload_n 1, 1) := by decide +kernel
theorem dX5_weightAdded_29 : decode cX5_weightAdded 29 = .ok (.aaload, 1) := by decide +kernel
theorem dX5_weightAdded_30 : decode cX5_weightAdded 30 = .ok (.iload 4, 2) := by decide +kernel
theorem dX5_weightAdded_32 : decode cX5_weightAdded 32 = .ok (.iaload, 1) := by decide +kernel
theorem dX5_weightAdded_33 : decode cX5_weightAdded 33 = .ok (.iadd, 1) := by decide +kernel
theorem dX5_weightAdded_34 : decode cX5_weightAdded 34 = .ok (.istore_n 3, 1) := by decide +kernel
theorem dX5_weightAdded_35 : decode cX5_weightAdded 35 = .ok (.iinc 4 1, 3) := by decide +kernel
theorem dX5_weightAdded_38 : decode cX5_weightAdded 38 = .ok (.goto (-33), 3) := by decide +kernel
theorem dX5_weightAdded_41 : decode cX5_weightAdded 41 = .ok (.aload_n 0, 1) := by decide +kernel
theorem dX5_weightAdded_42 : decode cX5_weightAdded 42 = .ok (.getfield 30, 3) := by decide +kernel
theorem dX5_weightAdded_45 : decode cX5_weightAdded 45 = .ok (.iload_n 1, 1) := by decide +kernel
theorem dX5_weightAdded_46 : decode cX5_weightAdded 46 = .ok (.iaload, 1) := by decide +kernel
theorem dX5_weightAdded_47 : decode cX5_weightAdded 47 = .ok (.iconst 2, 1) := by decide +kernel
theorem dX5_weightAdded_48 : decode cX5_weightAdded 48 = .ok (.iload_n 3, 1) := by decide +kernel
theorem dX5_weightAdded_49 : decode cX5_weightAdded 49 = .ok (.imul, 1) := by decide +kernel
theorem dX5_weightAdded_50 : decode cX5_weightAdded 50 = .ok (.isub, 1) := by decide +kernel
theorem dX5_weightAdded_51 : decode cX5_weightAdded 51 = .ok (.ireturn, 1) := by decide +kernel
theorem dX5_heldBy_0 : decode cX5_heldBy 0 = .ok (.iconst 0, 1) := by decide +kernel
theorem dX5_heldBy_1 : decode cX5_heldBy 1 = .ok (.istore_n 2, 1) := by decide +kernel
theorem dX5_heldBy_2 : decode cX5_heldBy 2 = .ok (.iconst 0, 1) := by decide +kernel
theorem dX5_heldBy_3 : decode cX5_heldBy 3 = .ok (.istore_n 3, 1) := by decide +kernel
theorem dX5_heldBy_4 : decode cX5_heldBy 4 = .ok (.iload_n 3, 1) := by decide +kernel
theorem dX5_heldBy_5 : decode cX5_heldBy 5 = .ok (.aload_n 0, 1) := by decide +kernel
theorem dX5_heldBy_6 : decode cX5_heldBy 6 = .ok (.getfield 9, 3) := by decide +kernel
theorem dX5_heldBy_9 : decode cX5_heldBy 9 = .ok (.if_icmp .ge 33, 3) := by decide +kernel
theorem dX5_heldBy_12 : decode cX5_heldBy 12 = .ok (.iload_n 1, 1) := by decide +kernel
theorem dX5_heldBy_13 : decode cX5_heldBy 13 = .ok (.iload_n 3, 1) := by decide +kernel
theorem dX5_heldBy_14 : decode cX5_heldBy 14 = .ok (.ishr, 1) := by decide +kernel
theorem dX5_heldBy_15 : decode cX5_heldBy 15 = .ok (.iconst 1, 1) := by decide +kernel
theorem dX5_heldBy_16 : decode cX5_heldBy 16 = .ok (.iand, 1) := by decide +kernel
theorem dX5_heldBy_17 : decode cX5_heldBy 17 = .ok (.ifCond .eq 19, 3) := by decide +kernel
theorem dX5_heldBy_20 : decode cX5_heldBy 20 = .ok (.aload_n 0, 1) := by decide +kernel
theorem dX5_heldBy_21 : decode cX5_heldBy 21 = .ok (.getfield 26, 3) := by decide +kernel
theorem dX5_heldBy_24 : decode cX5_heldBy 24 = .ok (.iload_n 3, 1) := by decide +kernel
theorem dX5_heldBy_25 : decode cX5_heldBy 25 = .ok (.iaload, 1) := by decide +kernel
theorem dX5_heldBy_26 : decode cX5_heldBy 26 = .ok (.iload_n 1, 1) := by decide +kernel
theorem dX5_heldBy_27 : decode cX5_heldBy 27 = .ok (.iconst (-1), 1) := by decide +kernel
theorem dX5_heldBy_28 : decode cX5_heldBy 28 = .ok (.ixor, 1) := by decide +kernel
theorem dX5_heldBy_29 : decode cX5_heldBy 29 = .ok (.iand, 1) := by decide +kernel
theorem dX5_heldBy_30 : decode cX5_heldBy 30 = .ok (.ifCond .eq 6, 3) := by decide +kernel
theorem dX5_heldBy_33 : decode cX5_heldBy 33 = .ok (.iinc 2 1, 3) := by decide +kernel
theorem dX5_heldBy_36 : decode cX5_heldBy 36 = .ok (.iinc 3 1, 3) := by decide +kernel
theorem dX5_heldBy_39 : decode cX5_heldBy 39 = .ok (.goto (-35), 3) := by decide +kernel
theorem dX5_heldBy_42 : decode cX5_heldBy 42 = .ok (.iload_n 2, 1) := by decide +kernel
theorem dX5_heldBy_43 : decode cX5_heldBy 43 = .ok (.ireturn, 1) := by decide +kernel
theorem dX5_boundOf_0 : decode cX5_boundOf 0 = .ok (.iload_n 1, 1) := by decide +kernel
theorem dX5_boundOf_1 : decode cX5_boundOf 1 = .ok (.tableswitch 62 0 3 #[31, 39, 47, 52], 31) := by decide +kernel
theorem dX5_boundOf_32 : decode cX5_boundOf 32 = .ok (.aload_n 0, 1) := by decide +kernel
theorem dX5_boundOf_33 : decode cX5_boundOf 33 = .ok (.invokevirtual 122, 3) := by decide +kernel
theorem dX5_boundOf_36 : decode cX5_boundOf 36 = .ok (.invokestatic 125, 3) := by decide +kernel
theorem dX5_boundOf_39 : decode cX5_boundOf 39 = .ok (.ireturn, 1) := by decide +kernel
theorem dX5_boundOf_40 : decode cX5_boundOf 40 = .ok (.aload_n 0, 1) := by decide +kernel
theorem dX5_boundOf_41 : decode cX5_boundOf 41 = .ok (.invokevirtual 128, 3) := by decide +kernel
theorem dX5_boundOf_44 : decode cX5_boundOf 44 = .ok (.invokestatic 125, 3) := by decide +kernel
theorem dX5_boundOf_47 : decode cX5_boundOf 47 = .ok (.ireturn, 1) := by decide +kernel
theorem dX5_boundOf_48 : decode cX5_boundOf 48 = .ok (.aload_n 0, 1) := by decide +kernel
theorem dX5_boundOf_49 : decode cX5_boundOf 49 = .ok (.invokevirtual 131, 3) := by decide +kernel
theorem dX5_boundOf_52 : decode cX5_boundOf 52 = .ok (.ireturn, 1) := by decide +kernel
theorem dX5_boundOf_53 : decode cX5_boundOf 53 = .ok (.aload_n 0, 1) := by decide +kernel
theorem dX5_boundOf_54 : decode cX5_boundOf 54 = .ok (.getfield 9, 3) := by decide +kernel
theorem dX5_boundOf_57 : decode cX5_boundOf 57 = .ok (.aload_n 0, 1) := by decide +kernel
theorem dX5_boundOf_58 : decode cX5_boundOf 58 = .ok (.invokevirtual 134, 3) := by decide +kernel
theorem dX5_boundOf_61 : decode cX5_boundOf 61 = .ok (.isub, 1) := by decide +kernel
theorem dX5_boundOf_62 : decode cX5_boundOf 62 = .ok (.ireturn, 1) := by decide +kernel
theorem dX5_boundOf_63 : decode cX5_boundOf 63 = .ok (.aload_n 0, 1) := by decide +kernel
theorem dX5_boundOf_64 : decode cX5_boundOf 64 = .ok (.invokevirtual 137, 3) := by decide +kernel
theorem dX5_boundOf_67 : decode cX5_boundOf 67 = .ok (.invokestatic 125, 3) := by decide +kernel
theorem dX5_boundOf_70 : decode cX5_boundOf 70 = .ok (.ireturn, 1) := by decide +kernel
theorem dX5_halfCutUp_0 : decode cX5_halfCutUp 0 = .ok (.iload_n 0, 1) := by decide +kernel
theorem dX5_halfCutUp_1 : decode cX5_halfCutUp 1 = .ok (.iconst 1, 1) := by decide +kernel
theorem dX5_halfCutUp_2 : decode cX5_halfCutUp 2 = .ok (.iadd, 1) := by decide +kernel
theorem dX5_halfCutUp_3 : decode cX5_halfCutUp 3 = .ok (.iconst 2, 1) := by decide +kernel
theorem dX5_halfCutUp_4 : decode cX5_halfCutUp 4 = .ok (.idiv, 1) := by decide +kernel
theorem dX5_halfCutUp_5 : decode cX5_halfCutUp 5 = .ok (.ireturn, 1) := by decide +kernel
theorem dX5_nearestProducts_0 : decode cX5_nearestProducts 0 = .ok (.iconst 0, 1) := by decide +kernel
theorem dX5_nearestProducts_1 : decode cX5_nearestProducts 1 = .ok (.istore_n 1, 1) := by decide +kernel
theorem dX5_nearestProducts_2 : decode cX5_nearestProducts 2 = .ok (.iconst 0, 1) := by decide +kernel
theorem dX5_nearestProducts_3 : decode cX5_nearestProducts 3 = .ok (.istore_n 2, 1) := by decide +kernel
theorem dX5_nearestProducts_4 : decode cX5_nearestProducts 4 = .ok (.iload_n 2, 1) := by decide +kernel
theorem dX5_nearestProducts_5 : decode cX5_nearestProducts 5 = .ok (.aload_n 0, 1) := by decide +kernel
theorem dX5_nearestProducts_6 : decode cX5_nearestProducts 6 = .ok (.getfield 9, 3) := by decide +kernel
theorem dX5_nearestProducts_9 : decode cX5_nearestProducts 9 = .ok (.if_icmp .ge 72, 3) := by decide +kernel
theorem dX5_nearestProducts_12 : decode cX5_nearestProducts 12 = .ok (.iconst 0, 1) := by decide +kernel
theorem dX5_nearestProducts_13 : decode cX5_nearestProducts 13 = .ok (.istore_n 3, 1) := by decide +kernel
theorem dX5_nearestProducts_14 : decode cX5_nearestProducts 14 = .ok (.bipush 9, 2) := by decide +kernel
theorem dX5_nearestProducts_16 : decode cX5_nearestProducts 16 = .ok (.istore 4, 2) := by decide +kernel
theorem dX5_nearestProducts_18 : decode cX5_nearestProducts 18 = .ok (.iload 4, 2) := by decide +kernel
theorem dX5_nearestProducts_20 : decode cX5_nearestProducts 20 = .ok (.ifCond .le 55, 3) := by decide +kernel
theorem dX5_nearestProducts_23 : decode cX5_nearestProducts 23 = .ok (.iconst 0, 1) := by decide +kernel
theorem dX5_nearestProducts_24 : decode cX5_nearestProducts 24 = .ok (.istore 5, 2) := by decide +kernel
theorem dX5_nearestProducts_26 : decode cX5_nearestProducts 26 = .ok (.iload 5, 2) := by decide +kernel
theorem dX5_nearestProducts_28 : decode cX5_nearestProducts 28 = .ok (.aload_n 0, 1) := by decide +kernel
theorem dX5_nearestProducts_29 : decode cX5_nearestProducts 29 = .ok (.getfield 9, 3) := by decide +kernel
theorem dX5_nearestProducts_32 : decode cX5_nearestProducts 32 = .ok (.if_icmp .ge 37, 3) := by decide +kernel
theorem dX5_nearestProducts_35 : decode cX5_nearestProducts 35 = .ok (.aload_n 0, 1) := by decide +kernel
theorem dX5_nearestProducts_36 : decode cX5_nearestProducts 36 = .ok (.getfield 23, 3) := by decide +kernel
theorem dX5_nearestProducts_39 : decode cX5_nearestProducts 39 = .ok (.iload_n 2, 1) := by decide +kernel
theorem dX5_nearestProducts_40 : decode cX5_nearestProducts 40 = .ok (.aaload, 1) := by decide +kernel
theorem dX5_nearestProducts_41 : decode cX5_nearestProducts 41 = .ok (.iload 5, 2) := by decide +kernel
theorem dX5_nearestProducts_43 : decode cX5_nearestProducts 43 = .ok (.iaload, 1) := by decide +kernel
theorem dX5_nearestProducts_44 : decode cX5_nearestProducts 44 = .ok (.iload 4, 2) := by decide +kernel
theorem dX5_nearestProducts_46 : decode cX5_nearestProducts 46 = .ok (.if_icmp .ne 17, 3) := by decide +kernel
theorem dX5_nearestProducts_49 : decode cX5_nearestProducts 49 = .ok (.iload_n 1, 1) := by decide +kernel
theorem dX5_nearestProducts_50 : decode cX5_nearestProducts 50 = .ok (.iload 4, 2) := by decide +kernel
theorem dX5_nearestProducts_52 : decode cX5_nearestProducts 52 = .ok (.iload_n 3, 1) := by decide +kernel
theorem dX5_nearestProducts_53 : decode cX5_nearestProducts 53 = .ok (.iconst 2, 1) := by decide +kernel
theorem dX5_nearestProducts_54 : decode cX5_nearestProducts 54 = .ok (.idiv, 1) := by decide +kernel
theorem dX5_nearestProducts_55 : decode cX5_nearestProducts 55 = .ok (.iconst 1, 1) := by decide +kernel
theorem dX5_nearestProducts_56 : decode cX5_nearestProducts 56 = .ok (.iadd, 1) := by decide +kernel
theorem dX5_nearestProducts_57 : decode cX5_nearestProducts 57 = .ok (.imul, 1) := by decide +kernel
theorem dX5_nearestProducts_58 : decode cX5_nearestProducts 58 = .ok (.iadd, 1) := by decide +kernel
theorem dX5_nearestProducts_59 : decode cX5_nearestProducts 59 = .ok (.istore_n 1, 1) := by decide +kernel
theorem dX5_nearestProducts_60 : decode cX5_nearestProducts 60 = .ok (.iinc 3 1, 3) := by decide +kernel
theorem dX5_nearestProducts_63 : decode cX5_nearestProducts 63 = .ok (.iinc 5 1, 3) := by decide +kernel
theorem dX5_nearestProducts_66 : decode cX5_nearestProducts 66 = .ok (.goto (-40), 3) := by decide +kernel
theorem dX5_nearestProducts_69 : decode cX5_nearestProducts 69 = .ok (.iinc 4 (-1), 3) := by decide +kernel
theorem dX5_nearestProducts_72 : decode cX5_nearestProducts 72 = .ok (.goto (-54), 3) := by decide +kernel
theorem dX5_nearestProducts_75 : decode cX5_nearestProducts 75 = .ok (.iinc 2 1, 3) := by decide +kernel
theorem dX5_nearestProducts_78 : decode cX5_nearestProducts 78 = .ok (.goto (-74), 3) := by decide +kernel
theorem dX5_nearestProducts_81 : decode cX5_nearestProducts 81 = .ok (.iload_n 1, 1) := by decide +kernel
theorem dX5_nearestProducts_82 : decode cX5_nearestProducts 82 = .ok (.ireturn, 1) := by decide +kernel
theorem dX5_mostLoad_0 : decode cX5_mostLoad 0 = .ok (.iconst 0, 1) := by decide +kernel
theorem dX5_mostLoad_1 : decode cX5_mostLoad 1 = .ok (.istore_n 1, 1) := by decide +kernel
theorem dX5_mostLoad_2 : decode cX5_mostLoad 2 = .ok (.iconst 0, 1) := by decide +kernel
theorem dX5_mostLoad_3 : decode cX5_mostLoad 3 = .ok (.istore_n 2, 1) := by decide +kernel
theorem dX5_mostLoad_4 : decode cX5_mostLoad 4 = .ok (.iload_n 2, 1) := by decide +kernel
theorem dX5_mostLoad_5 : decode cX5_mostLoad 5 = .ok (.aload_n 0, 1) := by decide +kernel
theorem dX5_mostLoad_6 : decode cX5_mostLoad 6 = .ok (.getfield 9, 3) := by decide +kernel
theorem dX5_mostLoad_9 : decode cX5_mostLoad 9 = .ok (.if_icmp .ge 20, 3) := by decide +kernel
theorem dX5_mostLoad_12 : decode cX5_mostLoad 12 = .ok (.iload_n 1, 1) := by decide +kernel
theorem dX5_mostLoad_13 : decode cX5_mostLoad 13 = .ok (.aload_n 0, 1) := by decide +kernel
theorem dX5_mostLoad_14 : decode cX5_mostLoad 14 = .ok (.getfield 30, 3) := by decide +kernel
theorem dX5_mostLoad_17 : decode cX5_mostLoad 17 = .ok (.iload_n 2, 1) := by decide +kernel
theorem dX5_mostLoad_18 : decode cX5_mostLoad 18 = .ok (.iaload, 1) := by decide +kernel
theorem dX5_mostLoad_19 : decode cX5_mostLoad 19 = .ok (.invokestatic 119, 3) := by decide +kernel
theorem dX5_mostLoad_22 : decode cX5_mostLoad 22 = .ok (.istore_n 1, 1) := by decide +kernel
theorem dX5_mostLoad_23 : decode cX5_mostLoad 23 = .ok (.iinc 2 1, 3) := by decide +kernel
theorem dX5_mostLoad_26 : decode cX5_mostLoad 26 = .ok (.goto (-22), 3) := by decide +kernel
theorem dX5_mostLoad_29 : decode cX5_mostLoad 29 = .ok (.iload_n 1, 1) := by decide +kernel
theorem dX5_mostLoad_30 : decode cX5_mostLoad 30 = .ok (.ireturn, 1) := by decide +kernel
theorem dX5_mostTies_0 : decode cX5_mostTies 0 = .ok (.iconst 0, 1) := by decide +kernel
theorem dX5_mostTies_1 : decode cX5_mostTies 1 = .ok (.istore_n 1, 1) := by decide +kernel
theorem dX5_mostTies_2 : decode cX5_mostTies 2 = .ok (.iconst 0, 1) := by decide +kernel
theorem dX5_mostTies_3 : decode cX5_mostTies 3 = .ok (.istore_n 2, 1) := by decide +kernel
theorem dX5_mostTies_4 : decode cX5_mostTies 4 = .ok (.iload_n 2, 1) := by decide +kernel
theorem dX5_mostTies_5 : decode cX5_mostTies 5 = .ok (.aload_n 0, 1) := by decide +kernel
theorem dX5_mostTies_6 : decode cX5_mostTies 6 = .ok (.getfield 9, 3) := by decide +kernel
theorem dX5_mostTies_9 : decode cX5_mostTies 9 = .ok (.if_icmp .ge 23, 3) := by decide +kernel
theorem dX5_mostTies_12 : decode cX5_mostTies 12 = .ok (.iload_n 1, 1) := by decide +kernel
theorem dX5_mostTies_13 : decode cX5_mostTies 13 = .ok (.aload_n 0, 1) := by decide +kernel
theorem dX5_mostTies_14 : decode cX5_mostTies 14 = .ok (.getfield 26, 3) := by decide +kernel
theorem dX5_mostTies_17 : decode cX5_mostTies 17 = .ok (.iload_n 2, 1) := by decide +kernel
theorem dX5_mostTies_18 : decode cX5_mostTies 18 = .ok (.iaload, 1) := by decide +kernel
theorem dX5_mostTies_19 : decode cX5_mostTies 19 = .ok (.invokestatic 73, 3) := by decide +kernel
theorem dX5_mostTies_22 : decode cX5_mostTies 22 = .ok (.invokestatic 119, 3) := by decide +kernel
theorem dX5_mostTies_25 : decode cX5_mostTies 25 = .ok (.istore_n 1, 1) := by decide +kernel
theorem dX5_mostTies_26 : decode cX5_mostTies 26 = .ok (.iinc 2 1, 3) := by decide +kernel
theorem dX5_mostTies_29 : decode cX5_mostTies 29 = .ok (.goto (-25), 3) := by decide +kernel
theorem dX5_mostTies_32 : decode cX5_mostTies 32 = .ok (.iload_n 1, 1) := by decide +kernel
theorem dX5_mostTies_33 : decode cX5_mostTies 33 = .ok (.ireturn, 1) := by decide +kernel
theorem dX5_fewestTies_0 : decode cX5_fewestTies 0 = .ok (.aload_n 0, 1) := by decide +kernel
theorem dX5_fewestTies_1 : decode cX5_fewestTies 1 = .ok (.getfield 9, 3) := by decide +kernel
theorem dX5_fewestTies_4 : decode cX5_fewestTies 4 = .ok (.ifCond .ne 7, 3) := by decide +kernel
theorem dX5_fewestTies_7 : decode cX5_fewestTies 7 = .ok (.iconst 0, 1) := by decide +kernel
theorem dX5_fewestTies_8 : decode cX5_fewestTies 8 = .ok (.goto 5, 3) := by decide +kernel
theorem dX5_fewestTies_11 : decode cX5_fewestTies 11 = .ok (.bipush 10, 2) := by decide +kernel
theorem dX5_fewestTies_13 : decode cX5_fewestTies 13 = .ok (.istore_n 1, 1) := by decide +kernel
theorem dX5_fewestTies_14 : decode cX5_fewestTies 14 = .ok (.iconst 0, 1) := by decide +kernel
theorem dX5_fewestTies_15 : decode cX5_fewestTies 15 = .ok (.istore_n 2, 1) := by decide +kernel
theorem dX5_fewestTies_16 : decode cX5_fewestTies 16 = .ok (.iload_n 2, 1) := by decide +kernel
theorem dX5_fewestTies_17 : decode cX5_fewestTies 17 = .ok (.aload_n 0, 1) := by decide +kernel
theorem dX5_fewestTies_18 : decode cX5_fewestTies 18 = .ok (.getfield 9, 3) := by decide +kernel
theorem dX5_fewestTies_21 : decode cX5_fewestTies 21 = .ok (.if_icmp .ge 23, 3) := by decide +kernel
theorem dX5_fewestTies_24 : decode cX5_fewestTies 24 = .ok (.iload_n 1, 1) := by decide +kernel
theorem dX5_fewestTies_25 : decode cX5_fewestTies 25 = .ok (.aload_n 0, 1) := by decide +kernel
theorem dX5_fewestTies_26 : decode cX5_fewestTies 26 = .ok (.getfield 26, 3) := by decide +kernel
theorem dX5_fewestTies_29 : decode cX5_fewestTies 29 = .ok (.iload_n 2, 1) := by decide +kernel
theorem dX5_fewestTies_30 : decode cX5_fewestTies 30 = .ok (.iaload, 1) := by decide +kernel
theorem dX5_fewestTies_31 : decode cX5_fewestTies 31 = .ok (.invokestatic 73, 3) := by decide +kernel
theorem dX5_fewestTies_34 : decode cX5_fewestTies 34 = .ok (.invokestatic 89, 3) := by decide +kernel
theorem dX5_fewestTies_37 : decode cX5_fewestTies 37 = .ok (.istore_n 1, 1) := by decide +kernel
theorem dX5_fewestTies_38 : decode cX5_fewestTies 38 = .ok (.iinc 2 1, 3) := by decide +kernel
theorem dX5_fewestTies_41 : decode cX5_fewestTies 41 = .ok (.goto (-25), 3) := by decide +kernel
theorem dX5_fewestTies_44 : decode cX5_fewestTies 44 = .ok (.iload_n 1, 1) := by decide +kernel
theorem dX5_fewestTies_45 : decode cX5_fewestTies 45 = .ok (.ireturn, 1) := by decide +kernel
theorem dX5_groups_0 : decode cX5_groups 0 = .ok (.aload_n 0, 1) := by decide +kernel
theorem dX5_groups_1 : decode cX5_groups 1 = .ok (.invokevirtual 95, 3) := by decide +kernel
theorem dX5_groups_4 : decode cX5_groups 4 = .ok (.istore_n 1, 1) := by decide +kernel
theorem dX5_groups_5 : decode cX5_groups 5 = .ok (.iconst 0, 1) := by decide +kernel
theorem dX5_groups_6 : decode cX5_groups 6 = .ok (.istore_n 2, 1) := by decide +kernel
theorem dX5_groups_7 : decode cX5_groups 7 = .ok (.iconst 0, 1) := by decide +kernel
theorem dX5_groups_8 : decode cX5_groups 8 = .ok (.istore_n 3, 1) := by decide +kernel
theorem dX5_groups_9 : decode cX5_groups 9 = .ok (.iload_n 3, 1) := by decide +kernel
theorem dX5_groups_10 : decode cX5_groups 10 = .ok (.aload_n 0, 1) := by decide +kernel
theorem dX5_groups_11 : decode cX5_groups 11 = .ok (.getfield 9, 3) := by decide +kernel
theorem dX5_groups_14 : decode cX5_groups 14 = .ok (.if_icmp .ge 30, 3) := by decide +kernel
theorem dX5_groups_17 : decode cX5_groups 17 = .ok (.iload_n 1, 1) := by decide +kernel
theorem dX5_groups_18 : decode cX5_groups 18 = .ok (.iload_n 3, 1) := by decide +kernel
theorem dX5_groups_19 : decode cX5_groups 19 = .ok (.ishr, 1) := by decide +kernel
theorem dX5_groups_20 : decode cX5_groups 20 = .ok (.iconst 1, 1) := by decide +kernel
theorem dX5_groups_21 : decode cX5_groups 21 = .ok (.iand, 1) := by decide +kernel
theorem dX5_groups_22 : decode cX5_groups 22 = .ok (.ifCond .eq 16, 3) := by decide +kernel
theorem dX5_groups_25 : decode cX5_groups 25 = .ok (.iload_n 1, 1) := by decide +kernel
theorem dX5_groups_26 : decode cX5_groups 26 = .ok (.aload_n 0, 1) := by decide +kernel
theorem dX5_groups_27 : decode cX5_groups 27 = .ok (.iload_n 3, 1) := by decide +kernel
theorem dX5_groups_28 : decode cX5_groups 28 = .ok (.invokevirtual 140, 3) := by decide +kernel
theorem dX5_groups_31 : decode cX5_groups 31 = .ok (.iconst (-1), 1) := by decide +kernel
theorem dX5_groups_32 : decode cX5_groups 32 = .ok (.ixor, 1) := by decide +kernel
theorem dX5_groups_33 : decode cX5_groups 33 = .ok (.iand, 1) := by decide +kernel
theorem dX5_groups_34 : decode cX5_groups 34 = .ok (.istore_n 1, 1) := by decide +kernel
theorem dX5_groups_35 : decode cX5_groups 35 = .ok (.iinc 2 1, 3) := by decide +kernel
theorem dX5_groups_38 : decode cX5_groups 38 = .ok (.iinc 3 1, 3) := by decide +kernel
theorem dX5_groups_41 : decode cX5_groups 41 = .ok (.goto (-32), 3) := by decide +kernel
theorem dX5_groups_44 : decode cX5_groups 44 = .ok (.iload_n 2, 1) := by decide +kernel
theorem dX5_groups_45 : decode cX5_groups 45 = .ok (.ireturn, 1) := by decide +kernel
theorem dX5_groupOf_0 : decode cX5_groupOf 0 = .ok (.iconst 1, 1) := by decide +kernel
theorem dX5_groupOf_1 : decode cX5_groupOf 1 = .ok (.iload_n 1, 1) := by decide +kernel
theorem dX5_groupOf_2 : decode cX5_groupOf 2 = .ok (.ishl, 1) := by decide +kernel
theorem dX5_groupOf_3 : decode cX5_groupOf 3 = .ok (.istore_n 2, 1) := by decide +kernel
theorem dX5_groupOf_4 : decode cX5_groupOf 4 = .ok (.iconst 0, 1) := by decide +kernel
theorem dX5_groupOf_5 : decode cX5_groupOf 5 = .ok (.istore_n 3, 1) := by decide +kernel
theorem dX5_groupOf_6 : decode cX5_groupOf 6 = .ok (.iload_n 3, 1) := by decide +kernel
theorem dX5_groupOf_7 : decode cX5_groupOf 7 = .ok (.aload_n 0, 1) := by decide +kernel
theorem dX5_groupOf_8 : decode cX5_groupOf 8 = .ok (.getfield 9, 3) := by decide +kernel
theorem dX5_groupOf_11 : decode cX5_groupOf 11 = .ok (.if_icmp .ge 54, 3) := by decide +kernel
theorem dX5_groupOf_14 : decode cX5_groupOf 14 = .ok (.iload_n 2, 1) := by decide +kernel
theorem dX5_groupOf_15 : decode cX5_groupOf 15 = .ok (.istore 4, 2) := by decide +kernel
theorem dX5_groupOf_17 : decode cX5_groupOf 17 = .ok (.iconst 0, 1) := by decide +kernel
theorem dX5_groupOf_18 : decode cX5_groupOf 18 = .ok (.istore 5, 2) := by decide +kernel
theorem dX5_groupOf_20 : decode cX5_groupOf 20 = .ok (.iload 5, 2) := by decide +kernel
theorem dX5_groupOf_22 : decode cX5_groupOf 22 = .ok (.aload_n 0, 1) := by decide +kernel
theorem dX5_groupOf_23 : decode cX5_groupOf 23 = .ok (.getfield 9, 3) := by decide +kernel
theorem dX5_groupOf_26 : decode cX5_groupOf 26 = .ok (.if_icmp .ge 30, 3) := by decide +kernel
theorem dX5_groupOf_29 : decode cX5_groupOf 29 = .ok (.iload_n 2, 1) := by decide +kernel
theorem dX5_groupOf_30 : decode cX5_groupOf 30 = .ok (.iload 5, 2) := by decide +kernel
theorem dX5_groupOf_32 : decode cX5_groupOf 32 = .ok (.ishr, 1) := by decide +kernel
theorem dX5_groupOf_33 : decode cX5_groupOf 33 = .ok (.iconst 1, 1) := by decide +kernel
theorem dX5_groupOf_34 : decode cX5_groupOf 34 = .ok (.iand, 1) := by decide +kernel
theorem dX5_groupOf_35 : decode cX5_groupOf 35 = .ok (.ifCond .eq 15, 3) := by decide +kernel
theorem dX5_groupOf_38 : decode cX5_groupOf 38 = .ok (.iload 4, 2) := by decide +kernel
theorem dX5_groupOf_40 : decode cX5_groupOf 40 = .ok (.aload_n 0, 1) := by decide +kernel
theorem dX5_groupOf_41 : decode cX5_groupOf 41 = .ok (.getfield 26, 3) := by decide +kernel
theorem dX5_groupOf_44 : decode cX5_groupOf 44 = .ok (.iload 5, 2) := by decide +kernel
theorem dX5_groupOf_46 : decode cX5_groupOf 46 = .ok (.iaload, 1) := by decide +kernel
theorem dX5_groupOf_47 : decode cX5_groupOf 47 = .ok (.ior, 1) := by decide +kernel
theorem dX5_groupOf_48 : decode cX5_groupOf 48 = .ok (.istore 4, 2) := by decide +kernel
theorem dX5_groupOf_50 : decode cX5_groupOf 50 = .ok (.iinc 5 1, 3) := by decide +kernel
theorem dX5_groupOf_53 : decode cX5_groupOf 53 = .ok (.goto (-33), 3) := by decide +kernel
theorem dX5_groupOf_56 : decode cX5_groupOf 56 = .ok (.iload 4, 2) := by decide +kernel
theorem dX5_groupOf_58 : decode cX5_groupOf 58 = .ok (.istore_n 2, 1) := by decide +kernel
theorem dX5_groupOf_59 : decode cX5_groupOf 59 = .ok (.iinc 3 1, 3) := by decide +kernel
theorem dX5_groupOf_62 : decode cX5_groupOf 62 = .ok (.goto (-56), 3) := by decide +kernel
theorem dX5_groupOf_65 : decode cX5_groupOf 65 = .ok (.iload_n 2, 1) := by decide +kernel
theorem dX5_groupOf_66 : decode cX5_groupOf 66 = .ok (.ireturn, 1) := by decide +kernel
theorem dX6_init_0 : decode cX6_init 0 = .ok (.aload_n 0, 1) := by decide +kernel
theorem dX6_init_1 : decode cX6_init 1 = .ok (.invokespecial 3, 3) := by decide +kernel
theorem dX6_init_4 : decode cX6_init 4 = .ok (.aload_n 0, 1) := by decide +kernel
theorem dX6_init_5 : decode cX6_init 5 = .ok (.bipush 6, 2) := by decide +kernel
theorem dX6_init_7 : decode cX6_init 7 = .ok (.anewarray 9, 3) := by decide +kernel
theorem dX6_init_10 : decode cX6_init 10 = .ok (.putfield 11, 3) := by decide +kernel
theorem dX6_init_13 : decode cX6_init 13 = .ok (.aload_n 0, 1) := by decide +kernel
theorem dX6_init_14 : decode cX6_init 14 = .ok (.iconst 4, 1) := by decide +kernel
theorem dX6_init_15 : decode cX6_init 15 = .ok (.anewarray 9, 3) := by decide +kernel
theorem dX6_init_18 : decode cX6_init 18 = .ok (.putfield 15, 3) := by decide +kernel
theorem dX6_init_21 : decode cX6_init 21 = .ok (.aload_n 0, 1) := by decide +kernel
theorem dX6_init_22 : decode cX6_init 22 = .ok (.new 18, 3) := by decide +kernel
theorem dX6_init_25 : decode cX6_init 25 = .ok (.dup, 1) := by decide +kernel
theorem dX6_init_26 : decode cX6_init 26 = .ok (.invokespecial 20, 3) := by decide +kernel
theorem dX6_init_29 : decode cX6_init 29 = .ok (.putfield 21, 3) := by decide +kernel
theorem dX6_init_32 : decode cX6_init 32 = .ok (.aload_n 0, 1) := by decide +kernel
theorem dX6_init_33 : decode cX6_init 33 = .ok (.new 25, 3) := by decide +kernel
theorem dX6_init_36 : decode cX6_init 36 = .ok (.dup, 1) := by decide +kernel
theorem dX6_init_37 : decode cX6_init 37 = .ok (.invokespecial 27, 3) := by decide +kernel
theorem dX6_init_40 : decode cX6_init 40 = .ok (.putfield 28, 3) := by decide +kernel
theorem dX6_init_43 : decode cX6_init 43 = .ok (.aload_n 0, 1) := by decide +kernel
theorem dX6_init_44 : decode cX6_init 44 = .ok (.aload_n 0, 1) := by decide +kernel
theorem dX6_init_45 : decode cX6_init 45 = .ok (.getfield 28, 3) := by decide +kernel
theorem dX6_init_48 : decode cX6_init 48 = .ok (.getfield 32, 3) := by decide +kernel
theorem dX6_init_51 : decode cX6_init 51 = .ok (.putfield 36, 3) := by decide +kernel
theorem dX6_init_54 : decode cX6_init 54 = .ok (.aload_n 0, 1) := by decide +kernel
theorem dX6_init_55 : decode cX6_init 55 = .ok (.aload_n 0, 1) := by decide +kernel
theorem dX6_init_56 : decode cX6_init 56 = .ok (.getfield 36, 3) := by decide +kernel
theorem dX6_init_59 : decode cX6_init 59 = .ok (.getfield 37, 3) := by decide +kernel
theorem dX6_init_62 : decode cX6_init 62 = .ok (.putfield 43, 3) := by decide +kernel
theorem dX6_init_65 : decode cX6_init 65 = .ok (.aload_n 0, 1) := by decide +kernel
theorem dX6_init_66 : decode cX6_init 66 = .ok (.bipush 6, 2) := by decide +kernel
theorem dX6_init_68 : decode cX6_init 68 = .ok (.newarray .int, 2) := by decide +kernel
theorem dX6_init_70 : decode cX6_init 70 = .ok (.putfield 44, 3) := by decide +kernel
theorem dX6_init_73 : decode cX6_init 73 = .ok (.aload_n 0, 1) := by decide +kernel
theorem dX6_init_74 : decode cX6_init 74 = .ok (.bipush 10, 2) := by decide +kernel
theorem dX6_init_76 : decode cX6_init 76 = .ok (.newarray .int, 2) := by decide +kernel
theorem dX6_init_78 : decode cX6_init 78 = .ok (.putfield 48, 3) := by decide +kernel
theorem dX6_init_81 : decode cX6_init 81 = .ok (.aload_n 0, 1) := by decide +kernel
theorem dX6_init_82 : decode cX6_init 82 = .ok (.bipush 10, 2) := by decide +kernel
theorem dX6_init_84 : decode cX6_init 84 = .ok (.newarray .int, 2) := by decide +kernel
theorem dX6_init_86 : decode cX6_init 86 = .ok (.putfield 51, 3) := by decide +kernel
theorem dX6_init_89 : decode cX6_init 89 = .ok (.aload_n 0, 1) := by decide +kernel
theorem dX6_init_90 : decode cX6_init 90 = .ok (.bipush 10, 2) := by decide +kernel
theorem dX6_init_92 : decode cX6_init 92 = .ok (.newarray .int, 2) := by decide +kernel
theorem dX6_init_94 : decode cX6_init 94 = .ok (.putfield 54, 3) := by decide +kernel
theorem dX6_init_97 : decode cX6_init 97 = .ok (.aload_n 0, 1) := by decide +kernel
theorem dX6_init_98 : decode cX6_init 98 = .ok (.bipush 10, 2) := by decide +kernel
theorem dX6_init_100 : decode cX6_init 100 = .ok (.newarray .int, 2) := by decide +kernel
theorem dX6_init_102 : decode cX6_init 102 = .ok (.putfield 57, 3) := by decide +kernel
theorem dX6_init_105 : decode cX6_init 105 = .ok (.aload_n 0, 1) := by decide +kernel
theorem dX6_init_106 : decode cX6_init 106 = .ok (.iconst 0, 1) := by decide +kernel
theorem dX6_init_107 : decode cX6_init 107 = .ok (.putfield 60, 3) := by decide +kernel
theorem dX6_init_110 : decode cX6_init 110 = .ok (.aload_n 0, 1) := by decide +kernel
theorem dX6_init_111 : decode cX6_init 111 = .ok (.iconst 0, 1) := by decide +kernel
theorem dX6_init_112 : decode cX6_init 112 = .ok (.putfield 64, 3) := by decide +kernel
theorem dX6_init_115 : decode cX6_init 115 = .ok (.aload_n 0, 1) := by decide +kernel
theorem dX6_init_116 : decode cX6_init 116 = .ok (.lconst 0, 1) := by decide +kernel
theorem dX6_init_117 : decode cX6_init 117 = .ok (.putfield 67, 3) := by decide +kernel
theorem dX6_init_120 : decode cX6_init 120 = .ok (.aload_n 0, 1) := by decide +kernel
theorem dX6_init_121 : decode cX6_init 121 = .ok (.lconst 1, 1) := by decide +kernel
theorem dX6_init_122 : decode cX6_init 122 = .ok (.putfield 71, 3) := by decide +kernel
theorem dX6_init_125 : decode cX6_init 125 = .ok (.aload_n 0, 1) := by decide +kernel
theorem dX6_init_126 : decode cX6_init 126 = .ok (.bipush (-9), 2) := by decide +kernel
theorem dX6_init_128 : decode cX6_init 128 = .ok (.putfield 74, 3) := by decide +kernel
theorem dX6_init_131 : decode cX6_init 131 = .ok (.aload_n 0, 1) := by decide +kernel
theorem dX6_init_132 : decode cX6_init 132 = .ok (.aconst_null, 1) := by decide +kernel
theorem dX6_init_133 : decode cX6_init 133 = .ok (.putfield 77, 3) := by decide +kernel
theorem dX6_init_136 : decode cX6_init 136 = .ok (.iconst 0, 1) := by decide +kernel
theorem dX6_init_137 : decode cX6_init 137 = .ok (.istore_n 1, 1) := by decide +kernel
theorem dX6_init_138 : decode cX6_init 138 = .ok (.iload_n 1, 1) := by decide +kernel
theorem dX6_init_139 : decode cX6_init 139 = .ok (.bipush 6, 2) := by decide +kernel
theorem dX6_init_141 : decode cX6_init 141 = .ok (.if_icmp .ge 24, 3) := by decide +kernel
theorem dX6_init_144 : decode cX6_init 144 = .ok (.aload_n 0, 1) := by decide +kernel
theorem dX6_init_145 : decode cX6_init 145 = .ok (.getfield 11, 3) := by decide +kernel
theorem dX6_init_148 : decode cX6_init 148 = .ok (.iload_n 1, 1) := by decide +kernel
theorem dX6_init_149 : decode cX6_init 149 = .ok (.new 9, 3) := by decide +kernel
theorem dX6_init_152 : decode cX6_init 152 = .ok (.dup, 1) := by decide +kernel
theorem dX6_init_153 : decode cX6_init 153 = .ok (.bipush 60, 2) := by decide +kernel
theorem dX6_init_155 : decode cX6_init 155 = .ok (.invokespecial 81, 3) := by decide +kernel
theorem dX6_init_158 : decode cX6_init 158 = .ok (.aastore, 1) := by decide +kernel
theorem dX6_init_159 : decode cX6_init 159 = .ok (.iinc 1 1, 3) := by decide +kernel
theorem dX6_init_162 : decode cX6_init 162 = .ok (.goto (-24), 3) := by decide +kernel
theorem dX6_init_165 : decode cX6_init 165 = .ok (.iconst 0, 1) := by decide +kernel
theorem dX6_init_166 : decode cX6_init 166 = .ok (.istore_n 1, 1) := by decide +kernel
theorem dX6_init_167 : decode cX6_init 167 = .ok (.iload_n 1, 1) := by decide +kernel
theorem dX6_init_168 : decode cX6_init 168 = .ok (.iconst 4, 1) := by decide +kernel
theorem dX6_init_169 : decode cX6_init 169 = .ok (.if_icmp .ge 24, 3) := by decide +kernel
theorem dX6_init_172 : decode cX6_init 172 = .ok (.aload_n 0, 1) := by decide +kernel
theorem dX6_init_173 : decode cX6_init 173 = .ok (.getfield 15, 3) := by decide +kernel
theorem dX6_init_176 : decode cX6_init 176 = .ok (.iload_n 1, 1) := by decide +kernel
theorem dX6_init_177 : decode cX6_init 177 = .ok (.new 9, 3) := by decide +kernel
theorem dX6_init_180 : decode cX6_init 180 = .ok (.dup, 1) := by decide +kernel
theorem dX6_init_181 : decode cX6_init 181 = .ok (.bipush 120, 2) := by decide +kernel
theorem dX6_init_183 : decode cX6_init 183 = .ok (.invokespecial 81, 3) := by decide +kernel
theorem dX6_init_186 : decode cX6_init 186 = .ok (.aastore, 1) := by decide +kernel
theorem dX6_init_187 : decode cX6_init 187 = .ok (.iinc 1 1, 3) := by decide +kernel
theorem dX6_init_190 : decode cX6_init 190 = .ok (.goto (-23), 3) := by decide +kernel
theorem dX6_init_193 : decode cX6_init 193 = .ok (.return_, 1) := by decide +kernel
theorem dX6_row_0 : decode cX6_row 0 = .ok (.iload_n 1, 1) := by decide +kernel
theorem dX6_row_1 : decode cX6_row 1 = .ok (.invokestatic 84, 3) := by decide +kernel
theorem dX6_row_4 : decode cX6_row 4 = .ok (.ifCond .eq 9, 3) := by decide +kernel
theorem dX6_row_7 : decode cX6_row 7 = .ok (.iload_n 2, 1) := by decide +kernel
theorem dX6_row_8 : decode cX6_row 8 = .ok (.bipush 60, 2) := by decide +kernel
theorem dX6_row_10 : decode cX6_row 10 = .ok (.if_icmp .le 5, 3) := by decide +kernel
theorem dX6_row_13 : decode cX6_row 13 = .ok (.iconst (-1), 1) := by decide +kernel
theorem dX6_row_14 : decode cX6_row 14 = .ok (.ireturn, 1) := by decide +kernel
theorem dX6_row_15 : decode cX6_row 15 = .ok (.iload_n 2, 1) := by decide +kernel
theorem dX6_row_16 : decode cX6_row 16 = .ok (.ifCond .ge 9, 3) := by decide +kernel
theorem dX6_row_19 : decode cX6_row 19 = .ok (.aload_n 0, 1) := by decide +kernel
theorem dX6_row_20 : decode cX6_row 20 = .ok (.iconst 5, 1) := by decide +kernel
theorem dX6_row_21 : decode cX6_row 21 = .ok (.invokevirtual 88, 3) := by decide +kernel
theorem dX6_row_24 : decode cX6_row 24 = .ok (.ireturn, 1) := by decide +kernel
theorem dX6_row_25 : decode cX6_row 25 = .ok (.aload_n 0, 1) := by decide +kernel
theorem dX6_row_26 : decode cX6_row 26 = .ok (.getfield 11, 3) := by decide +kernel
theorem dX6_row_29 : decode cX6_row 29 = .ok (.iload_n 1, 1) := by decide +kernel
theorem dX6_row_30 : decode cX6_row 30 = .ok (.aaload, 1) := by decide +kernel
theorem dX6_row_31 : decode cX6_row 31 = .ok (.iload_n 2, 1) := by decide +kernel
theorem dX6_row_32 : decode cX6_row 32 = .ok (.iconst 0, 1) := by decide +kernel
theorem dX6_row_33 : decode cX6_row 33 = .ok (.invokevirtual 92, 3) := by decide +kernel
theorem dX6_row_36 : decode cX6_row 36 = .ok (.iload_n 2, 1) := by decide +kernel
theorem dX6_row_37 : decode cX6_row 37 = .ok (.ireturn, 1) := by decide +kernel
theorem dX6_lay_0 : decode cX6_lay 0 = .ok (.iload_n 1, 1) := by decide +kernel
theorem dX6_lay_1 : decode cX6_lay 1 = .ok (.invokestatic 84, 3) := by decide +kernel
theorem dX6_lay_4 : decode cX6_lay 4 = .ok (.ifCond .ne 5, 3) := by decide +kernel
theorem dX6_lay_7 : decode cX6_lay 7 = .ok (.iconst (-1), 1) := by decide +kernel
theorem dX6_lay_8 : decode cX6_lay 8 = .ok (.ireturn, 1) := by decide +kernel
theorem dX6_lay_9 : decode cX6_lay 9 = .ok (.aload_n 0, 1) := by decide +kernel
theorem dX6_lay_10 : decode cX6_lay 10 = .ok (.getfield 11, 3) := by decide +kernel
theorem dX6_lay_13 : decode cX6_lay 13 = .ok (.iload_n 1, 1) := by decide +kernel
theorem dX6_lay_14 : decode cX6_lay 14 = .ok (.aaload, 1) := by decide +kernel
theorem dX6_lay_15 : decode cX6_lay 15 = .ok (.iload_n 2, 1) := by decide +kernel
theorem dX6_lay_16 : decode cX6_lay 16 = .ok (.invokevirtual 96, 3) := by decide +kernel
theorem dX6_lay_19 : decode cX6_lay 19 = .ok (.istore 4, 2) := by decide +kernel
theorem dX6_lay_21 : decode cX6_lay 21 = .ok (.iload 4, 2) := by decide +kernel
theorem dX6_lay_23 : decode cX6_lay 23 = .ok (.ifCond .eq 10, 3) := by decide +kernel
theorem dX6_lay_26 : decode cX6_lay 26 = .ok (.aload_n 0, 1) := by decide +kernel
theorem dX6_lay_27 : decode cX6_lay 27 = .ok (.iload 4, 2) := by decide +kernel
theorem dX6_lay_29 : decode cX6_lay 29 = .ok (.invokevirtual 88, 3) := by decide +kernel
theorem dX6_lay_32 : decode cX6_lay 32 = .ok (.ireturn, 1) := by decide +kernel
theorem dX6_lay_33 : decode cX6_lay 33 = .ok (.aload_n 0, 1) := by decide +kernel
theorem dX6_lay_34 : decode cX6_lay 34 = .ok (.aload_n 0, 1) := by decide +kernel
theorem dX6_lay_35 : decode cX6_lay 35 = .ok (.getfield 11, 3) := by decide +kernel
theorem dX6_lay_38 : decode cX6_lay 38 = .ok (.iload_n 1, 1) := by decide +kernel
theorem dX6_lay_39 : decode cX6_lay 39 = .ok (.aaload, 1) := by decide +kernel
theorem dX6_lay_40 : decode cX6_lay 40 = .ok (.getfield 99, 3) := by decide +kernel
theorem dX6_lay_43 : decode cX6_lay 43 = .ok (.iload_n 2, 1) := by decide +kernel
theorem dX6_lay_44 : decode cX6_lay 44 = .ok (.iaload, 1) := by decide +kernel
theorem dX6_lay_45 : decode cX6_lay 45 = .ok (.putfield 64, 3) := by decide +kernel
theorem dX6_lay_48 : decode cX6_lay 48 = .ok (.aload_n 0, 1) := by decide +kernel
theorem dX6_lay_49 : decode cX6_lay 49 = .ok (.getfield 11, 3) := by decide +kernel
theorem dX6_lay_52 : decode cX6_lay 52 = .ok (.iload_n 1, 1) := by decide +kernel
theorem dX6_lay_53 : decode cX6_lay 53 = .ok (.aaload, 1) := by decide +kernel
theorem dX6_lay_54 : decode cX6_lay 54 = .ok (.getfield 99, 3) := by decide +kernel
theorem dX6_lay_57 : decode cX6_lay 57 = .ok (.iload_n 2, 1) := by decide +kernel
theorem dX6_lay_58 : decode cX6_lay 58 = .ok (.iload_n 3, 1) := by decide +kernel
theorem dX6_lay_59 : decode cX6_lay 59 = .ok (.iastore, 1) := by decide +kernel
theorem dX6_lay_60 : decode cX6_lay 60 = .ok (.iconst 1, 1) := by decide +kernel
theorem dX6_lay_61 : decode cX6_lay 61 = .ok (.ireturn, 1) := by decide +kernel
theorem dX6_at_0 : decode cX6_at 0 = .ok (.iload_n 1, 1) := by decide +kernel
theorem dX6_at_1 : decode cX6_at 1 = .ok (.invokestatic 84, 3) := by decide +kernel
theorem dX6_at_4 : decode cX6_at 4 = .ok (.ifCond .ne 5, 3) := by decide +kernel
theorem dX6_at_7 : decode cX6_at 7 = .ok (.iconst (-1), 1) := by decide +kernel
theorem dX6_at_8 : decode cX6_at 8 = .ok (.ireturn, 1) := by decide +kernel
theorem dX6_at_9 : decode cX6_at 9 = .ok (.aload_n 0, 1) := by decide +kernel
theorem dX6_at_10 : decode cX6_at 10 = .ok (.getfield 11, 3) := by decide +kernel
theorem dX6_at_13 : decode cX6_at 13 = .ok (.iload_n 1, 1) := by decide +kernel
theorem dX6_at_14 : decode cX6_at 14 = .ok (.aaload, 1) := by decide +kernel
theorem dX6_at_15 : decode cX6_at 15 = .ok (.iload_n 2, 1) := by decide +kernel
theorem dX6_at_16 : decode cX6_at 16 = .ok (.invokevirtual 96, 3) := by decide +kernel
theorem dX6_at_19 : decode cX6_at 19 = .ok (.istore_n 3, 1) := by decide +kernel
theorem dX6_at_20 : decode cX6_at 20 = .ok (.iload_n 3, 1) := by decide +kernel
theorem dX6_at_21 : decode cX6_at 21 = .ok (.ifCond .eq 9, 3) := by decide +kernel
theorem dX6_at_24 : decode cX6_at 24 = .ok (.aload_n 0, 1) := by decide +kernel
theorem dX6_at_25 : decode cX6_at 25 = .ok (.iload_n 3, 1) := by decide +kernel
theorem dX6_at_26 : decode cX6_at 26 = .ok (.invokevirtual 88, 3) := by decide +kernel
theorem dX6_at_29 : decode cX6_at 29 = .ok (.ireturn, 1) := by decide +kernel
theorem dX6_at_30 : decode cX6_at 30 = .ok (.aload_n 0, 1) := by decide +kernel
theorem dX6_at_31 : decode cX6_at 31 = .ok (.aload_n 0, 1) := by decide +kernel
theorem dX6_at_32 : decode cX6_at 32 = .ok (.getfield 11, 3) := by decide +kernel
theorem dX6_at_35 : decode cX6_at 35 = .ok (.iload_n 1, 1) := by decide +kernel
theorem dX6_at_36 : decode cX6_at 36 = .ok (.aaload, 1) := by decide +kernel
theorem dX6_at_37 : decode cX6_at 37 = .ok (.getfield 99, 3) := by decide +kernel
theorem dX6_at_40 : decode cX6_at 40 = .ok (.iload_n 2, 1) := by decide +kernel
theorem dX6_at_41 : decode cX6_at 41 = .ok (.iaload, 1) := by decide +kernel
theorem dX6_at_42 : decode cX6_at 42 = .ok (.putfield 64, 3) := by decide +kernel
theorem dX6_at_45 : decode cX6_at 45 = .ok (.iconst 1, 1) := by decide +kernel
theorem dX6_at_46 : decode cX6_at 46 = .ok (.ireturn, 1) := by decide +kernel
