theorem dX6_digestOf_0 : decode cX6_digestOf 0 = .ok (.lload_n 1, 1) := by decide +kernel
theorem dX6_digestOf_1 : decode cX6_digestOf 1 = .ok (.lstore_n 3, 1) := by decide +kernel
theorem dX6_digestOf_2 : decode cX6_digestOf 2 = .ok (.iconst 0, 1) := by decide +kernel
theorem dX6_digestOf_3 : decode cX6_digestOf 3 = .ok (.istore 5, 2) := by decide +kernel
theorem dX6_digestOf_5 : decode cX6_digestOf 5 = .ok (.iload 5, 2) := by decide +kernel
theorem dX6_digestOf_7 : decode cX6_digestOf 7 = .ok (.aload_n 0, 1) := by decide +kernel
theorem dX6_digestOf_8 : decode cX6_digestOf 8 = .ok (.arraylength, 1) := by decide +kernel
theorem dX6_digestOf_9 : decode cX6_digestOf 9 = .ok (.if_icmp .ge 63, 3) := by decide +kernel
theorem dX6_digestOf_12 : decode cX6_digestOf 12 = .ok (.ldc2_w 326, 3) := by decide +kernel
theorem dX6_digestOf_15 : decode cX6_digestOf 15 = .ok (.lload_n 3, 1) := by decide +kernel
theorem dX6_digestOf_16 : decode cX6_digestOf 16 = .ok (.lmul, 1) := by decide +kernel
theorem dX6_digestOf_17 : decode cX6_digestOf 17 = .ok (.aload_n 0, 1) := by decide +kernel
theorem dX6_digestOf_18 : decode cX6_digestOf 18 = .ok (.iload 5, 2) := by decide +kernel
theorem dX6_digestOf_20 : decode cX6_digestOf 20 = .ok (.aaload, 1) := by decide +kernel
theorem dX6_digestOf_21 : decode cX6_digestOf 21 = .ok (.getfield 106, 3) := by decide +kernel
theorem dX6_digestOf_24 : decode cX6_digestOf 24 = .ok (.i2l, 1) := by decide +kernel
theorem dX6_digestOf_25 : decode cX6_digestOf 25 = .ok (.ladd, 1) := by decide +kernel
theorem dX6_digestOf_26 : decode cX6_digestOf 26 = .ok (.lstore_n 3, 1) := by decide +kernel
theorem dX6_digestOf_27 : decode cX6_digestOf 27 = .ok (.iconst 0, 1) := by decide +kernel
theorem dX6_digestOf_28 : decode cX6_digestOf 28 = .ok (.istore 6, 2) := by decide +kernel
theorem dX6_digestOf_30 : decode cX6_digestOf 30 = .ok (.iload 6, 2) := by decide +kernel
theorem dX6_digestOf_32 : decode cX6_digestOf 32 = .ok (.aload_n 0, 1) := by decide +kernel
theorem dX6_digestOf_33 : decode cX6_digestOf 33 = .ok (.iload 5, 2) := by decide +kernel
theorem dX6_digestOf_35 : decode cX6_digestOf 35 = .ok (.aaload, 1) := by decide +kernel
theorem dX6_digestOf_36 : decode cX6_digestOf 36 = .ok (.getfield 106, 3) := by decide +kernel
theorem dX6_digestOf_39 : decode cX6_digestOf 39 = .ok (.if_icmp .ge 27, 3) := by decide +kernel
theorem dX6_digestOf_42 : decode cX6_digestOf 42 = .ok (.ldc2_w 326, 3) := by decide +kernel
theorem dX6_digestOf_45 : decode cX6_digestOf 45 = .ok (.lload_n 3, 1) := by decide +kernel
theorem dX6_digestOf_46 : decode cX6_digestOf 46 = .ok (.lmul, 1) := by decide +kernel
theorem dX6_digestOf_47 : decode cX6_digestOf 47 = .ok (.aload_n 0, 1) := by decide +kernel
theorem dX6_digestOf_48 : decode cX6_digestOf 48 = .ok (.iload 5, 2) := by decide +kernel
theorem dX6_digestOf_50 : decode cX6_digestOf 50 = .ok (.aaload, 1) := by decide +kernel
theorem dX6_digestOf_51 : decode cX6_digestOf 51 = .ok (.getfield 99, 3) := by decide +kernel
theorem dX6_digestOf_54 : decode cX6_digestOf 54 = .ok (.iload 6, 2) := by decide +kernel
theorem dX6_digestOf_56 : decode cX6_digestOf 56 = .ok (.iaload, 1) := by decide +kernel
theorem dX6_digestOf_57 : decode cX6_digestOf 57 = .ok (.i2l, 1) := by decide +kernel
theorem dX6_digestOf_58 : decode cX6_digestOf 58 = .ok (.ladd, 1) := by decide +kernel
theorem dX6_digestOf_59 : decode cX6_digestOf 59 = .ok (.lstore_n 3, 1) := by decide +kernel
theorem dX6_digestOf_60 : decode cX6_digestOf 60 = .ok (.iinc 6 1, 3) := by decide +kernel
theorem dX6_digestOf_63 : decode cX6_digestOf 63 = .ok (.goto (-33), 3) := by decide +kernel
theorem dX6_digestOf_66 : decode cX6_digestOf 66 = .ok (.iinc 5 1, 3) := by decide +kernel
theorem dX6_digestOf_69 : decode cX6_digestOf 69 = .ok (.goto (-64), 3) := by decide +kernel
theorem dX6_digestOf_72 : decode cX6_digestOf 72 = .ok (.lload_n 3, 1) := by decide +kernel
theorem dX6_digestOf_73 : decode cX6_digestOf 73 = .ok (.lreturn, 1) := by decide +kernel
theorem dX6_orderFault_0 : decode cX6_orderFault 0 = .ok (.aload_n 0, 1) := by decide +kernel
theorem dX6_orderFault_1 : decode cX6_orderFault 1 = .ok (.getfield 11, 3) := by decide +kernel
theorem dX6_orderFault_4 : decode cX6_orderFault 4 = .ok (.iload_n 1, 1) := by decide +kernel
theorem dX6_orderFault_5 : decode cX6_orderFault 5 = .ok (.aaload, 1) := by decide +kernel
theorem dX6_orderFault_6 : decode cX6_orderFault 6 = .ok (.invokevirtual 102, 3) := by decide +kernel
theorem dX6_orderFault_9 : decode cX6_orderFault 9 = .ok (.ifCond .eq 5, 3) := by decide +kernel
theorem dX6_orderFault_12 : decode cX6_orderFault 12 = .ok (.iconst 1, 1) := by decide +kernel
theorem dX6_orderFault_13 : decode cX6_orderFault 13 = .ok (.ireturn, 1) := by decide +kernel
theorem dX6_orderFault_14 : decode cX6_orderFault 14 = .ok (.aload_n 0, 1) := by decide +kernel
theorem dX6_orderFault_15 : decode cX6_orderFault 15 = .ok (.getfield 11, 3) := by decide +kernel
theorem dX6_orderFault_18 : decode cX6_orderFault 18 = .ok (.iload_n 1, 1) := by decide +kernel
theorem dX6_orderFault_19 : decode cX6_orderFault 19 = .ok (.aaload, 1) := by decide +kernel
theorem dX6_orderFault_20 : decode cX6_orderFault 20 = .ok (.getfield 106, 3) := by decide +kernel
theorem dX6_orderFault_23 : decode cX6_orderFault 23 = .ok (.aload_n 0, 1) := by decide +kernel
theorem dX6_orderFault_24 : decode cX6_orderFault 24 = .ok (.getfield 43, 3) := by decide +kernel
theorem dX6_orderFault_27 : decode cX6_orderFault 27 = .ok (.getfield 136, 3) := by decide +kernel
theorem dX6_orderFault_30 : decode cX6_orderFault 30 = .ok (.if_icmp .eq 5, 3) := by decide +kernel
theorem dX6_orderFault_33 : decode cX6_orderFault 33 = .ok (.iconst 5, 1) := by decide +kernel
theorem dX6_orderFault_34 : decode cX6_orderFault 34 = .ok (.ireturn, 1) := by decide +kernel
theorem dX6_orderFault_35 : decode cX6_orderFault 35 = .ok (.aload_n 0, 1) := by decide +kernel
theorem dX6_orderFault_36 : decode cX6_orderFault 36 = .ok (.getfield 43, 3) := by decide +kernel
theorem dX6_orderFault_39 : decode cX6_orderFault 39 = .ok (.aload_n 0, 1) := by decide +kernel
theorem dX6_orderFault_40 : decode cX6_orderFault 40 = .ok (.getfield 11, 3) := by decide +kernel
theorem dX6_orderFault_43 : decode cX6_orderFault 43 = .ok (.iload_n 1, 1) := by decide +kernel
theorem dX6_orderFault_44 : decode cX6_orderFault 44 = .ok (.aaload, 1) := by decide +kernel
theorem dX6_orderFault_45 : decode cX6_orderFault 45 = .ok (.getfield 99, 3) := by decide +kernel
theorem dX6_orderFault_48 : decode cX6_orderFault 48 = .ok (.invokevirtual 337, 3) := by decide +kernel
theorem dX6_orderFault_51 : decode cX6_orderFault 51 = .ok (.ifCond .eq 7, 3) := by decide +kernel
theorem dX6_orderFault_54 : decode cX6_orderFault 54 = .ok (.iconst 0, 1) := by decide +kernel
theorem dX6_orderFault_55 : decode cX6_orderFault 55 = .ok (.goto 4, 3) := by decide +kernel
theorem dX6_orderFault_58 : decode cX6_orderFault 58 = .ok (.iconst 3, 1) := by decide +kernel
theorem dX6_orderFault_59 : decode cX6_orderFault 59 = .ok (.ireturn, 1) := by decide +kernel
theorem dX6_bothOrdersFault_0 : decode cX6_bothOrdersFault 0 = .ok (.aload_n 0, 1) := by decide +kernel
theorem dX6_bothOrdersFault_1 : decode cX6_bothOrdersFault 1 = .ok (.iload_n 1, 1) := by decide +kernel
theorem dX6_bothOrdersFault_2 : decode cX6_bothOrdersFault 2 = .ok (.invokevirtual 187, 3) := by decide +kernel
theorem dX6_bothOrdersFault_5 : decode cX6_bothOrdersFault 5 = .ok (.istore_n 3, 1) := by decide +kernel
theorem dX6_bothOrdersFault_6 : decode cX6_bothOrdersFault 6 = .ok (.aload_n 0, 1) := by decide +kernel
theorem dX6_bothOrdersFault_7 : decode cX6_bothOrdersFault 7 = .ok (.iload_n 2, 1) := by decide +kernel
theorem dX6_bothOrdersFault_8 : decode cX6_bothOrdersFault 8 = .ok (.invokevirtual 187, 3) := by decide +kernel
theorem dX6_bothOrdersFault_11 : decode cX6_bothOrdersFault 11 = .ok (.istore 4, 2) := by decide +kernel
theorem dX6_bothOrdersFault_13 : decode cX6_bothOrdersFault 13 = .ok (.iload_n 3, 1) := by decide +kernel
theorem dX6_bothOrdersFault_14 : decode cX6_bothOrdersFault 14 = .ok (.iconst 1, 1) := by decide +kernel
theorem dX6_bothOrdersFault_15 : decode cX6_bothOrdersFault 15 = .ok (.if_icmp .eq 9, 3) := by decide +kernel
theorem dX6_bothOrdersFault_18 : decode cX6_bothOrdersFault 18 = .ok (.iload 4, 2) := by decide +kernel
theorem dX6_bothOrdersFault_20 : decode cX6_bothOrdersFault 20 = .ok (.iconst 1, 1) := by decide +kernel
theorem dX6_bothOrdersFault_21 : decode cX6_bothOrdersFault 21 = .ok (.if_icmp .ne 5, 3) := by decide +kernel
theorem dX6_bothOrdersFault_24 : decode cX6_bothOrdersFault 24 = .ok (.iconst 1, 1) := by decide +kernel
theorem dX6_bothOrdersFault_25 : decode cX6_bothOrdersFault 25 = .ok (.ireturn, 1) := by decide +kernel
theorem dX6_bothOrdersFault_26 : decode cX6_bothOrdersFault 26 = .ok (.iload_n 3, 1) := by decide +kernel
theorem dX6_bothOrdersFault_27 : decode cX6_bothOrdersFault 27 = .ok (.iconst 5, 1) := by decide +kernel
theorem dX6_bothOrdersFault_28 : decode cX6_bothOrdersFault 28 = .ok (.if_icmp .eq 9, 3) := by decide +kernel
theorem dX6_bothOrdersFault_31 : decode cX6_bothOrdersFault 31 = .ok (.iload 4, 2) := by decide +kernel
theorem dX6_bothOrdersFault_33 : decode cX6_bothOrdersFault 33 = .ok (.iconst 5, 1) := by decide +kernel
theorem dX6_bothOrdersFault_34 : decode cX6_bothOrdersFault 34 = .ok (.if_icmp .ne 5, 3) := by decide +kernel
theorem dX6_bothOrdersFault_37 : decode cX6_bothOrdersFault 37 = .ok (.iconst 5, 1) := by decide +kernel
theorem dX6_bothOrdersFault_38 : decode cX6_bothOrdersFault 38 = .ok (.ireturn, 1) := by decide +kernel
theorem dX6_bothOrdersFault_39 : decode cX6_bothOrdersFault 39 = .ok (.iload_n 3, 1) := by decide +kernel
theorem dX6_bothOrdersFault_40 : decode cX6_bothOrdersFault 40 = .ok (.ifCond .eq 7, 3) := by decide +kernel
theorem dX6_bothOrdersFault_43 : decode cX6_bothOrdersFault 43 = .ok (.iload_n 3, 1) := by decide +kernel
theorem dX6_bothOrdersFault_44 : decode cX6_bothOrdersFault 44 = .ok (.goto 5, 3) := by decide +kernel
theorem dX6_bothOrdersFault_47 : decode cX6_bothOrdersFault 47 = .ok (.iload 4, 2) := by decide +kernel
theorem dX6_bothOrdersFault_49 : decode cX6_bothOrdersFault 49 = .ok (.ireturn, 1) := by decide +kernel
theorem dX6_layOrder_0 : decode cX6_layOrder 0 = .ok (.aload_n 0, 1) := by decide +kernel
theorem dX6_layOrder_1 : decode cX6_layOrder 1 = .ok (.getfield 11, 3) := by decide +kernel
theorem dX6_layOrder_4 : decode cX6_layOrder 4 = .ok (.iload_n 1, 1) := by decide +kernel
theorem dX6_layOrder_5 : decode cX6_layOrder 5 = .ok (.aaload, 1) := by decide +kernel
theorem dX6_layOrder_6 : decode cX6_layOrder 6 = .ok (.aload_n 0, 1) := by decide +kernel
theorem dX6_layOrder_7 : decode cX6_layOrder 7 = .ok (.getfield 43, 3) := by decide +kernel
theorem dX6_layOrder_10 : decode cX6_layOrder 10 = .ok (.getfield 136, 3) := by decide +kernel
theorem dX6_layOrder_13 : decode cX6_layOrder 13 = .ok (.iconst 0, 1) := by decide +kernel
theorem dX6_layOrder_14 : decode cX6_layOrder 14 = .ok (.invokevirtual 92, 3) := by decide +kernel
theorem dX6_layOrder_17 : decode cX6_layOrder 17 = .ok (.aload_n 2, 1) := by decide +kernel
theorem dX6_layOrder_18 : decode cX6_layOrder 18 = .ok (.iconst 0, 1) := by decide +kernel
theorem dX6_layOrder_19 : decode cX6_layOrder 19 = .ok (.aload_n 0, 1) := by decide +kernel
theorem dX6_layOrder_20 : decode cX6_layOrder 20 = .ok (.getfield 11, 3) := by decide +kernel
theorem dX6_layOrder_23 : decode cX6_layOrder 23 = .ok (.iload_n 1, 1) := by decide +kernel
theorem dX6_layOrder_24 : decode cX6_layOrder 24 = .ok (.aaload, 1) := by decide +kernel
theorem dX6_layOrder_25 : decode cX6_layOrder 25 = .ok (.getfield 99, 3) := by decide +kernel
theorem dX6_layOrder_28 : decode cX6_layOrder 28 = .ok (.iconst 0, 1) := by decide +kernel
theorem dX6_layOrder_29 : decode cX6_layOrder 29 = .ok (.aload_n 0, 1) := by decide +kernel
theorem dX6_layOrder_30 : decode cX6_layOrder 30 = .ok (.getfield 43, 3) := by decide +kernel
theorem dX6_layOrder_33 : decode cX6_layOrder 33 = .ok (.getfield 136, 3) := by decide +kernel
theorem dX6_layOrder_36 : decode cX6_layOrder 36 = .ok (.invokestatic 113, 3) := by decide +kernel
theorem dX6_layOrder_39 : decode cX6_layOrder 39 = .ok (.return_, 1) := by decide +kernel
theorem dX6_imageSize_0 : decode cX6_imageSize 0 = .ok (.aload_n 0, 1) := by decide +kernel
theorem dX6_imageSize_1 : decode cX6_imageSize 1 = .ok (.getfield 43, 3) := by decide +kernel
theorem dX6_imageSize_4 : decode cX6_imageSize 4 = .ok (.getfield 136, 3) := by decide +kernel
theorem dX6_imageSize_7 : decode cX6_imageSize 7 = .ok (.aload_n 0, 1) := by decide +kernel
theorem dX6_imageSize_8 : decode cX6_imageSize 8 = .ok (.getfield 43, 3) := by decide +kernel
theorem dX6_imageSize_11 : decode cX6_imageSize 11 = .ok (.getfield 136, 3) := by decide +kernel
theorem dX6_imageSize_14 : decode cX6_imageSize 14 = .ok (.iconst 1, 1) := by decide +kernel
theorem dX6_imageSize_15 : decode cX6_imageSize 15 = .ok (.isub, 1) := by decide +kernel
theorem dX6_imageSize_16 : decode cX6_imageSize 16 = .ok (.imul, 1) := by decide +kernel
theorem dX6_imageSize_17 : decode cX6_imageSize 17 = .ok (.iconst 2, 1) := by decide +kernel
theorem dX6_imageSize_18 : decode cX6_imageSize 18 = .ok (.idiv, 1) := by decide +kernel
theorem dX6_imageSize_19 : decode cX6_imageSize 19 = .ok (.iconst 1, 1) := by decide +kernel
theorem dX6_imageSize_20 : decode cX6_imageSize 20 = .ok (.iadd, 1) := by decide +kernel
theorem dX6_imageSize_21 : decode cX6_imageSize 21 = .ok (.ireturn, 1) := by decide +kernel
theorem dX6_imageFault_0 : decode cX6_imageFault 0 = .ok (.aload_n 0, 1) := by decide +kernel
theorem dX6_imageFault_1 : decode cX6_imageFault 1 = .ok (.getfield 11, 3) := by decide +kernel
theorem dX6_imageFault_4 : decode cX6_imageFault 4 = .ok (.iload_n 1, 1) := by decide +kernel
theorem dX6_imageFault_5 : decode cX6_imageFault 5 = .ok (.aaload, 1) := by decide +kernel
theorem dX6_imageFault_6 : decode cX6_imageFault 6 = .ok (.invokevirtual 102, 3) := by decide +kernel
theorem dX6_imageFault_9 : decode cX6_imageFault 9 = .ok (.ifCond .eq 5, 3) := by decide +kernel
theorem dX6_imageFault_12 : decode cX6_imageFault 12 = .ok (.iconst 1, 1) := by decide +kernel
theorem dX6_imageFault_13 : decode cX6_imageFault 13 = .ok (.ireturn, 1) := by decide +kernel
theorem dX6_imageFault_14 : decode cX6_imageFault 14 = .ok (.aload_n 0, 1) := by decide +kernel
theorem dX6_imageFault_15 : decode cX6_imageFault 15 = .ok (.invokevirtual 300, 3) := by decide +kernel
theorem dX6_imageFault_18 : decode cX6_imageFault 18 = .ok (.istore_n 2, 1) := by decide +kernel
theorem dX6_imageFault_19 : decode cX6_imageFault 19 = .ok (.aload_n 0, 1) := by decide +kernel
theorem dX6_imageFault_20 : decode cX6_imageFault 20 = .ok (.getfield 11, 3) := by decide +kernel
theorem dX6_imageFault_23 : decode cX6_imageFault 23 = .ok (.iload_n 1, 1) := by decide +kernel
theorem dX6_imageFault_24 : decode cX6_imageFault 24 = .ok (.aaload, 1) := by decide +kernel
theorem dX6_imageFault_25 : decode cX6_imageFault 25 = .ok (.getfield 106, 3) := by decide +kernel
theorem dX6_imageFault_28 : decode cX6_imageFault 28 = .ok (.iload_n 2, 1) := by decide +kernel
theorem dX6_imageFault_29 : decode cX6_imageFault 29 = .ok (.if_icmp .eq 5, 3) := by decide +kernel
theorem dX6_imageFault_32 : decode cX6_imageFault 32 = .ok (.iconst 5, 1) := by decide +kernel
theorem dX6_imageFault_33 : decode cX6_imageFault 33 = .ok (.ireturn, 1) := by decide +kernel
theorem dX6_imageFault_34 : decode cX6_imageFault 34 = .ok (.iconst 0, 1) := by decide +kernel
theorem dX6_imageFault_35 : decode cX6_imageFault 35 = .ok (.istore_n 3, 1) := by decide +kernel
theorem dX6_imageFault_36 : decode cX6_imageFault 36 = .ok (.iload_n 3, 1) := by decide +kernel
theorem dX6_imageFault_37 : decode cX6_imageFault 37 = .ok (.iload_n 2, 1) := by decide +kernel
theorem dX6_imageFault_38 : decode cX6_imageFault 38 = .ok (.iconst 1, 1) := by decide +kernel
theorem dX6_imageFault_39 : decode cX6_imageFault 39 = .ok (.isub, 1) := by decide +kernel
theorem dX6_imageFault_40 : decode cX6_imageFault 40 = .ok (.if_icmp .ge 41, 3) := by decide +kernel
theorem dX6_imageFault_43 : decode cX6_imageFault 43 = .ok (.aload_n 0, 1) := by decide +kernel
theorem dX6_imageFault_44 : decode cX6_imageFault 44 = .ok (.getfield 11, 3) := by decide +kernel
theorem dX6_imageFault_47 : decode cX6_imageFault 47 = .ok (.iload_n 1, 1) := by decide +kernel
theorem dX6_imageFault_48 : decode cX6_imageFault 48 = .ok (.aaload, 1) := by decide +kernel
theorem dX6_imageFault_49 : decode cX6_imageFault 49 = .ok (.getfield 99, 3) := by decide +kernel
theorem dX6_imageFault_52 : decode cX6_imageFault 52 = .ok (.iload_n 3, 1) := by decide +kernel
theorem dX6_imageFault_53 : decode cX6_imageFault 53 = .ok (.iaload, 1) := by decide +kernel
theorem dX6_imageFault_54 : decode cX6_imageFault 54 = .ok (.ifCond .lt 19, 3) := by decide +kernel
theorem dX6_imageFault_57 : decode cX6_imageFault 57 = .ok (.aload_n 0, 1) := by decide +kernel
theorem dX6_imageFault_58 : decode cX6_imageFault 58 = .ok (.getfield 11, 3) := by decide +kernel
theorem dX6_imageFault_61 : decode cX6_imageFault 61 = .ok (.iload_n 1, 1) := by decide +kernel
theorem dX6_imageFault_62 : decode cX6_imageFault 62 = .ok (.aaload, 1) := by decide +kernel
theorem dX6_imageFault_63 : decode cX6_imageFault 63 = .ok (.getfield 99, 3) := by decide +kernel
theorem dX6_imageFault_66 : decode cX6_imageFault 66 = .ok (.iload_n 3, 1) := by decide +kernel
theorem dX6_imageFault_67 : decode cX6_imageFault 67 = .ok (.iaload, 1) := by decide +kernel
theorem dX6_imageFault_68 : decode cX6_imageFault 68 = .ok (.bipush 9, 2) := by decide +kernel
theorem dX6_imageFault_70 : decode cX6_imageFault 70 = .ok (.if_icmp .le 5, 3) := by decide +kernel
theorem dX6_imageFault_73 : decode cX6_imageFault 73 = .ok (.iconst 3, 1) := by decide +kernel
theorem dX6_imageFault_74 : decode cX6_imageFault 74 = .ok (.ireturn, 1) := by decide +kernel
theorem dX6_imageFault_75 : decode cX6_imageFault 75 = .ok (.iinc 3 1, 3) := by decide +kernel
theorem dX6_imageFault_78 : decode cX6_imageFault 78 = .ok (.goto (-42), 3) := by decide +kernel
theorem dX6_imageFault_81 : decode cX6_imageFault 81 = .ok (.aload_n 0, 1) := by decide +kernel
theorem dX6_imageFault_82 : decode cX6_imageFault 82 = .ok (.getfield 11, 3) := by decide +kernel
theorem dX6_imageFault_85 : decode cX6_imageFault 85 = .ok (.iload_n 1, 1) := by decide +kernel
theorem dX6_imageFault_86 : decode cX6_imageFault 86 = .ok (.aaload, 1) := by decide +kernel
theorem dX6_imageFault_87 : decode cX6_imageFault 87 = .ok (.getfield 99, 3) := by decide +kernel
theorem dX6_imageFault_90 : decode cX6_imageFault 90 = .ok (.iload_n 2, 1) := by decide +kernel
theorem dX6_imageFault_91 : decode cX6_imageFault 91 = .ok (.iconst 1, 1) := by decide +kernel
theorem dX6_imageFault_92 : decode cX6_imageFault 92 = .ok (.isub, 1) := by decide +kernel
theorem dX6_imageFault_93 : decode cX6_imageFault 93 = .ok (.iaload, 1) := by decide +kernel
theorem dX6_imageFault_94 : decode cX6_imageFault 94 = .ok (.istore_n 3, 1) := by decide +kernel
theorem dX6_imageFault_95 : decode cX6_imageFault 95 = .ok (.iload_n 3, 1) := by decide +kernel
theorem dX6_imageFault_96 : decode cX6_imageFault 96 = .ok (.ifCond .lt 16, 3) := by decide +kernel
theorem dX6_imageFault_99 : decode cX6_imageFault 99 = .ok (.iload_n 3, 1) := by decide +kernel
theorem dX6_imageFault_100 : decode cX6_imageFault 100 = .ok (.iconst 1, 1) := by decide +kernel
theorem dX6_imageFault_101 : decode cX6_imageFault 101 = .ok (.aload_n 0, 1) := by decide +kernel
theorem dX6_imageFault_102 : decode cX6_imageFault 102 = .ok (.getfield 43, 3) := by decide +kernel
theorem dX6_imageFault_105 : decode cX6_imageFault 105 = .ok (.getfield 154, 3) := by decide +kernel
theorem dX6_imageFault_108 : decode cX6_imageFault 108 = .ok (.ishl, 1) := by decide +kernel
theorem dX6_imageFault_109 : decode cX6_imageFault 109 = .ok (.if_icmp .lt 7, 3) := by decide +kernel
theorem dX6_imageFault_112 : decode cX6_imageFault 112 = .ok (.iconst 3, 1) := by decide +kernel
theorem dX6_imageFault_113 : decode cX6_imageFault 113 = .ok (.goto 4, 3) := by decide +kernel
theorem dX6_imageFault_116 : decode cX6_imageFault 116 = .ok (.iconst 0, 1) := by decide +kernel
theorem dX6_imageFault_117 : decode cX6_imageFault 117 = .ok (.ireturn, 1) := by decide +kernel
theorem dX6_tellFraction_0 : decode cX6_tellFraction 0 = .ok (.lload_n 1, 1) := by decide +kernel
theorem dX6_tellFraction_1 : decode cX6_tellFraction 1 = .ok (.lstore 5, 2) := by decide +kernel
theorem dX6_tellFraction_3 : decode cX6_tellFraction 3 = .ok (.lload_n 3, 1) := by decide +kernel
theorem dX6_tellFraction_4 : decode cX6_tellFraction 4 = .ok (.lstore 7, 2) := by decide +kernel
theorem dX6_tellFraction_6 : decode cX6_tellFraction 6 = .ok (.iconst 0, 1) := by decide +kernel
theorem dX6_tellFraction_7 : decode cX6_tellFraction 7 = .ok (.istore 9, 2) := by decide +kernel
theorem dX6_tellFraction_9 : decode cX6_tellFraction 9 = .ok (.iload 9, 2) := by decide +kernel
theorem dX6_tellFraction_11 : decode cX6_tellFraction 11 = .ok (.bipush 100, 2) := by decide +kernel
theorem dX6_tellFraction_13 : decode cX6_tellFraction 13 = .ok (.if_icmp .ge 31, 3) := by decide +kernel
theorem dX6_tellFraction_16 : decode cX6_tellFraction 16 = .ok (.lload 7, 2) := by decide +kernel
theorem dX6_tellFraction_18 : decode cX6_tellFraction 18 = .ok (.lconst 0, 1) := by decide +kernel
theorem dX6_tellFraction_19 : decode cX6_tellFraction 19 = .ok (.lcmp, 1) := by decide +kernel
theorem dX6_tellFraction_20 : decode cX6_tellFraction 20 = .ok (.ifCond .eq 24, 3) := by decide +kernel
theorem dX6_tellFraction_23 : decode cX6_tellFraction 23 = .ok (.lload 5, 2) := by decide +kernel
theorem dX6_tellFraction_25 : decode cX6_tellFraction 25 = .ok (.lload 7, 2) := by decide +kernel
theorem dX6_tellFraction_27 : decode cX6_tellFraction 27 = .ok (.lrem, 1) := by decide +kernel
theorem dX6_tellFraction_28 : decode cX6_tellFraction 28 = .ok (.lstore 10, 2) := by decide +kernel
theorem dX6_tellFraction_30 : decode cX6_tellFraction 30 = .ok (.lload 7, 2) := by decide +kernel
theorem dX6_tellFraction_32 : decode cX6_tellFraction 32 = .ok (.lstore 5, 2) := by decide +kernel
theorem dX6_tellFraction_34 : decode cX6_tellFraction 34 = .ok (.lload 10, 2) := by decide +kernel
theorem dX6_tellFraction_36 : decode cX6_tellFraction 36 = .ok (.lstore 7, 2) := by decide +kernel
theorem dX6_tellFraction_38 : decode cX6_tellFraction 38 = .ok (.iinc 9 1, 3) := by decide +kernel
theorem dX6_tellFraction_41 : decode cX6_tellFraction 41 = .ok (.goto (-32), 3) := by decide +kernel
theorem dX6_tellFraction_44 : decode cX6_tellFraction 44 = .ok (.lload 5, 2) := by decide +kernel
theorem dX6_tellFraction_46 : decode cX6_tellFraction 46 = .ok (.lconst 0, 1) := by decide +kernel
theorem dX6_tellFraction_47 : decode cX6_tellFraction 47 = .ok (.lcmp, 1) := by decide +kernel
theorem dX6_tellFraction_48 : decode cX6_tellFraction 48 = .ok (.ifCond .eq 19, 3) := by decide +kernel
theorem dX6_tellFraction_51 : decode cX6_tellFraction 51 = .ok (.aload_n 0, 1) := by decide +kernel
theorem dX6_tellFraction_52 : decode cX6_tellFraction 52 = .ok (.lload_n 1, 1) := by decide +kernel
theorem dX6_tellFraction_53 : decode cX6_tellFraction 53 = .ok (.lload 5, 2) := by decide +kernel
theorem dX6_tellFraction_55 : decode cX6_tellFraction 55 = .ok (.ldiv, 1) := by decide +kernel
theorem dX6_tellFraction_56 : decode cX6_tellFraction 56 = .ok (.putfield 67, 3) := by decide +kernel
theorem dX6_tellFraction_59 : decode cX6_tellFraction 59 = .ok (.aload_n 0, 1) := by decide +kernel
theorem dX6_tellFraction_60 : decode cX6_tellFraction 60 = .ok (.lload_n 3, 1) := by decide +kernel
theorem dX6_tellFraction_61 : decode cX6_tellFraction 61 = .ok (.lload 5, 2) := by decide +kernel
theorem dX6_tellFraction_63 : decode cX6_tellFraction 63 = .ok (.ldiv, 1) := by decide +kernel
theorem dX6_tellFraction_64 : decode cX6_tellFraction 64 = .ok (.putfield 71, 3) := by decide +kernel
theorem dX6_tellFraction_67 : decode cX6_tellFraction 67 = .ok (.return_, 1) := by decide +kernel
theorem dX6_drawOrder_0 : decode cX6_drawOrder 0 = .ok (.iload_n 1, 1) := by decide +kernel
theorem dX6_drawOrder_1 : decode cX6_drawOrder 1 = .ok (.i2l, 1) := by decide +kernel
theorem dX6_drawOrder_2 : decode cX6_drawOrder 2 = .ok (.lstore_n 3, 1) := by decide +kernel
theorem dX6_drawOrder_3 : decode cX6_drawOrder 3 = .ok (.aload_n 0, 1) := by decide +kernel
theorem dX6_drawOrder_4 : decode cX6_drawOrder 4 = .ok (.getfield 43, 3) := by decide +kernel
theorem dX6_drawOrder_7 : decode cX6_drawOrder 7 = .ok (.invokevirtual 341, 3) := by decide +kernel
theorem dX6_drawOrder_10 : decode cX6_drawOrder 10 = .ok (.istore 5, 2) := by decide +kernel
theorem dX6_drawOrder_12 : decode cX6_drawOrder 12 = .ok (.iconst 0, 1) := by decide +kernel
theorem dX6_drawOrder_13 : decode cX6_drawOrder 13 = .ok (.istore 6, 2) := by decide +kernel
theorem dX6_drawOrder_15 : decode cX6_drawOrder 15 = .ok (.iload 6, 2) := by decide +kernel
theorem dX6_drawOrder_17 : decode cX6_drawOrder 17 = .ok (.aload_n 0, 1) := by decide +kernel
theorem dX6_drawOrder_18 : decode cX6_drawOrder 18 = .ok (.getfield 43, 3) := by decide +kernel
theorem dX6_drawOrder_21 : decode cX6_drawOrder 21 = .ok (.getfield 136, 3) := by decide +kernel
theorem dX6_drawOrder_24 : decode cX6_drawOrder 24 = .ok (.if_icmp .ge 61, 3) := by decide +kernel
theorem dX6_drawOrder_27 : decode cX6_drawOrder 27 = .ok (.lload_n 3, 1) := by decide +kernel
theorem dX6_drawOrder_28 : decode cX6_drawOrder 28 = .ok (.ldc2_w 344, 3) := by decide +kernel
theorem dX6_drawOrder_31 : decode cX6_drawOrder 31 = .ok (.lmul, 1) := by decide +kernel
theorem dX6_drawOrder_32 : decode cX6_drawOrder 32 = .ok (.ldc2_w 335, 3) := by decide +kernel
theorem dX6_drawOrder_35 : decode cX6_drawOrder 35 = .ok (.lrem, 1) := by decide +kernel
theorem dX6_drawOrder_36 : decode cX6_drawOrder 36 = .ok (.lstore_n 3, 1) := by decide +kernel
theorem dX6_drawOrder_37 : decode cX6_drawOrder 37 = .ok (.aload_n 0, 1) := by decide +kernel
theorem dX6_drawOrder_38 : decode cX6_drawOrder 38 = .ok (.getfield 43, 3) := by decide +kernel
theorem dX6_drawOrder_41 : decode cX6_drawOrder 41 = .ok (.iload 5, 2) := by decide +kernel
theorem dX6_drawOrder_43 : decode cX6_drawOrder 43 = .ok (.lload_n 3, 1) := by decide +kernel
theorem dX6_drawOrder_44 : decode cX6_drawOrder 44 = .ok (.aload_n 0, 1) := by decide +kernel
theorem dX6_drawOrder_45 : decode cX6_drawOrder 45 = .ok (.getfield 43, 3) := by decide +kernel
theorem dX6_drawOrder_48 : decode cX6_drawOrder 48 = .ok (.getfield 136, 3) := by decide +kernel
theorem dX6_drawOrder_51 : decode cX6_drawOrder 51 = .ok (.iload 6, 2) := by decide +kernel
theorem dX6_drawOrder_53 : decode cX6_drawOrder 53 = .ok (.isub, 1) := by decide +kernel
theorem dX6_drawOrder_54 : decode cX6_drawOrder 54 = .ok (.i2l, 1) := by decide +kernel
theorem dX6_drawOrder_55 : decode cX6_drawOrder 55 = .ok (.lrem, 1) := by decide +kernel
theorem dX6_drawOrder_56 : decode cX6_drawOrder 56 = .ok (.l2i, 1) := by decide +kernel
theorem dX6_drawOrder_57 : decode cX6_drawOrder 57 = .ok (.invokevirtual 346, 3) := by decide +kernel
theorem dX6_drawOrder_60 : decode cX6_drawOrder 60 = .ok (.istore 7, 2) := by decide +kernel
theorem dX6_drawOrder_62 : decode cX6_drawOrder 62 = .ok (.aload_n 2, 1) := by decide +kernel
theorem dX6_drawOrder_63 : decode cX6_drawOrder 63 = .ok (.iload 6, 2) := by decide +kernel
theorem dX6_drawOrder_65 : decode cX6_drawOrder 65 = .ok (.iload 7, 2) := by decide +kernel
theorem dX6_drawOrder_67 : decode cX6_drawOrder 67 = .ok (.iastore, 1) := by decide +kernel
theorem dX6_drawOrder_68 : decode cX6_drawOrder 68 = .ok (.iload 5, 2) := by decide +kernel
theorem dX6_drawOrder_70 : decode cX6_drawOrder 70 = .ok (.iconst 1, 1) := by decide +kernel
theorem dX6_drawOrder_71 : decode cX6_drawOrder 71 = .ok (.iload 7, 2) := by decide +kernel
theorem dX6_drawOrder_73 : decode cX6_drawOrder 73 = .ok (.ishl, 1) := by decide +kernel
theorem dX6_drawOrder_74 : decode cX6_drawOrder 74 = .ok (.iconst (-1), 1) := by decide +kernel
theorem dX6_drawOrder_75 : decode cX6_drawOrder 75 = .ok (.ixor, 1) := by decide +kernel
theorem dX6_drawOrder_76 : decode cX6_drawOrder 76 = .ok (.iand, 1) := by decide +kernel
theorem dX6_drawOrder_77 : decode cX6_drawOrder 77 = .ok (.istore 5, 2) := by decide +kernel
theorem dX6_drawOrder_79 : decode cX6_drawOrder 79 = .ok (.iinc 6 1, 3) := by decide +kernel
theorem dX6_drawOrder_82 : decode cX6_drawOrder 82 = .ok (.goto (-67), 3) := by decide +kernel
theorem dX6_drawOrder_85 : decode cX6_drawOrder 85 = .ok (.lload_n 3, 1) := by decide +kernel
theorem dX6_drawOrder_86 : decode cX6_drawOrder 86 = .ok (.l2i, 1) := by decide +kernel
theorem dX6_drawOrder_87 : decode cX6_drawOrder 87 = .ok (.ireturn, 1) := by decide +kernel
theorem dX6_valueOr_0 : decode cX6_valueOr 0 = .ok (.aload_n 0, 1) := by decide +kernel
theorem dX6_valueOr_1 : decode cX6_valueOr 1 = .ok (.ifnonnull 7, 3) := by decide +kernel
theorem dX6_valueOr_4 : decode cX6_valueOr 4 = .ok (.iload_n 1, 1) := by decide +kernel
theorem dX6_valueOr_5 : decode cX6_valueOr 5 = .ok (.goto 7, 3) := by decide +kernel
theorem dX6_valueOr_8 : decode cX6_valueOr 8 = .ok (.aload_n 0, 1) := by decide +kernel
theorem dX6_valueOr_9 : decode cX6_valueOr 9 = .ok (.invokevirtual 211, 3) := by decide +kernel
theorem dX6_valueOr_12 : decode cX6_valueOr 12 = .ok (.ireturn, 1) := by decide +kernel
theorem dX6_isSpent_0 : decode cX6_isSpent 0 = .ok (.iload_n 1, 1) := by decide +kernel
theorem dX6_isSpent_1 : decode cX6_isSpent 1 = .ok (.iconst 4, 1) := by decide +kernel
theorem dX6_isSpent_2 : decode cX6_isSpent 2 = .ok (.if_icmp .ne 19, 3) := by decide +kernel
theorem dX6_isSpent_5 : decode cX6_isSpent 5 = .ok (.aload_n 0, 1) := by decide +kernel
theorem dX6_isSpent_6 : decode cX6_isSpent 6 = .ok (.getfield 43, 3) := by decide +kernel
theorem dX6_isSpent_9 : decode cX6_isSpent 9 = .ok (.getfield 136, 3) := by decide +kernel
theorem dX6_isSpent_12 : decode cX6_isSpent 12 = .ok (.bipush 8, 2) := by decide +kernel
theorem dX6_isSpent_14 : decode cX6_isSpent 14 = .ok (.if_icmp .le 7, 3) := by decide +kernel
theorem dX6_isSpent_17 : decode cX6_isSpent 17 = .ok (.iconst 1, 1) := by decide +kernel
theorem dX6_isSpent_18 : decode cX6_isSpent 18 = .ok (.goto 4, 3) := by decide +kernel
theorem dX6_isSpent_21 : decode cX6_isSpent 21 = .ok (.iconst 0, 1) := by decide +kernel
theorem dX6_isSpent_22 : decode cX6_isSpent 22 = .ok (.ireturn, 1) := by decide +kernel
theorem dX6_noLeast_0 : decode cX6_noLeast 0 = .ok (.aload_n 0, 1) := by decide +kernel
theorem dX6_noLeast_1 : decode cX6_noLeast 1 = .ok (.iload_n 1, 1) := by decide +kernel
theorem dX6_noLeast_2 : decode cX6_noLeast 2 = .ok (.invokevirtual 224, 3) := by decide +kernel
theorem dX6_noLeast_5 : decode cX6_noLeast 5 = .ok (.ifCond .eq 8, 3) := by decide +kernel
theorem dX6_noLeast_8 : decode cX6_noLeast 8 = .ok (.bipush (-6), 2) := by decide +kernel
theorem dX6_noLeast_10 : decode cX6_noLeast 10 = .ok (.goto 8, 3) := by decide +kernel
theorem dX6_noLeast_13 : decode cX6_noLeast 13 = .ok (.aload_n 0, 1) := by decide +kernel
theorem dX6_noLeast_14 : decode cX6_noLeast 14 = .ok (.iconst 4, 1) := by decide +kernel
theorem dX6_noLeast_15 : decode cX6_noLeast 15 = .ok (.invokevirtual 88, 3) := by decide +kernel
theorem dX6_noLeast_18 : decode cX6_noLeast 18 = .ok (.ireturn, 1) := by decide +kernel
theorem dX6_forget_0 : decode cX6_forget 0 = .ok (.aload_n 0, 1) := by decide +kernel
theorem dX6_forget_1 : decode cX6_forget 1 = .ok (.bipush (-9), 2) := by decide +kernel
theorem dX6_forget_3 : decode cX6_forget 3 = .ok (.putfield 74, 3) := by decide +kernel
theorem dX6_forget_6 : decode cX6_forget 6 = .ok (.aload_n 0, 1) := by decide +kernel
theorem dX6_forget_7 : decode cX6_forget 7 = .ok (.aconst_null, 1) := by decide +kernel
theorem dX6_forget_8 : decode cX6_forget 8 = .ok (.putfield 77, 3) := by decide +kernel
theorem dX6_forget_11 : decode cX6_forget 11 = .ok (.return_, 1) := by decide +kernel
theorem dX6_leastsOf_0 : decode cX6_leastsOf 0 = .ok (.aload_n 0, 1) := by decide +kernel
theorem dX6_leastsOf_1 : decode cX6_leastsOf 1 = .ok (.iload_n 1, 1) := by decide +kernel
theorem dX6_leastsOf_2 : decode cX6_leastsOf 2 = .ok (.invokevirtual 224, 3) := by decide +kernel
theorem dX6_leastsOf_5 : decode cX6_leastsOf 5 = .ok (.ifCond .eq 5, 3) := by decide +kernel
theorem dX6_leastsOf_8 : decode cX6_leastsOf 8 = .ok (.aconst_null, 1) := by decide +kernel
theorem dX6_leastsOf_9 : decode cX6_leastsOf 9 = .ok (.areturn, 1) := by decide +kernel
theorem dX6_leastsOf_10 : decode cX6_leastsOf 10 = .ok (.aload_n 0, 1) := by decide +kernel
theorem dX6_leastsOf_11 : decode cX6_leastsOf 11 = .ok (.getfield 74, 3) := by decide +kernel
theorem dX6_leastsOf_14 : decode cX6_leastsOf 14 = .ok (.iload_n 1, 1) := by decide +kernel
theorem dX6_leastsOf_15 : decode cX6_leastsOf 15 = .ok (.if_icmp .eq 54, 3) := by decide +kernel
theorem dX6_leastsOf_18 : decode cX6_leastsOf 18 = .ok (.aload_n 0, 1) := by decide +kernel
theorem dX6_leastsOf_19 : decode cX6_leastsOf 19 = .ok (.getfield 36, 3) := by decide +kernel
theorem dX6_leastsOf_22 : decode cX6_leastsOf 22 = .ok (.iload_n 1, 1) := by decide +kernel
theorem dX6_leastsOf_23 : decode cX6_leastsOf 23 = .ok (.iconst 4, 1) := by decide +kernel
theorem dX6_leastsOf_24 : decode cX6_leastsOf 24 = .ok (.if_icmp .ne 7, 3) := by decide +kernel
theorem dX6_leastsOf_27 : decode cX6_leastsOf 27 = .ok (.iconst 5, 1) := by decide +kernel
theorem dX6_leastsOf_28 : decode cX6_leastsOf 28 = .ok (.goto 4, 3) := by decide +kernel
theorem dX6_leastsOf_31 : decode cX6_leastsOf 31 = .ok (.iload_n 1, 1) := by decide +kernel
theorem dX6_leastsOf_32 : decode cX6_leastsOf 32 = .ok (.invokevirtual 349, 3) := by decide +kernel
theorem dX6_leastsOf_35 : decode cX6_leastsOf 35 = .ok (.istore_n 2, 1) := by decide +kernel
theorem dX6_leastsOf_36 : decode cX6_leastsOf 36 = .ok (.aload_n 0, 1) := by decide +kernel
theorem dX6_leastsOf_37 : decode cX6_leastsOf 37 = .ok (.iload_n 2, 1) := by decide +kernel
theorem dX6_leastsOf_38 : decode cX6_leastsOf 38 = .ok (.ifCond .ne 7, 3) := by decide +kernel
theorem dX6_leastsOf_41 : decode cX6_leastsOf 41 = .ok (.aconst_null, 1) := by decide +kernel
theorem dX6_leastsOf_42 : decode cX6_leastsOf 42 = .ok (.goto 19, 3) := by decide +kernel
theorem dX6_leastsOf_45 : decode cX6_leastsOf 45 = .ok (.iload_n 1, 1) := by decide +kernel
theorem dX6_leastsOf_46 : decode cX6_leastsOf 46 = .ok (.iconst 4, 1) := by decide +kernel
theorem dX6_leastsOf_47 : decode cX6_leastsOf 47 = .ok (.if_icmp .ne 10, 3) := by decide +kernel
theorem dX6_leastsOf_50 : decode cX6_leastsOf 50 = .ok (.aload_n 0, 1) := by decide +kernel
theorem dX6_leastsOf_51 : decode cX6_leastsOf 51 = .ok (.invokevirtual 268, 3) := by decide +kernel
theorem dX6_leastsOf_54 : decode cX6_leastsOf 54 = .ok (.goto 7, 3) := by decide +kernel
theorem dX6_leastsOf_57 : decode cX6_leastsOf 57 = .ok (.aload_n 0, 1) := by decide +kernel
theorem dX6_leastsOf_58 : decode cX6_leastsOf 58 = .ok (.getfield 36, 3) := by decide +kernel
theorem dX6_leastsOf_61 : decode cX6_leastsOf 61 = .ok (.putfield 77, 3) := by decide +kernel
theorem dX6_leastsOf_64 : decode cX6_leastsOf 64 = .ok (.aload_n 0, 1) := by decide +kernel
theorem dX6_leastsOf_65 : decode cX6_leastsOf 65 = .ok (.iload_n 1, 1) := by decide +kernel
theorem dX6_leastsOf_66 : decode cX6_leastsOf 66 = .ok (.putfield 74, 3) := by decide +kernel
theorem dX6_leastsOf_69 : decode cX6_leastsOf 69 = .ok (.aload_n 0, 1) := by decide +kernel
theorem dX6_leastsOf_70 : decode cX6_leastsOf 70 = .ok (.getfield 77, 3) := by decide +kernel
theorem dX6_leastsOf_73 : decode cX6_leastsOf 73 = .ok (.areturn, 1) := by decide +kernel
theorem dX6_walked_0 : decode cX6_walked 0 = .ok (.aload_n 0, 1) := by decide +kernel
theorem dX6_walked_1 : decode cX6_walked 1 = .ok (.getfield 36, 3) := by decide +kernel
theorem dX6_walked_4 : decode cX6_walked 4 = .ok (.invokevirtual 352, 3) := by decide +kernel
theorem dX6_walked_7 : decode cX6_walked 7 = .ok (.aload_n 0, 1) := by decide +kernel
theorem dX6_walked_8 : decode cX6_walked 8 = .ok (.getfield 28, 3) := by decide +kernel
theorem dX6_walked_11 : decode cX6_walked 11 = .ok (.invokevirtual 355, 3) := by decide +kernel
theorem dX6_walked_14 : decode cX6_walked 14 = .ok (.aload_n 0, 1) := by decide +kernel
theorem dX6_walked_15 : decode cX6_walked 15 = .ok (.getfield 28, 3) := by decide +kernel
theorem dX6_walked_18 : decode cX6_walked 18 = .ok (.areturn, 1) := by decide +kernel
theorem dX6_solvedWithin_0 : decode cX6_solvedWithin 0 = .ok (.aload_n 0, 1) := by decide +kernel
theorem dX6_solvedWithin_1 : decode cX6_solvedWithin 1 = .ok (.getfield 36, 3) := by decide +kernel
theorem dX6_solvedWithin_4 : decode cX6_solvedWithin 4 = .ok (.iload_n 1, 1) := by decide +kernel
theorem dX6_solvedWithin_5 : decode cX6_solvedWithin 5 = .ok (.invokevirtual 358, 3) := by decide +kernel
theorem dX6_solvedWithin_8 : decode cX6_solvedWithin 8 = .ok (.aload_n 0, 1) := by decide +kernel
theorem dX6_solvedWithin_9 : decode cX6_solvedWithin 9 = .ok (.invokevirtual 133, 3) := by decide +kernel
theorem dX6_solvedWithin_12 : decode cX6_solvedWithin 12 = .ok (.aload_n 0, 1) := by decide +kernel
theorem dX6_solvedWithin_13 : decode cX6_solvedWithin 13 = .ok (.getfield 36, 3) := by decide +kernel
theorem dX6_solvedWithin_16 : decode cX6_solvedWithin 16 = .ok (.areturn, 1) := by decide +kernel
theorem dX6_improved_0 : decode cX6_improved 0 = .ok (.iload_n 1, 1) := by decide +kernel
theorem dX6_improved_1 : decode cX6_improved 1 = .ok (.invokestatic 184, 3) := by decide +kernel
theorem dX6_improved_4 : decode cX6_improved 4 = .ok (.ifCond .eq 10, 3) := by decide +kernel
theorem dX6_improved_7 : decode cX6_improved 7 = .ok (.iload_n 2, 1) := by decide +kernel
theorem dX6_improved_8 : decode cX6_improved 8 = .ok (.invokestatic 84, 3) := by decide +kernel
theorem dX6_improved_11 : decode cX6_improved 11 = .ok (.ifCond .ne 5, 3) := by decide +kernel
theorem dX6_improved_14 : decode cX6_improved 14 = .ok (.iconst (-1), 1) := by decide +kernel
theorem dX6_improved_15 : decode cX6_improved 15 = .ok (.ireturn, 1) := by decide +kernel
theorem dX6_improved_16 : decode cX6_improved 16 = .ok (.aload_n 0, 1) := by decide +kernel
theorem dX6_improved_17 : decode cX6_improved 17 = .ok (.iload_n 2, 1) := by decide +kernel
theorem dX6_improved_18 : decode cX6_improved 18 = .ok (.invokevirtual 187, 3) := by decide +kernel
theorem dX6_improved_21 : decode cX6_improved 21 = .ok (.istore 4, 2) := by decide +kernel
theorem dX6_improved_23 : decode cX6_improved 23 = .ok (.iload 4, 2) := by decide +kernel
theorem dX6_improved_25 : decode cX6_improved 25 = .ok (.ifCond .ne 27, 3) := by decide +kernel
theorem dX6_improved_28 : decode cX6_improved 28 = .ok (.aload_n 0, 1) := by decide +kernel
theorem dX6_improved_29 : decode cX6_improved 29 = .ok (.getfield 43, 3) := by decide +kernel
theorem dX6_improved_32 : decode cX6_improved 32 = .ok (.aload_n 0, 1) := by decide +kernel
theorem dX6_improved_33 : decode cX6_improved 33 = .ok (.getfield 11, 3) := by decide +kernel
theorem dX6_improved_36 : decode cX6_improved 36 = .ok (.iload_n 2, 1) := by decide +kernel
theorem dX6_improved_37 : decode cX6_improved 37 = .ok (.aaload, 1) := by decide +kernel
theorem dX6_improved_38 : decode cX6_improved 38 = .ok (.getfield 99, 3) := by decide +kernel
theorem dX6_improved_41 : decode cX6_improved 41 = .ok (.invokevirtual 194, 3) := by decide +kernel
theorem dX6_improved_44 : decode cX6_improved 44 = .ok (.bipush (-9), 2) := by decide +kernel
theorem dX6_improved_46 : decode cX6_improved 46 = .ok (.if_icmp .eq 6, 3) := by decide +kernel
theorem dX6_improved_49 : decode cX6_improved 49 = .ok (.iconst 3, 1) := by decide +kernel
theorem dX6_improved_50 : decode cX6_improved 50 = .ok (.istore 4, 2) := by decide +kernel
theorem dX6_improved_52 : decode cX6_improved 52 = .ok (.iload 4, 2) := by decide +kernel
theorem dX6_improved_54 : decode cX6_improved 54 = .ok (.ifCond .eq 10, 3) := by decide +kernel
theorem dX6_improved_57 : decode cX6_improved 57 = .ok (.aload_n 0, 1) := by decide +kernel
theorem dX6_improved_58 : decode cX6_improved 58 = .ok (.iload 4, 2) := by decide +kernel
theorem dX6_improved_60 : decode cX6_improved 60 = .ok (.invokevirtual 88, 3) := by decide +kernel
theorem dX6_improved_63 : decode cX6_improved 63 = .ok (.ireturn, 1) := by decide +kernel
theorem dX6_improved_64 : decode cX6_improved 64 = .ok (.aload_n 0, 1) := by decide +kernel
theorem dX6_improved_65 : decode cX6_improved 65 = .ok (.getfield 43, 3) := by decide +kernel
theorem dX6_improved_68 : decode cX6_improved 68 = .ok (.getfield 136, 3) := by decide +kernel
theorem dX6_improved_71 : decode cX6_improved 71 = .ok (.istore 5, 2) := by decide +kernel
theorem dX6_improved_73 : decode cX6_improved 73 = .ok (.aload_n 0, 1) := by decide +kernel
theorem dX6_improved_74 : decode cX6_improved 74 = .ok (.getfield 11, 3) := by decide +kernel
theorem dX6_improved_77 : decode cX6_improved 77 = .ok (.iload_n 2, 1) := by decide +kernel
theorem dX6_improved_78 : decode cX6_improved 78 = .ok (.aaload, 1) := by decide +kernel
theorem dX6_improved_79 : decode cX6_improved 79 = .ok (.getfield 99, 3) := by decide +kernel
theorem dX6_improved_82 : decode cX6_improved 82 = .ok (.iconst 0, 1) := by decide +kernel
theorem dX6_improved_83 : decode cX6_improved 83 = .ok (.aload_n 0, 1) := by decide +kernel
theorem dX6_improved_84 : decode cX6_improved 84 = .ok (.getfield 48, 3) := by decide +kernel
theorem dX6_improved_87 : decode cX6_improved 87 = .ok (.iconst 0, 1) := by decide +kernel
theorem dX6_improved_88 : decode cX6_improved 88 = .ok (.iload 5, 2) := by decide +kernel
theorem dX6_improved_90 : decode cX6_improved 90 = .ok (.invokestatic 113, 3) := by decide +kernel
theorem dX6_improved_93 : decode cX6_improved 93 = .ok (.aload_n 0, 1) := by decide +kernel
theorem dX6_improved_94 : decode cX6_improved 94 = .ok (.getfield 43, 3) := by decide +kernel
theorem dX6_improved_97 : decode cX6_improved 97 = .ok (.iload_n 1, 1) := by decide +kernel
theorem dX6_improved_98 : decode cX6_improved 98 = .ok (.aload_n 0, 1) := by decide +kernel
theorem dX6_improved_99 : decode cX6_improved 99 = .ok (.getfield 48, 3) := by decide +kernel
theorem dX6_improved_102 : decode cX6_improved 102 = .ok (.invokevirtual 190, 3) := by decide +kernel
theorem dX6_improved_105 : decode cX6_improved 105 = .ok (.istore 6, 2) := by decide +kernel
theorem dX6_improved_107 : decode cX6_improved 107 = .ok (.iconst 0, 1) := by decide +kernel
theorem dX6_improved_108 : decode cX6_improved 108 = .ok (.istore 7, 2) := by decide +kernel
theorem dX6_improved_110 : decode cX6_improved 110 = .ok (.iconst 0, 1) := by decide +kernel
theorem dX6_improved_111 : decode cX6_improved 111 = .ok (.istore 8, 2) := by decide +kernel
theorem dX6_improved_113 : decode cX6_improved 113 = .ok (.iload 8, 2) := by decide +kernel
theorem dX6_improved_115 : decode cX6_improved 115 = .ok (.ldc_w 361, 3) := by decide +kernel
theorem dX6_improved_118 : decode cX6_improved 118 = .ok (.if_icmp .ge 64, 3) := by decide +kernel
theorem dX6_improved_121 : decode cX6_improved 121 = .ok (.iload_n 3, 1) := by decide +kernel
theorem dX6_improved_122 : decode cX6_improved 122 = .ok (.ifCond .eq 13, 3) := by decide +kernel
theorem dX6_improved_125 : decode cX6_improved 125 = .ok (.aload_n 0, 1) := by decide +kernel
theorem dX6_improved_126 : decode cX6_improved 126 = .ok (.iload_n 1, 1) := by decide +kernel
theorem dX6_improved_127 : decode cX6_improved 127 = .ok (.iload 6, 2) := by decide +kernel
theorem dX6_improved_129 : decode cX6_improved 129 = .ok (.invokevirtual 362, 3) := by decide +kernel
theorem dX6_improved_132 : decode cX6_improved 132 = .ok (.goto 10, 3) := by decide +kernel
theorem dX6_improved_135 : decode cX6_improved 135 = .ok (.aload_n 0, 1) := by decide +kernel
theorem dX6_improved_136 : decode cX6_improved 136 = .ok (.iload_n 1, 1) := by decide +kernel
theorem dX6_improved_137 : decode cX6_improved 137 = .ok (.iload 6, 2) := by decide +kernel
theorem dX6_improved_139 : decode cX6_improved 139 = .ok (.invokevirtual 365, 3) := by decide +kernel
theorem dX6_improved_142 : decode cX6_improved 142 = .ok (.istore 9, 2) := by decide +kernel
theorem dX6_improved_144 : decode cX6_improved 144 = .ok (.iload 9, 2) := by decide +kernel
theorem dX6_improved_146 : decode cX6_improved 146 = .ok (.iload 6, 2) := by decide +kernel
theorem dX6_improved_148 : decode cX6_improved 148 = .ok (.if_icmp .lt 6, 3) := by decide +kernel
theorem dX6_improved_151 : decode cX6_improved 151 = .ok (.goto 31, 3) := by decide +kernel
theorem dX6_improved_154 : decode cX6_improved 154 = .ok (.aload_n 0, 1) := by decide +kernel
theorem dX6_improved_155 : decode cX6_improved 155 = .ok (.getfield 54, 3) := by decide +kernel
theorem dX6_improved_158 : decode cX6_improved 158 = .ok (.iconst 0, 1) := by decide +kernel
theorem dX6_improved_159 : decode cX6_improved 159 = .ok (.aload_n 0, 1) := by decide +kernel
theorem dX6_improved_160 : decode cX6_improved 160 = .ok (.getfield 48, 3) := by decide +kernel
theorem dX6_improved_163 : decode cX6_improved 163 = .ok (.iconst 0, 1) := by decide +kernel
theorem dX6_improved_164 : decode cX6_improved 164 = .ok (.iload 5, 2) := by decide +kernel
theorem dX6_improved_166 : decode cX6_improved 166 = .ok (.invokestatic 113, 3) := by decide +kernel
theorem dX6_improved_169 : decode cX6_improved 169 = .ok (.iload 9, 2) := by decide +kernel
theorem dX6_improved_171 : decode cX6_improved 171 = .ok (.istore 6, 2) := by decide +kernel
theorem dX6_improved_173 : decode cX6_improved 173 = .ok (.iinc 7 1, 3) := by decide +kernel
theorem dX6_improved_176 : decode cX6_improved 176 = .ok (.iinc 8 1, 3) := by decide +kernel
theorem dX6_improved_179 : decode cX6_improved 179 = .ok (.goto (-66), 3) := by decide +kernel
theorem dX6_improved_182 : decode cX6_improved 182 = .ok (.aload_n 0, 1) := by decide +kernel
theorem dX6_improved_183 : decode cX6_improved 183 = .ok (.getfield 48, 3) := by decide +kernel
theorem dX6_improved_186 : decode cX6_improved 186 = .ok (.iconst 0, 1) := by decide +kernel
theorem dX6_improved_187 : decode cX6_improved 187 = .ok (.aload_n 0, 1) := by decide +kernel
theorem dX6_improved_188 : decode cX6_improved 188 = .ok (.getfield 11, 3) := by decide +kernel
theorem dX6_improved_191 : decode cX6_improved 191 = .ok (.iload_n 2, 1) := by decide +kernel
theorem dX6_improved_192 : decode cX6_improved 192 = .ok (.aaload, 1) := by decide +kernel
theorem dX6_improved_193 : decode cX6_improved 193 = .ok (.getfield 99, 3) := by decide +kernel
theorem dX6_improved_196 : decode cX6_improved 196 = .ok (.iconst 0, 1) := by decide +kernel
theorem dX6_improved_197 : decode cX6_improved 197 = .ok (.iload 5, 2) := by decide +kernel
theorem dX6_improved_199 : decode cX6_improved 199 = .ok (.invokestatic 113, 3) := by decide +kernel
theorem dX6_improved_202 : decode cX6_improved 202 = .ok (.aload_n 0, 1) := by decide +kernel
theorem dX6_improved_203 : decode cX6_improved 203 = .ok (.iload 6, 2) := by decide +kernel
theorem dX6_improved_205 : decode cX6_improved 205 = .ok (.putfield 64, 3) := by decide +kernel
theorem dX6_improved_208 : decode cX6_improved 208 = .ok (.iload 7, 2) := by decide +kernel
theorem dX6_improved_210 : decode cX6_improved 210 = .ok (.ireturn, 1) := by decide +kernel
theorem dX6_bestSwap_0 : decode cX6_bestSwap 0 = .ok (.iload_n 2, 1) := by decide +kernel
theorem dX6_bestSwap_1 : decode cX6_bestSwap 1 = .ok (.istore_n 3, 1) := by decide +kernel
theorem dX6_bestSwap_2 : decode cX6_bestSwap 2 = .ok (.aload_n 0, 1) := by decide +kernel
theorem dX6_bestSwap_3 : decode cX6_bestSwap 3 = .ok (.getfield 43, 3) := by decide +kernel
theorem dX6_bestSwap_6 : decode cX6_bestSwap 6 = .ok (.getfield 136, 3) := by decide +kernel
theorem dX6_bestSwap_9 : decode cX6_bestSwap 9 = .ok (.istore 4, 2) := by decide +kernel
theorem dX6_bestSwap_11 : decode cX6_bestSwap 11 = .ok (.iconst 0, 1) := by decide +kernel
theorem dX6_bestSwap_12 : decode cX6_bestSwap 12 = .ok (.istore 5, 2) := by decide +kernel
theorem dX6_bestSwap_14 : decode cX6_bestSwap 14 = .ok (.iload 5, 2) := by decide +kernel
theorem dX6_bestSwap_16 : decode cX6_bestSwap 16 = .ok (.iconst 1, 1) := by decide +kernel
theorem dX6_bestSwap_17 : decode cX6_bestSwap 17 = .ok (.iadd, 1) := by decide +kernel
theorem dX6_bestSwap_18 : decode cX6_bestSwap 18 = .ok (.iload 4, 2) := by decide +kernel
theorem dX6_bestSwap_20 : decode cX6_bestSwap 20 = .ok (.if_icmp .ge 63, 3) := by decide +kernel
theorem dX6_bestSwap_23 : decode cX6_bestSwap 23 = .ok (.aload_n 0, 1) := by decide +kernel
theorem dX6_bestSwap_24 : decode cX6_bestSwap 24 = .ok (.getfield 48, 3) := by decide +kernel
theorem dX6_bestSwap_27 : decode cX6_bestSwap 27 = .ok (.iconst 0, 1) := by decide +kernel
theorem dX6_bestSwap_28 : decode cX6_bestSwap 28 = .ok (.aload_n 0, 1) := by decide +kernel
theorem dX6_bestSwap_29 : decode cX6_bestSwap 29 = .ok (.getfield 51, 3) := by decide +kernel
theorem dX6_bestSwap_32 : decode cX6_bestSwap 32 = .ok (.iconst 0, 1) := by decide +kernel
theorem dX6_bestSwap_33 : decode cX6_bestSwap 33 = .ok (.iload 4, 2) := by decide +kernel
theorem dX6_bestSwap_35 : decode cX6_bestSwap 35 = .ok (.invokestatic 113, 3) := by decide +kernel
theorem dX6_bestSwap_38 : decode cX6_bestSwap 38 = .ok (.aload_n 0, 1) := by decide +kernel
theorem dX6_bestSwap_39 : decode cX6_bestSwap 39 = .ok (.getfield 51, 3) := by decide +kernel
theorem dX6_bestSwap_42 : decode cX6_bestSwap 42 = .ok (.iload 5, 2) := by decide +kernel
theorem dX6_bestSwap_44 : decode cX6_bestSwap 44 = .ok (.aload_n 0, 1) := by decide +kernel
theorem dX6_bestSwap_45 : decode cX6_bestSwap 45 = .ok (.getfield 48, 3) := by decide +kernel
theorem dX6_bestSwap_48 : decode cX6_bestSwap 48 = .ok (.iload 5, 2) := by decide +kernel
theorem dX6_bestSwap_50 : decode cX6_bestSwap 50 = .ok (.iconst 1, 1) := by decide +kernel
theorem dX6_bestSwap_51 : decode cX6_bestSwap 51 = .ok (.iadd, 1) := by decide +kernel
theorem dX6_bestSwap_52 : decode cX6_bestSwap 52 = .ok (.iaload, 1) := by decide +kernel
theorem dX6_bestSwap_53 : decode cX6_bestSwap 53 = .ok (.iastore, 1) := by decide +kernel
theorem dX6_bestSwap_54 : decode cX6_bestSwap 54 = .ok (.aload_n 0, 1) := by decide +kernel
theorem dX6_bestSwap_55 : decode cX6_bestSwap 55 = .ok (.getfield 51, 3) := by decide +kernel
theorem dX6_bestSwap_58 : decode cX6_bestSwap 58 = .ok (.iload 5, 2) := by decide +kernel
theorem dX6_bestSwap_60 : decode cX6_bestSwap 60 = .ok (.iconst 1, 1) := by decide +kernel
theorem dX6_bestSwap_61 : decode cX6_bestSwap 61 = .ok (.iadd, 1) := by decide +kernel
theorem dX6_bestSwap_62 : decode cX6_bestSwap 62 = .ok (.aload_n 0, 1) := by decide +kernel
theorem dX6_bestSwap_63 : decode cX6_bestSwap 63 = .ok (.getfield 48, 3) := by decide +kernel
theorem dX6_bestSwap_66 : decode cX6_bestSwap 66 = .ok (.iload 5, 2) := by decide +kernel
theorem dX6_bestSwap_68 : decode cX6_bestSwap 68 = .ok (.iaload, 1) := by decide +kernel
theorem dX6_bestSwap_69 : decode cX6_bestSwap 69 = .ok (.iastore, 1) := by decide +kernel
theorem dX6_bestSwap_70 : decode cX6_bestSwap 70 = .ok (.aload_n 0, 1) := by decide +kernel
theorem dX6_bestSwap_71 : decode cX6_bestSwap 71 = .ok (.iload_n 1, 1) := by decide +kernel
theorem dX6_bestSwap_72 : decode cX6_bestSwap 72 = .ok (.iload_n 3, 1) := by decide +kernel
theorem dX6_bestSwap_73 : decode cX6_bestSwap 73 = .ok (.invokevirtual 368, 3) := by decide +kernel
theorem dX6_bestSwap_76 : decode cX6_bestSwap 76 = .ok (.istore_n 3, 1) := by decide +kernel
theorem dX6_bestSwap_77 : decode cX6_bestSwap 77 = .ok (.iinc 5 1, 3) := by decide +kernel
theorem dX6_bestSwap_80 : decode cX6_bestSwap 80 = .ok (.goto (-66), 3) := by decide +kernel
theorem dX6_bestSwap_83 : decode cX6_bestSwap 83 = .ok (.iload_n 3, 1) := by decide +kernel
theorem dX6_bestSwap_84 : decode cX6_bestSwap 84 = .ok (.ireturn, 1) := by decide +kernel
theorem dX6_bestMove_0 : decode cX6_bestMove 0 = .ok (.iload_n 2, 1) := by decide +kernel
theorem dX6_bestMove_1 : decode cX6_bestMove 1 = .ok (.istore_n 3, 1) := by decide +kernel
theorem dX6_bestMove_2 : decode cX6_bestMove 2 = .ok (.iconst 0, 1) := by decide +kernel
theorem dX6_bestMove_3 : decode cX6_bestMove 3 = .ok (.istore 4, 2) := by decide +kernel
theorem dX6_bestMove_5 : decode cX6_bestMove 5 = .ok (.iload 4, 2) := by decide +kernel
theorem dX6_bestMove_7 : decode cX6_bestMove 7 = .ok (.aload_n 0, 1) := by decide +kernel
theorem dX6_bestMove_8 : decode cX6_bestMove 8 = .ok (.getfield 43, 3) := by decide +kernel
theorem dX6_bestMove_11 : decode cX6_bestMove 11 = .ok (.getfield 136, 3) := by decide +kernel
theorem dX6_bestMove_14 : decode cX6_bestMove 14 = .ok (.if_icmp .ge 57, 3) := by decide +kernel
theorem dX6_bestMove_17 : decode cX6_bestMove 17 = .ok (.iconst 0, 1) := by decide +kernel
theorem dX6_bestMove_18 : decode cX6_bestMove 18 = .ok (.istore 5, 2) := by decide +kernel
theorem dX6_bestMove_20 : decode cX6_bestMove 20 = .ok (.iload 5, 2) := by decide +kernel
theorem dX6_bestMove_22 : decode cX6_bestMove 22 = .ok (.aload_n 0, 1) := by decide +kernel
theorem dX6_bestMove_23 : decode cX6_bestMove 23 = .ok (.getfield 43, 3) := by decide +kernel
theorem dX6_bestMove_26 : decode cX6_bestMove 26 = .ok (.getfield 136, 3) := by decide +kernel
theorem dX6_bestMove_29 : decode cX6_bestMove 29 = .ok (.if_icmp .ge 36, 3) := by decide +kernel
theorem dX6_bestMove_32 : decode cX6_bestMove 32 = .ok (.aload_n 0, 1) := by decide +kernel
theorem dX6_bestMove_33 : decode cX6_bestMove 33 = .ok (.getfield 48, 3) := by decide +kernel
theorem dX6_bestMove_36 : decode cX6_bestMove 36 = .ok (.iload 5, 2) := by decide +kernel
theorem dX6_bestMove_38 : decode cX6_bestMove 38 = .ok (.iaload, 1) := by decide +kernel
theorem dX6_bestMove_39 : decode cX6_bestMove 39 = .ok (.iload 4, 2) := by decide +kernel
theorem dX6_bestMove_41 : decode cX6_bestMove 41 = .ok (.if_icmp .eq 18, 3) := by decide +kernel
theorem dX6_bestMove_44 : decode cX6_bestMove 44 = .ok (.aload_n 0, 1) := by decide +kernel
theorem dX6_bestMove_45 : decode cX6_bestMove 45 = .ok (.iload 4, 2) := by decide +kernel
theorem dX6_bestMove_47 : decode cX6_bestMove 47 = .ok (.iload 5, 2) := by decide +kernel
theorem dX6_bestMove_49 : decode cX6_bestMove 49 = .ok (.invokevirtual 371, 3) := by decide +kernel
theorem dX6_bestMove_52 : decode cX6_bestMove 52 = .ok (.aload_n 0, 1) := by decide +kernel
theorem dX6_bestMove_53 : decode cX6_bestMove 53 = .ok (.iload_n 1, 1) := by decide +kernel
theorem dX6_bestMove_54 : decode cX6_bestMove 54 = .ok (.iload_n 3, 1) := by decide +kernel
theorem dX6_bestMove_55 : decode cX6_bestMove 55 = .ok (.invokevirtual 368, 3) := by decide +kernel
theorem dX6_bestMove_58 : decode cX6_bestMove 58 = .ok (.istore_n 3, 1) := by decide +kernel
theorem dX6_bestMove_59 : decode cX6_bestMove 59 = .ok (.iinc 5 1, 3) := by decide +kernel
theorem dX6_bestMove_62 : decode cX6_bestMove 62 = .ok (.goto (-42), 3) := by decide +kernel
theorem dX6_bestMove_65 : decode cX6_bestMove 65 = .ok (.iinc 4 1, 3) := by decide +kernel
theorem dX6_bestMove_68 : decode cX6_bestMove 68 = .ok (.goto (-63), 3) := by decide +kernel
theorem dX6_bestMove_71 : decode cX6_bestMove 71 = .ok (.iload_n 3, 1) := by decide +kernel
theorem dX6_bestMove_72 : decode cX6_bestMove 72 = .ok (.ireturn, 1) := by decide +kernel
theorem dX6_moveInto_0 : decode cX6_moveInto 0 = .ok (.iconst 0, 1) := by decide +kernel
theorem dX6_moveInto_1 : decode cX6_moveInto 1 = .ok (.istore_n 3, 1) := by decide +kernel
theorem dX6_moveInto_2 : decode cX6_moveInto 2 = .ok (.iconst 0, 1) := by decide +kernel
theorem dX6_moveInto_3 : decode cX6_moveInto 3 = .ok (.istore 4, 2) := by decide +kernel
theorem dX6_moveInto_5 : decode cX6_moveInto 5 = .ok (.iload 4, 2) := by decide +kernel
theorem dX6_moveInto_7 : decode cX6_moveInto 7 = .ok (.aload_n 0, 1) := by decide +kernel
theorem dX6_moveInto_8 : decode cX6_moveInto 8 = .ok (.getfield 43, 3) := by decide +kernel
theorem dX6_moveInto_11 : decode cX6_moveInto 11 = .ok (.getfield 136, 3) := by decide +kernel
theorem dX6_moveInto_14 : decode cX6_moveInto 14 = .ok (.if_icmp .ge 44, 3) := by decide +kernel
theorem dX6_moveInto_17 : decode cX6_moveInto 17 = .ok (.aload_n 0, 1) := by decide +kernel
theorem dX6_moveInto_18 : decode cX6_moveInto 18 = .ok (.getfield 48, 3) := by decide +kernel
theorem dX6_moveInto_21 : decode cX6_moveInto 21 = .ok (.iload 4, 2) := by decide +kernel
theorem dX6_moveInto_23 : decode cX6_moveInto 23 = .ok (.iaload, 1) := by decide +kernel
theorem dX6_moveInto_24 : decode cX6_moveInto 24 = .ok (.iload_n 1, 1) := by decide +kernel
theorem dX6_moveInto_25 : decode cX6_moveInto 25 = .ok (.if_icmp .eq 27, 3) := by decide +kernel
theorem dX6_moveInto_28 : decode cX6_moveInto 28 = .ok (.iload_n 3, 1) := by decide +kernel
theorem dX6_moveInto_29 : decode cX6_moveInto 29 = .ok (.iload_n 2, 1) := by decide +kernel
theorem dX6_moveInto_30 : decode cX6_moveInto 30 = .ok (.if_icmp .ne 6, 3) := by decide +kernel
theorem dX6_moveInto_33 : decode cX6_moveInto 33 = .ok (.iinc 3 1, 3) := by decide +kernel
theorem dX6_moveInto_36 : decode cX6_moveInto 36 = .ok (.aload_n 0, 1) := by decide +kernel
theorem dX6_moveInto_37 : decode cX6_moveInto 37 = .ok (.getfield 51, 3) := by decide +kernel
theorem dX6_moveInto_40 : decode cX6_moveInto 40 = .ok (.iload_n 3, 1) := by decide +kernel
theorem dX6_moveInto_41 : decode cX6_moveInto 41 = .ok (.aload_n 0, 1) := by decide +kernel
theorem dX6_moveInto_42 : decode cX6_moveInto 42 = .ok (.getfield 48, 3) := by decide +kernel
theorem dX6_moveInto_45 : decode cX6_moveInto 45 = .ok (.iload 4, 2) := by decide +kernel
theorem dX6_moveInto_47 : decode cX6_moveInto 47 = .ok (.iaload, 1) := by decide +kernel
theorem dX6_moveInto_48 : decode cX6_moveInto 48 = .ok (.iastore, 1) := by decide +kernel
theorem dX6_moveInto_49 : decode cX6_moveInto 49 = .ok (.iinc 3 1, 3) := by decide +kernel
theorem dX6_moveInto_52 : decode cX6_moveInto 52 = .ok (.iinc 4 1, 3) := by decide +kernel
theorem dX6_moveInto_55 : decode cX6_moveInto 55 = .ok (.goto (-50), 3) := by decide +kernel
theorem dX6_moveInto_58 : decode cX6_moveInto 58 = .ok (.aload_n 0, 1) := by decide +kernel
theorem dX6_moveInto_59 : decode cX6_moveInto 59 = .ok (.getfield 51, 3) := by decide +kernel
theorem dX6_moveInto_62 : decode cX6_moveInto 62 = .ok (.iload_n 2, 1) := by decide +kernel
theorem dX6_moveInto_63 : decode cX6_moveInto 63 = .ok (.iload_n 1, 1) := by decide +kernel
theorem dX6_moveInto_64 : decode cX6_moveInto 64 = .ok (.iastore, 1) := by decide +kernel
theorem dX6_moveInto_65 : decode cX6_moveInto 65 = .ok (.return_, 1) := by decide +kernel
theorem dX6_keepIfBetter_0 : decode cX6_keepIfBetter 0 = .ok (.aload_n 0, 1) := by decide +kernel
theorem dX6_keepIfBetter_1 : decode cX6_keepIfBetter 1 = .ok (.getfield 43, 3) := by decide +kernel
theorem dX6_keepIfBetter_4 : decode cX6_keepIfBetter 4 = .ok (.aload_n 0, 1) := by decide +kernel
theorem dX6_keepIfBetter_5 : decode cX6_keepIfBetter 5 = .ok (.getfield 51, 3) := by decide +kernel
theorem dX6_keepIfBetter_8 : decode cX6_keepIfBetter 8 = .ok (.invokevirtual 194, 3) := by decide +kernel
theorem dX6_keepIfBetter_11 : decode cX6_keepIfBetter 11 = .ok (.bipush (-9), 2) := by decide +kernel
theorem dX6_keepIfBetter_13 : decode cX6_keepIfBetter 13 = .ok (.if_icmp .eq 5, 3) := by decide +kernel
theorem dX6_keepIfBetter_16 : decode cX6_keepIfBetter 16 = .ok (.iload_n 2, 1) := by decide +kernel
theorem dX6_keepIfBetter_17 : decode cX6_keepIfBetter 17 = .ok (.ireturn, 1) := by decide +kernel
theorem dX6_keepIfBetter_18 : decode cX6_keepIfBetter 18 = .ok (.aload_n 0, 1) := by decide +kernel
theorem dX6_keepIfBetter_19 : decode cX6_keepIfBetter 19 = .ok (.getfield 43, 3) := by decide +kernel
theorem dX6_keepIfBetter_22 : decode cX6_keepIfBetter 22 = .ok (.iload_n 1, 1) := by decide +kernel
theorem dX6_keepIfBetter_23 : decode cX6_keepIfBetter 23 = .ok (.aload_n 0, 1) := by decide +kernel
theorem dX6_keepIfBetter_24 : decode cX6_keepIfBetter 24 = .ok (.getfield 51, 3) := by decide +kernel
theorem dX6_keepIfBetter_27 : decode cX6_keepIfBetter 27 = .ok (.invokevirtual 190, 3) := by decide +kernel
theorem dX6_keepIfBetter_30 : decode cX6_keepIfBetter 30 = .ok (.istore_n 3, 1) := by decide +kernel
theorem dX6_keepIfBetter_31 : decode cX6_keepIfBetter 31 = .ok (.iload_n 3, 1) := by decide +kernel
theorem dX6_keepIfBetter_32 : decode cX6_keepIfBetter 32 = .ok (.iload_n 2, 1) := by decide +kernel
theorem dX6_keepIfBetter_33 : decode cX6_keepIfBetter 33 = .ok (.if_icmp .lt 5, 3) := by decide +kernel
theorem dX6_keepIfBetter_36 : decode cX6_keepIfBetter 36 = .ok (.iload_n 2, 1) := by decide +kernel
theorem dX6_keepIfBetter_37 : decode cX6_keepIfBetter 37 = .ok (.ireturn, 1) := by decide +kernel
theorem dX6_keepIfBetter_38 : decode cX6_keepIfBetter 38 = .ok (.aload_n 0, 1) := by decide +kernel
theorem dX6_keepIfBetter_39 : decode cX6_keepIfBetter 39 = .ok (.getfield 51, 3) := by decide +kernel
theorem dX6_keepIfBetter_42 : decode cX6_keepIfBetter 42 = .ok (.iconst 0, 1) := by decide +kernel
theorem dX6_keepIfBetter_43 : decode cX6_keepIfBetter 43 = .ok (.aload_n 0, 1) := by decide +kernel
theorem dX6_keepIfBetter_44 : decode cX6_keepIfBetter 44 = .ok (.getfield 54, 3) := by decide +kernel
theorem dX6_keepIfBetter_47 : decode cX6_keepIfBetter 47 = .ok (.iconst 0, 1) := by decide +kernel
theorem dX6_keepIfBetter_48 : decode cX6_keepIfBetter 48 = .ok (.aload_n 0, 1) := by decide +kernel
theorem dX6_keepIfBetter_49 : decode cX6_keepIfBetter 49 = .ok (.getfield 43, 3) := by decide +kernel
theorem dX6_keepIfBetter_52 : decode cX6_keepIfBetter 52 = .ok (.getfield 136, 3) := by decide +kernel
theorem dX6_keepIfBetter_55 : decode cX6_keepIfBetter 55 = .ok (.invokestatic 113, 3) := by decide +kernel
theorem dX6_keepIfBetter_58 : decode cX6_keepIfBetter 58 = .ok (.iload_n 3, 1) := by decide +kernel
theorem dX6_keepIfBetter_59 : decode cX6_keepIfBetter 59 = .ok (.ireturn, 1) := by decide +kernel
theorem dX7_init_0 : decode cX7_init 0 = .ok (.aload_n 0, 1) := by decide +kernel
theorem dX7_init_1 : decode cX7_init 1 = .ok (.invokespecial 1, 3) := by decide +kernel
theorem dX7_init_4 : decode cX7_init 4 = .ok (.aload_n 0, 1) := by decide +kernel
theorem dX7_init_5 : decode cX7_init 5 = .ok (.bipush 6, 2) := by decide +kernel
theorem dX7_init_7 : decode cX7_init 7 = .ok (.newarray .int, 2) := by decide +kernel
theorem dX7_init_9 : decode cX7_init 9 = .ok (.putfield 7, 3) := by decide +kernel
theorem dX7_init_12 : decode cX7_init 12 = .ok (.aload_n 0, 1) := by decide +kernel
theorem dX7_init_13 : decode cX7_init 13 = .ok (.bipush 6, 2) := by decide +kernel
theorem dX7_init_15 : decode cX7_init 15 = .ok (.newarray .int, 2) := by decide +kernel
theorem dX7_init_17 : decode cX7_init 17 = .ok (.putfield 13, 3) := by decide +kernel
theorem dX7_init_20 : decode cX7_init 20 = .ok (.aload_n 0, 1) := by decide +kernel
theorem dX7_init_21 : decode cX7_init 21 = .ok (.sipush 360, 3) := by decide +kernel
theorem dX7_init_24 : decode cX7_init 24 = .ok (.newarray .int, 2) := by decide +kernel
theorem dX7_init_26 : decode cX7_init 26 = .ok (.putfield 16, 3) := by decide +kernel
theorem dX7_init_29 : decode cX7_init 29 = .ok (.aload_n 0, 1) := by decide +kernel
theorem dX7_init_30 : decode cX7_init 30 = .ok (.bipush 60, 2) := by decide +kernel
theorem dX7_init_32 : decode cX7_init 32 = .ok (.newarray .int, 2) := by decide +kernel
theorem dX7_init_34 : decode cX7_init 34 = .ok (.putfield 19, 3) := by decide +kernel
theorem dX7_init_37 : decode cX7_init 37 = .ok (.aload_n 0, 1) := by decide +kernel
theorem dX7_init_38 : decode cX7_init 38 = .ok (.iconst 4, 1) := by decide +kernel
theorem dX7_init_39 : decode cX7_init 39 = .ok (.newarray .int, 2) := by decide +kernel
theorem dX7_init_41 : decode cX7_init 41 = .ok (.putfield 22, 3) := by decide +kernel
theorem dX7_init_44 : decode cX7_init 44 = .ok (.aload_n 0, 1) := by decide +kernel
theorem dX7_init_45 : decode cX7_init 45 = .ok (.sipush 480, 3) := by decide +kernel
theorem dX7_init_48 : decode cX7_init 48 = .ok (.newarray .byte, 2) := by decide +kernel
theorem dX7_init_50 : decode cX7_init 50 = .ok (.putfield 25, 3) := by decide +kernel
theorem dX7_init_53 : decode cX7_init 53 = .ok (.aload_n 0, 1) := by decide +kernel
theorem dX7_init_54 : decode cX7_init 54 = .ok (.bipush 100, 2) := by decide +kernel
theorem dX7_init_56 : decode cX7_init 56 = .ok (.newarray .int, 2) := by decide +kernel
theorem dX7_init_58 : decode cX7_init 58 = .ok (.putfield 29, 3) := by decide +kernel
theorem dX7_init_61 : decode cX7_init 61 = .ok (.aload_n 0, 1) := by decide +kernel
theorem dX7_init_62 : decode cX7_init 62 = .ok (.bipush 40, 2) := by decide +kernel
theorem dX7_init_64 : decode cX7_init 64 = .ok (.newarray .int, 2) := by decide +kernel
theorem dX7_init_66 : decode cX7_init 66 = .ok (.putfield 32, 3) := by decide +kernel
theorem dX7_init_69 : decode cX7_init 69 = .ok (.aload_n 0, 1) := by decide +kernel
theorem dX7_init_70 : decode cX7_init 70 = .ok (.bipush 100, 2) := by decide +kernel
theorem dX7_init_72 : decode cX7_init 72 = .ok (.newarray .int, 2) := by decide +kernel
theorem dX7_init_74 : decode cX7_init 74 = .ok (.putfield 35, 3) := by decide +kernel
theorem dX7_init_77 : decode cX7_init 77 = .ok (.aload_n 0, 1) := by decide +kernel
theorem dX7_init_78 : decode cX7_init 78 = .ok (.bipush 40, 2) := by decide +kernel
theorem dX7_init_80 : decode cX7_init 80 = .ok (.newarray .int, 2) := by decide +kernel
theorem dX7_init_82 : decode cX7_init 82 = .ok (.putfield 38, 3) := by decide +kernel
theorem dX7_init_85 : decode cX7_init 85 = .ok (.aload_n 0, 1) := by decide +kernel
theorem dX7_init_86 : decode cX7_init 86 = .ok (.bipush 10, 2) := by decide +kernel
theorem dX7_init_88 : decode cX7_init 88 = .ok (.newarray .int, 2) := by decide +kernel
theorem dX7_init_90 : decode cX7_init 90 = .ok (.putfield 41, 3) := by decide +kernel
theorem dX7_init_93 : decode cX7_init 93 = .ok (.aload_n 0, 1) := by decide +kernel
theorem dX7_init_94 : decode cX7_init 94 = .ok (.bipush 10, 2) := by decide +kernel
theorem dX7_init_96 : decode cX7_init 96 = .ok (.newarray .int, 2) := by decide +kernel
theorem dX7_init_98 : decode cX7_init 98 = .ok (.putfield 44, 3) := by decide +kernel
theorem dX7_init_101 : decode cX7_init 101 = .ok (.aload_n 0, 1) := by decide +kernel
theorem dX7_init_102 : decode cX7_init 102 = .ok (.sipush 1024, 3) := by decide +kernel
theorem dX7_init_105 : decode cX7_init 105 = .ok (.newarray .int, 2) := by decide +kernel
theorem dX7_init_107 : decode cX7_init 107 = .ok (.putfield 47, 3) := by decide +kernel
theorem dX7_init_110 : decode cX7_init 110 = .ok (.aload_n 0, 1) := by decide +kernel
theorem dX7_init_111 : decode cX7_init 111 = .ok (.sipush 1024, 3) := by decide +kernel
theorem dX7_init_114 : decode cX7_init 114 = .ok (.newarray .int, 2) := by decide +kernel
theorem dX7_init_116 : decode cX7_init 116 = .ok (.putfield 50, 3) := by decide +kernel
theorem dX7_init_119 : decode cX7_init 119 = .ok (.aload_n 0, 1) := by decide +kernel
theorem dX7_init_120 : decode cX7_init 120 = .ok (.sipush 10240, 3) := by decide +kernel
theorem dX7_init_123 : decode cX7_init 123 = .ok (.newarray .int, 2) := by decide +kernel
theorem dX7_init_125 : decode cX7_init 125 = .ok (.putfield 53, 3) := by decide +kernel
theorem dX7_init_128 : decode cX7_init 128 = .ok (.aload_n 0, 1) := by decide +kernel
theorem dX7_init_129 : decode cX7_init 129 = .ok (.sipush 10240, 3) := by decide +kernel
theorem dX7_init_132 : decode cX7_init 132 = .ok (.newarray .int, 2) := by decide +kernel
theorem dX7_init_134 : decode cX7_init 134 = .ok (.putfield 56, 3) := by decide +kernel
theorem dX7_init_137 : decode cX7_init 137 = .ok (.aload_n 0, 1) := by decide +kernel
theorem dX7_init_138 : decode cX7_init 138 = .ok (.sipush 10240, 3) := by decide +kernel
theorem dX7_init_141 : decode cX7_init 141 = .ok (.newarray .int, 2) := by decide +kernel
theorem dX7_init_143 : decode cX7_init 143 = .ok (.putfield 59, 3) := by decide +kernel
theorem dX7_init_146 : decode cX7_init 146 = .ok (.aload_n 0, 1) := by decide +kernel
theorem dX7_init_147 : decode cX7_init 147 = .ok (.bipush 10, 2) := by decide +kernel
theorem dX7_init_149 : decode cX7_init 149 = .ok (.newarray .int, 2) := by decide +kernel
theorem dX7_init_151 : decode cX7_init 151 = .ok (.putfield 62, 3) := by decide +kernel
theorem dX7_init_154 : decode cX7_init 154 = .ok (.aload_n 0, 1) := by decide +kernel
theorem dX7_init_155 : decode cX7_init 155 = .ok (.bipush 10, 2) := by decide +kernel
theorem dX7_init_157 : decode cX7_init 157 = .ok (.newarray .int, 2) := by decide +kernel
theorem dX7_init_159 : decode cX7_init 159 = .ok (.putfield 65, 3) := by decide +kernel
theorem dX7_init_162 : decode cX7_init 162 = .ok (.aload_n 0, 1) := by decide +kernel
theorem dX7_init_163 : decode cX7_init 163 = .ok (.bipush 10, 2) := by decide +kernel
theorem dX7_init_165 : decode cX7_init 165 = .ok (.newarray .int, 2) := by decide +kernel
theorem dX7_init_167 : decode cX7_init 167 = .ok (.putfield 68, 3) := by decide +kernel
theorem dX7_init_170 : decode cX7_init 170 = .ok (.aload_n 0, 1) := by decide +kernel
theorem dX7_init_171 : decode cX7_init 171 = .ok (.sipush 10240, 3) := by decide +kernel
theorem dX7_init_174 : decode cX7_init 174 = .ok (.newarray .int, 2) := by decide +kernel
theorem dX7_init_176 : decode cX7_init 176 = .ok (.putfield 71, 3) := by decide +kernel
theorem dX7_init_179 : decode cX7_init 179 = .ok (.aload_n 0, 1) := by decide +kernel
theorem dX7_init_180 : decode cX7_init 180 = .ok (.sipush 10240, 3) := by decide +kernel
theorem dX7_init_183 : decode cX7_init 183 = .ok (.newarray .int, 2) := by decide +kernel
theorem dX7_init_185 : decode cX7_init 185 = .ok (.putfield 74, 3) := by decide +kernel
theorem dX7_init_188 : decode cX7_init 188 = .ok (.aload_n 0, 1) := by decide +kernel
theorem dX7_init_189 : decode cX7_init 189 = .ok (.sipush 10240, 3) := by decide +kernel
theorem dX7_init_192 : decode cX7_init 192 = .ok (.newarray .boolean, 2) := by decide +kernel
theorem dX7_init_194 : decode cX7_init 194 = .ok (.putfield 77, 3) := by decide +kernel
theorem dX7_init_197 : decode cX7_init 197 = .ok (.aload_n 0, 1) := by decide +kernel
theorem dX7_init_198 : decode cX7_init 198 = .ok (.lconst 1, 1) := by decide +kernel
theorem dX7_init_199 : decode cX7_init 199 = .ok (.putfield 81, 3) := by decide +kernel
theorem dX7_init_202 : decode cX7_init 202 = .ok (.aload_n 0, 1) := by decide +kernel
theorem dX7_init_203 : decode cX7_init 203 = .ok (.bipush (-9), 2) := by decide +kernel
theorem dX7_init_205 : decode cX7_init 205 = .ok (.putfield 85, 3) := by decide +kernel
theorem dX7_init_208 : decode cX7_init 208 = .ok (.iconst 0, 1) := by decide +kernel
theorem dX7_init_209 : decode cX7_init 209 = .ok (.istore_n 1, 1) := by decide +kernel
theorem dX7_init_210 : decode cX7_init 210 = .ok (.iload_n 1, 1) := by decide +kernel
theorem dX7_init_211 : decode cX7_init 211 = .ok (.bipush 6, 2) := by decide +kernel
theorem dX7_init_213 : decode cX7_init 213 = .ok (.if_icmp .ge 16, 3) := by decide +kernel
theorem dX7_init_216 : decode cX7_init 216 = .ok (.aload_n 0, 1) := by decide +kernel
theorem dX7_init_217 : decode cX7_init 217 = .ok (.getfield 13, 3) := by decide +kernel
theorem dX7_init_220 : decode cX7_init 220 = .ok (.iload_n 1, 1) := by decide +kernel
theorem dX7_init_221 : decode cX7_init 221 = .ok (.iconst (-1), 1) := by decide +kernel
theorem dX7_init_222 : decode cX7_init 222 = .ok (.iastore, 1) := by decide +kernel
theorem dX7_init_223 : decode cX7_init 223 = .ok (.iinc 1 1, 3) := by decide +kernel
theorem dX7_init_226 : decode cX7_init 226 = .ok (.goto (-16), 3) := by decide +kernel
theorem dX7_init_229 : decode cX7_init 229 = .ok (.iconst 0, 1) := by decide +kernel
theorem dX7_init_230 : decode cX7_init 230 = .ok (.istore_n 1, 1) := by decide +kernel
theorem dX7_init_231 : decode cX7_init 231 = .ok (.iload_n 1, 1) := by decide +kernel
theorem dX7_init_232 : decode cX7_init 232 = .ok (.iconst 4, 1) := by decide +kernel
theorem dX7_init_233 : decode cX7_init 233 = .ok (.if_icmp .ge 16, 3) := by decide +kernel
theorem dX7_init_236 : decode cX7_init 236 = .ok (.aload_n 0, 1) := by decide +kernel
theorem dX7_init_237 : decode cX7_init 237 = .ok (.getfield 22, 3) := by decide +kernel
theorem dX7_init_240 : decode cX7_init 240 = .ok (.iload_n 1, 1) := by decide +kernel
theorem dX7_init_241 : decode cX7_init 241 = .ok (.iconst (-1), 1) := by decide +kernel
theorem dX7_init_242 : decode cX7_init 242 = .ok (.iastore, 1) := by decide +kernel
theorem dX7_init_243 : decode cX7_init 243 = .ok (.iinc 1 1, 3) := by decide +kernel
theorem dX7_init_246 : decode cX7_init 246 = .ok (.goto (-15), 3) := by decide +kernel
theorem dX7_init_249 : decode cX7_init 249 = .ok (.return_, 1) := by decide +kernel
theorem dX7_in_0 : decode cX7_in 0 = .ok (.iload_n 0, 1) := by decide +kernel
theorem dX7_in_1 : decode cX7_in 1 = .ok (.iload_n 1, 1) := by decide +kernel
theorem dX7_in_2 : decode cX7_in 2 = .ok (.if_icmp .lt 12, 3) := by decide +kernel
theorem dX7_in_5 : decode cX7_in 5 = .ok (.iload_n 0, 1) := by decide +kernel
theorem dX7_in_6 : decode cX7_in 6 = .ok (.iload_n 2, 1) := by decide +kernel
theorem dX7_in_7 : decode cX7_in 7 = .ok (.if_icmp .gt 7, 3) := by decide +kernel
theorem dX7_in_10 : decode cX7_in 10 = .ok (.iconst 1, 1) := by decide +kernel
theorem dX7_in_11 : decode cX7_in 11 = .ok (.goto 4, 3) := by decide +kernel
theorem dX7_in_14 : decode cX7_in 14 = .ok (.iconst 0, 1) := by decide +kernel
theorem dX7_in_15 : decode cX7_in 15 = .ok (.ireturn, 1) := by decide +kernel
theorem dX7_has_0 : decode cX7_has 0 = .ok (.iload_n 0, 1) := by decide +kernel
theorem dX7_has_1 : decode cX7_has 1 = .ok (.iload_n 1, 1) := by decide +kernel
theorem dX7_has_2 : decode cX7_has 2 = .ok (.ishr, 1) := by decide +kernel
theorem dX7_has_3 : decode cX7_has 3 = .ok (.iconst 1, 1) := by decide +kernel
theorem dX7_has_4 : decode cX7_has 4 = .ok (.iand, 1) := by decide +kernel
theorem dX7_has_5 : decode cX7_has 5 = .ok (.iconst 1, 1) := by decide +kernel
theorem dX7_has_6 : decode cX7_has 6 = .ok (.if_icmp .ne 7, 3) := by decide +kernel
theorem dX7_has_9 : decode cX7_has 9 = .ok (.iconst 1, 1) := by decide +kernel
theorem dX7_has_10 : decode cX7_has 10 = .ok (.goto 4, 3) := by decide +kernel
theorem dX7_has_13 : decode cX7_has 13 = .ok (.iconst 0, 1) := by decide +kernel
theorem dX7_has_14 : decode cX7_has 14 = .ok (.ireturn, 1) := by decide +kernel
theorem dX7_bits_0 : decode cX7_bits 0 = .ok (.iconst 0, 1) := by decide +kernel
theorem dX7_bits_1 : decode cX7_bits 1 = .ok (.istore_n 1, 1) := by decide +kernel
theorem dX7_bits_2 : decode cX7_bits 2 = .ok (.iload_n 0, 1) := by decide +kernel
theorem dX7_bits_3 : decode cX7_bits 3 = .ok (.istore_n 2, 1) := by decide +kernel
theorem dX7_bits_4 : decode cX7_bits 4 = .ok (.iload_n 2, 1) := by decide +kernel
theorem dX7_bits_5 : decode cX7_bits 5 = .ok (.ifCond .eq 15, 3) := by decide +kernel
theorem dX7_bits_8 : decode cX7_bits 8 = .ok (.iinc 1 1, 3) := by decide +kernel
theorem dX7_bits_11 : decode cX7_bits 11 = .ok (.iload_n 2, 1) := by decide +kernel
theorem dX7_bits_12 : decode cX7_bits 12 = .ok (.iload_n 2, 1) := by decide +kernel
theorem dX7_bits_13 : decode cX7_bits 13 = .ok (.iconst 1, 1) := by decide +kernel
theorem dX7_bits_14 : decode cX7_bits 14 = .ok (.isub, 1) := by decide +kernel
theorem dX7_bits_15 : decode cX7_bits 15 = .ok (.iand, 1) := by decide +kernel
theorem dX7_bits_16 : decode cX7_bits 16 = .ok (.istore_n 2, 1) := by decide +kernel
theorem dX7_bits_17 : decode cX7_bits 17 = .ok (.goto (-13), 3) := by decide +kernel
theorem dX7_bits_20 : decode cX7_bits 20 = .ok (.iload_n 1, 1) := by decide +kernel
theorem dX7_bits_21 : decode cX7_bits 21 = .ok (.ireturn, 1) := by decide +kernel
theorem dX7_lesser_0 : decode cX7_lesser 0 = .ok (.iload_n 0, 1) := by decide +kernel
theorem dX7_lesser_1 : decode cX7_lesser 1 = .ok (.iload_n 1, 1) := by decide +kernel
theorem dX7_lesser_2 : decode cX7_lesser 2 = .ok (.if_icmp .ge 7, 3) := by decide +kernel
theorem dX7_lesser_5 : decode cX7_lesser 5 = .ok (.iload_n 0, 1) := by decide +kernel
theorem dX7_lesser_6 : decode cX7_lesser 6 = .ok (.goto 4, 3) := by decide +kernel
theorem dX7_lesser_9 : decode cX7_lesser 9 = .ok (.iload_n 1, 1) := by decide +kernel
theorem dX7_lesser_10 : decode cX7_lesser 10 = .ok (.ireturn, 1) := by decide +kernel
theorem dX7_greater_0 : decode cX7_greater 0 = .ok (.iload_n 0, 1) := by decide +kernel
theorem dX7_greater_1 : decode cX7_greater 1 = .ok (.iload_n 1, 1) := by decide +kernel
theorem dX7_greater_2 : decode cX7_greater 2 = .ok (.if_icmp .le 7, 3) := by decide +kernel
theorem dX7_greater_5 : decode cX7_greater 5 = .ok (.iload_n 0, 1) := by decide +kernel
theorem dX7_greater_6 : decode cX7_greater 6 = .ok (.goto 4, 3) := by decide +kernel
theorem dX7_greater_9 : decode cX7_greater 9 = .ok (.iload_n 1, 1) := by decide +kernel
theorem dX7_greater_10 : decode cX7_greater 10 = .ok (.ireturn, 1) := by decide +kernel
theorem dX7_meets_0 : decode cX7_meets 0 = .ok (.aload_n 0, 1) := by decide +kernel
theorem dX7_meets_1 : decode cX7_meets 1 = .ok (.iload_n 1, 1) := by decide +kernel
theorem dX7_meets_2 : decode cX7_meets 2 = .ok (.putfield 89, 3) := by decide +kernel
theorem dX7_meets_5 : decode cX7_meets 5 = .ok (.aload_n 0, 1) := by decide +kernel
theorem dX7_meets_6 : decode cX7_meets 6 = .ok (.getfield 7, 3) := by decide +kernel
theorem dX7_meets_9 : decode cX7_meets 9 = .ok (.iload_n 1, 1) := by decide +kernel
theorem dX7_meets_10 : decode cX7_meets 10 = .ok (.dup2, 1) := by decide +kernel
theorem dX7_meets_11 : decode cX7_meets 11 = .ok (.iaload, 1) := by decide +kernel
theorem dX7_meets_12 : decode cX7_meets 12 = .ok (.iconst 1, 1) := by decide +kernel
theorem dX7_meets_13 : decode cX7_meets 13 = .ok (.iadd, 1) := by decide +kernel
theorem dX7_meets_14 : decode cX7_meets 14 = .ok (.iastore, 1) := by decide +kernel
theorem dX7_meets_15 : decode cX7_meets 15 = .ok (.bipush (-3), 2) := by decide +kernel
theorem dX7_meets_17 : decode cX7_meets 17 = .ok (.ireturn, 1) := by decide +kernel
theorem dX7_finding_0 : decode cX7_finding 0 = .ok (.aload_n 0, 1) := by decide +kernel
theorem dX7_finding_1 : decode cX7_finding 1 = .ok (.getfield 89, 3) := by decide +kernel
theorem dX7_finding_4 : decode cX7_finding 4 = .ok (.ireturn, 1) := by decide +kernel
theorem dX7_findings_0 : decode cX7_findings 0 = .ok (.iload_n 1, 1) := by decide +kernel
theorem dX7_findings_1 : decode cX7_findings 1 = .ok (.iconst 1, 1) := by decide +kernel
theorem dX7_findings_2 : decode cX7_findings 2 = .ok (.iconst 5, 1) := by decide +kernel
theorem dX7_findings_3 : decode cX7_findings 3 = .ok (.invokestatic 92, 3) := by decide +kernel
theorem dX7_findings_6 : decode cX7_findings 6 = .ok (.ifCond .eq 12, 3) := by decide +kernel
theorem dX7_findings_9 : decode cX7_findings 9 = .ok (.aload_n 0, 1) := by decide +kernel
theorem dX7_findings_10 : decode cX7_findings 10 = .ok (.getfield 7, 3) := by decide +kernel
theorem dX7_findings_13 : decode cX7_findings 13 = .ok (.iload_n 1, 1) := by decide +kernel
theorem dX7_findings_14 : decode cX7_findings 14 = .ok (.iaload, 1) := by decide +kernel
theorem dX7_findings_15 : decode cX7_findings 15 = .ok (.goto 4, 3) := by decide +kernel
theorem dX7_findings_18 : decode cX7_findings 18 = .ok (.iconst (-1), 1) := by decide +kernel
theorem dX7_findings_19 : decode cX7_findings 19 = .ok (.ireturn, 1) := by decide +kernel
theorem dX7_tells_0 : decode cX7_tells 0 = .ok (.aload_n 0, 1) := by decide +kernel
theorem dX7_tells_1 : decode cX7_tells 1 = .ok (.iload_n 1, 1) := by decide +kernel
theorem dX7_tells_2 : decode cX7_tells 2 = .ok (.putfield 96, 3) := by decide +kernel
theorem dX7_tells_5 : decode cX7_tells 5 = .ok (.iload_n 2, 1) := by decide +kernel
theorem dX7_tells_6 : decode cX7_tells 6 = .ok (.ireturn, 1) := by decide +kernel
theorem dX7_asked_0 : decode cX7_asked 0 = .ok (.aload_n 0, 1) := by decide +kernel
theorem dX7_asked_1 : decode cX7_asked 1 = .ok (.getfield 96, 3) := by decide +kernel
theorem dX7_asked_4 : decode cX7_asked 4 = .ok (.ireturn, 1) := by decide +kernel
theorem dX7_fraction_0 : decode cX7_fraction 0 = .ok (.lload_n 1, 1) := by decide +kernel
theorem dX7_fraction_1 : decode cX7_fraction 1 = .ok (.lstore 6, 2) := by decide +kernel
theorem dX7_fraction_3 : decode cX7_fraction 3 = .ok (.lload_n 3, 1) := by decide +kernel
theorem dX7_fraction_4 : decode cX7_fraction 4 = .ok (.lstore 8, 2) := by decide +kernel
theorem dX7_fraction_6 : decode cX7_fraction 6 = .ok (.lload 8, 2) := by decide +kernel
theorem dX7_fraction_8 : decode cX7_fraction 8 = .ok (.lconst 0, 1) := by decide +kernel
theorem dX7_fraction_9 : decode cX7_fraction 9 = .ok (.lcmp, 1) := by decide +kernel
theorem dX7_fraction_10 : decode cX7_fraction 10 = .ok (.ifCond .eq 21, 3) := by decide +kernel
theorem dX7_fraction_13 : decode cX7_fraction 13 = .ok (.lload 6, 2) := by decide +kernel
theorem dX7_fraction_15 : decode cX7_fraction 15 = .ok (.lload 8, 2) := by decide +kernel
theorem dX7_fraction_17 : decode cX7_fraction 17 = .ok (.lrem, 1) := by decide +kernel
theorem dX7_fraction_18 : decode cX7_fraction 18 = .ok (.lstore 10, 2) := by decide +kernel
theorem dX7_fraction_20 : decode cX7_fraction 20 = .ok (.lload 8, 2) := by decide +kernel
theorem dX7_fraction_22 : decode cX7_fraction 22 = .ok (.lstore 6, 2) := by decide +kernel
theorem dX7_fraction_24 : decode cX7_fraction 24 = .ok (.lload 10, 2) := by decide +kernel
theorem dX7_fraction_26 : decode cX7_fraction 26 = .ok (.lstore 8, 2) := by decide +kernel
theorem dX7_fraction_28 : decode cX7_fraction 28 = .ok (.goto (-22), 3) := by decide +kernel
theorem dX7_fraction_31 : decode cX7_fraction 31 = .ok (.aload_n 0, 1) := by decide +kernel
theorem dX7_fraction_32 : decode cX7_fraction 32 = .ok (.lload_n 1, 1) := by decide +kernel
theorem dX7_fraction_33 : decode cX7_fraction 33 = .ok (.lload 6, 2) := by decide +kernel
theorem dX7_fraction_35 : decode cX7_fraction 35 = .ok (.ldiv, 1) := by decide +kernel
theorem dX7_fraction_36 : decode cX7_fraction 36 = .ok (.putfield 99, 3) := by decide +kernel
theorem dX7_fraction_39 : decode cX7_fraction 39 = .ok (.aload_n 0, 1) := by decide +kernel
theorem dX7_fraction_40 : decode cX7_fraction 40 = .ok (.lload_n 3, 1) := by decide +kernel
theorem dX7_fraction_41 : decode cX7_fraction 41 = .ok (.lload 6, 2) := by decide +kernel
theorem dX7_fraction_43 : decode cX7_fraction 43 = .ok (.ldiv, 1) := by decide +kernel
theorem dX7_fraction_44 : decode cX7_fraction 44 = .ok (.putfield 81, 3) := by decide +kernel
theorem dX7_fraction_47 : decode cX7_fraction 47 = .ok (.iload 5, 2) := by decide +kernel
theorem dX7_fraction_49 : decode cX7_fraction 49 = .ok (.ireturn, 1) := by decide +kernel
theorem dX7_upper_0 : decode cX7_upper 0 = .ok (.aload_n 0, 1) := by decide +kernel
theorem dX7_upper_1 : decode cX7_upper 1 = .ok (.getfield 99, 3) := by decide +kernel
theorem dX7_upper_4 : decode cX7_upper 4 = .ok (.lreturn, 1) := by decide +kernel
theorem dX7_lower_0 : decode cX7_lower 0 = .ok (.aload_n 0, 1) := by decide +kernel
theorem dX7_lower_1 : decode cX7_lower 1 = .ok (.getfield 81, 3) := by decide +kernel
theorem dX7_lower_4 : decode cX7_lower 4 = .ok (.lreturn, 1) := by decide +kernel
theorem dX7_isRow_0 : decode cX7_isRow 0 = .ok (.iload_n 0, 1) := by decide +kernel
theorem dX7_isRow_1 : decode cX7_isRow 1 = .ok (.iconst 0, 1) := by decide +kernel
theorem dX7_isRow_2 : decode cX7_isRow 2 = .ok (.iconst 5, 1) := by decide +kernel
theorem dX7_isRow_3 : decode cX7_isRow 3 = .ok (.invokestatic 92, 3) := by decide +kernel
theorem dX7_isRow_6 : decode cX7_isRow 6 = .ok (.ireturn, 1) := by decide +kernel
theorem dX7_rowAt_0 : decode cX7_rowAt 0 = .ok (.aload_n 0, 1) := by decide +kernel
theorem dX7_rowAt_1 : decode cX7_rowAt 1 = .ok (.getfield 16, 3) := by decide +kernel
theorem dX7_rowAt_4 : decode cX7_rowAt 4 = .ok (.bipush 60, 2) := by decide +kernel
theorem dX7_rowAt_6 : decode cX7_rowAt 6 = .ok (.iload_n 1, 1) := by decide +kernel
theorem dX7_rowAt_7 : decode cX7_rowAt 7 = .ok (.imul, 1) := by decide +kernel
theorem dX7_rowAt_8 : decode cX7_rowAt 8 = .ok (.iload_n 2, 1) := by decide +kernel
theorem dX7_rowAt_9 : decode cX7_rowAt 9 = .ok (.iadd, 1) := by decide +kernel
theorem dX7_rowAt_10 : decode cX7_rowAt 10 = .ok (.iaload, 1) := by decide +kernel
theorem dX7_rowAt_11 : decode cX7_rowAt 11 = .ok (.ireturn, 1) := by decide +kernel
theorem dX7_row_0 : decode cX7_row 0 = .ok (.iload_n 1, 1) := by decide +kernel
theorem dX7_row_1 : decode cX7_row 1 = .ok (.invokestatic 102, 3) := by decide +kernel
theorem dX7_row_4 : decode cX7_row 4 = .ok (.ifCond .eq 9, 3) := by decide +kernel
theorem dX7_row_7 : decode cX7_row 7 = .ok (.iload_n 2, 1) := by decide +kernel
theorem dX7_row_8 : decode cX7_row 8 = .ok (.bipush 60, 2) := by decide +kernel
theorem dX7_row_10 : decode cX7_row 10 = .ok (.if_icmp .le 5, 3) := by decide +kernel
theorem dX7_row_13 : decode cX7_row 13 = .ok (.iconst (-1), 1) := by decide +kernel
theorem dX7_row_14 : decode cX7_row 14 = .ok (.ireturn, 1) := by decide +kernel
theorem dX7_row_15 : decode cX7_row 15 = .ok (.iload_n 2, 1) := by decide +kernel
theorem dX7_row_16 : decode cX7_row 16 = .ok (.ifCond .ge 9, 3) := by decide +kernel
theorem dX7_row_19 : decode cX7_row 19 = .ok (.aload_n 0, 1) := by decide +kernel
theorem dX7_row_20 : decode cX7_row 20 = .ok (.iconst 5, 1) := by decide +kernel
theorem dX7_row_21 : decode cX7_row 21 = .ok (.invokevirtual 106, 3) := by decide +kernel
theorem dX7_row_24 : decode cX7_row 24 = .ok (.ireturn, 1) := by decide +kernel
theorem dX7_row_25 : decode cX7_row 25 = .ok (.aload_n 0, 1) := by decide +kernel
theorem dX7_row_26 : decode cX7_row 26 = .ok (.getfield 13, 3) := by decide +kernel
theorem dX7_row_29 : decode cX7_row 29 = .ok (.iload_n 1, 1) := by decide +kernel
theorem dX7_row_30 : decode cX7_row 30 = .ok (.iload_n 2, 1) := by decide +kernel
theorem dX7_row_31 : decode cX7_row 31 = .ok (.iastore, 1) := by decide +kernel
theorem dX7_row_32 : decode cX7_row 32 = .ok (.iconst 0, 1) := by decide +kernel
theorem dX7_row_33 : decode cX7_row 33 = .ok (.istore_n 3, 1) := by decide +kernel
theorem dX7_row_34 : decode cX7_row 34 = .ok (.iload_n 3, 1) := by decide +kernel
theorem dX7_row_35 : decode cX7_row 35 = .ok (.bipush 60, 2) := by decide +kernel
theorem dX7_row_37 : decode cX7_row 37 = .ok (.if_icmp .ge 21, 3) := by decide +kernel
theorem dX7_row_40 : decode cX7_row 40 = .ok (.aload_n 0, 1) := by decide +kernel
theorem dX7_row_41 : decode cX7_row 41 = .ok (.getfield 16, 3) := by decide +kernel
theorem dX7_row_44 : decode cX7_row 44 = .ok (.bipush 60, 2) := by decide +kernel
theorem dX7_row_46 : decode cX7_row 46 = .ok (.iload_n 1, 1) := by decide +kernel
theorem dX7_row_47 : decode cX7_row 47 = .ok (.imul, 1) := by decide +kernel
theorem dX7_row_48 : decode cX7_row 48 = .ok (.iload_n 3, 1) := by decide +kernel
theorem dX7_row_49 : decode cX7_row 49 = .ok (.iadd, 1) := by decide +kernel
theorem dX7_row_50 : decode cX7_row 50 = .ok (.iconst 0, 1) := by decide +kernel
theorem dX7_row_51 : decode cX7_row 51 = .ok (.iastore, 1) := by decide +kernel
theorem dX7_row_52 : decode cX7_row 52 = .ok (.iinc 3 1, 3) := by decide +kernel
theorem dX7_row_55 : decode cX7_row 55 = .ok (.goto (-21), 3) := by decide +kernel
theorem dX7_row_58 : decode cX7_row 58 = .ok (.iload_n 2, 1) := by decide +kernel
theorem dX7_row_59 : decode cX7_row 59 = .ok (.ireturn, 1) := by decide +kernel
theorem dX7_lay_0 : decode cX7_lay 0 = .ok (.iload_n 1, 1) := by decide +kernel
theorem dX7_lay_1 : decode cX7_lay 1 = .ok (.invokestatic 102, 3) := by decide +kernel
theorem dX7_lay_4 : decode cX7_lay 4 = .ok (.ifCond .ne 5, 3) := by decide +kernel
theorem dX7_lay_7 : decode cX7_lay 7 = .ok (.iconst (-1), 1) := by decide +kernel
theorem dX7_lay_8 : decode cX7_lay 8 = .ok (.ireturn, 1) := by decide +kernel
theorem dX7_lay_9 : decode cX7_lay 9 = .ok (.aload_n 0, 1) := by decide +kernel
theorem dX7_lay_10 : decode cX7_lay 10 = .ok (.getfield 13, 3) := by decide +kernel
theorem dX7_lay_13 : decode cX7_lay 13 = .ok (.iload_n 1, 1) := by decide +kernel
theorem dX7_lay_14 : decode cX7_lay 14 = .ok (.iaload, 1) := by decide +kernel
theorem dX7_lay_15 : decode cX7_lay 15 = .ok (.ifCond .ge 9, 3) := by decide +kernel
theorem dX7_lay_18 : decode cX7_lay 18 = .ok (.aload_n 0, 1) := by decide +kernel
theorem dX7_lay_19 : decode cX7_lay 19 = .ok (.iconst 1, 1) := by decide +kernel
theorem dX7_lay_20 : decode cX7_lay 20 = .ok (.invokevirtual 106, 3) := by decide +kernel
theorem dX7_lay_23 : decode cX7_lay 23 = .ok (.ireturn, 1) := by decide +kernel
theorem dX7_lay_24 : decode cX7_lay 24 = .ok (.iload_n 2, 1) := by decide +kernel
theorem dX7_lay_25 : decode cX7_lay 25 = .ok (.iconst 0, 1) := by decide +kernel
theorem dX7_lay_26 : decode cX7_lay 26 = .ok (.aload_n 0, 1) := by decide +kernel
theorem dX7_lay_27 : decode cX7_lay 27 = .ok (.getfield 13, 3) := by decide +kernel
theorem dX7_lay_30 : decode cX7_lay 30 = .ok (.iload_n 1, 1) := by decide +kernel
theorem dX7_lay_31 : decode cX7_lay 31 = .ok (.iaload, 1) := by decide +kernel
theorem dX7_lay_32 : decode cX7_lay 32 = .ok (.iconst 1, 1) := by decide +kernel
theorem dX7_lay_33 : decode cX7_lay 33 = .ok (.isub, 1) := by decide +kernel
theorem dX7_lay_34 : decode cX7_lay 34 = .ok (.invokestatic 92, 3) := by decide +kernel
theorem dX7_lay_37 : decode cX7_lay 37 = .ok (.ifCond .ne 9, 3) := by decide +kernel
theorem dX7_lay_40 : decode cX7_lay 40 = .ok (.aload_n 0, 1) := by decide +kernel
theorem dX7_lay_41 : decode cX7_lay 41 = .ok (.iconst 2, 1) := by decide +kernel
theorem dX7_lay_42 : decode cX7_lay 42 = .ok (.invokevirtual 106, 3) := by decide +kernel
theorem dX7_lay_45 : decode cX7_lay 45 = .ok (.ireturn, 1) := by decide +kernel
theorem dX7_lay_46 : decode cX7_lay 46 = .ok (.aload_n 0, 1) := by decide +kernel
theorem dX7_lay_47 : decode cX7_lay 47 = .ok (.iload_n 1, 1) := by decide +kernel
theorem dX7_lay_48 : decode cX7_lay 48 = .ok (.iload_n 2, 1) := by decide +kernel
theorem dX7_lay_49 : decode cX7_lay 49 = .ok (.invokevirtual 110, 3) := by decide +kernel
theorem dX7_lay_52 : decode cX7_lay 52 = .ok (.istore 4, 2) := by decide +kernel
theorem dX7_lay_54 : decode cX7_lay 54 = .ok (.aload_n 0, 1) := by decide +kernel
theorem dX7_lay_55 : decode cX7_lay 55 = .ok (.getfield 16, 3) := by decide +kernel
theorem dX7_lay_58 : decode cX7_lay 58 = .ok (.bipush 60, 2) := by decide +kernel
theorem dX7_lay_60 : decode cX7_lay 60 = .ok (.iload_n 1, 1) := by decide +kernel
theorem dX7_lay_61 : decode cX7_lay 61 = .ok (.imul, 1) := by decide +kernel
theorem dX7_lay_62 : decode cX7_lay 62 = .ok (.iload_n 2, 1) := by decide +kernel
theorem dX7_lay_63 : decode cX7_lay 63 = .ok (.iadd, 1) := by decide +kernel
theorem dX7_lay_64 : decode cX7_lay 64 = .ok (.iload_n 3, 1) := by decide +kernel
theorem dX7_lay_65 : decode cX7_lay 65 = .ok (.iastore, 1) := by decide +kernel
theorem dX7_lay_66 : decode cX7_lay 66 = .ok (.aload_n 0, 1) := by decide +kernel
theorem dX7_lay_67 : decode cX7_lay 67 = .ok (.iload 4, 2) := by decide +kernel
theorem dX7_lay_69 : decode cX7_lay 69 = .ok (.iconst 1, 1) := by decide +kernel
theorem dX7_lay_70 : decode cX7_lay 70 = .ok (.invokevirtual 114, 3) := by decide +kernel
theorem dX7_lay_73 : decode cX7_lay 73 = .ok (.ireturn, 1) := by decide +kernel
theorem dX7_at_0 : decode cX7_at 0 = .ok (.iload_n 1, 1) := by decide +kernel
theorem dX7_at_1 : decode cX7_at 1 = .ok (.invokestatic 102, 3) := by decide +kernel
theorem dX7_at_4 : decode cX7_at 4 = .ok (.ifCond .ne 5, 3) := by decide +kernel
theorem dX7_at_7 : decode cX7_at 7 = .ok (.iconst (-1), 1) := by decide +kernel
theorem dX7_at_8 : decode cX7_at 8 = .ok (.ireturn, 1) := by decide +kernel
theorem dX7_at_9 : decode cX7_at 9 = .ok (.aload_n 0, 1) := by decide +kernel
theorem dX7_at_10 : decode cX7_at 10 = .ok (.getfield 13, 3) := by decide +kernel
theorem dX7_at_13 : decode cX7_at 13 = .ok (.iload_n 1, 1) := by decide +kernel
theorem dX7_at_14 : decode cX7_at 14 = .ok (.iaload, 1) := by decide +kernel
theorem dX7_at_15 : decode cX7_at 15 = .ok (.ifCond .ge 9, 3) := by decide +kernel
theorem dX7_at_18 : decode cX7_at 18 = .ok (.aload_n 0, 1) := by decide +kernel
theorem dX7_at_19 : decode cX7_at 19 = .ok (.iconst 1, 1) := by decide +kernel
theorem dX7_at_20 : decode cX7_at 20 = .ok (.invokevirtual 106, 3) := by decide +kernel
theorem dX7_at_23 : decode cX7_at 23 = .ok (.ireturn, 1) := by decide +kernel
theorem dX7_at_24 : decode cX7_at 24 = .ok (.iload_n 2, 1) := by decide +kernel
theorem dX7_at_25 : decode cX7_at 25 = .ok (.iconst 0, 1) := by decide +kernel
theorem dX7_at_26 : decode cX7_at 26 = .ok (.aload_n 0, 1) := by decide +kernel
theorem dX7_at_27 : decode cX7_at 27 = .ok (.getfield 13, 3) := by decide +kernel
theorem dX7_at_30 : decode cX7_at 30 = .ok (.iload_n 1, 1) := by decide +kernel
theorem dX7_at_31 : decode cX7_at 31 = .ok (.iaload, 1) := by decide +kernel
theorem dX7_at_32 : decode cX7_at 32 = .ok (.iconst 1, 1) := by decide +kernel
theorem dX7_at_33 : decode cX7_at 33 = .ok (.isub, 1) := by decide +kernel
theorem dX7_at_34 : decode cX7_at 34 = .ok (.invokestatic 92, 3) := by decide +kernel
theorem dX7_at_37 : decode cX7_at 37 = .ok (.ifCond .eq 17, 3) := by decide +kernel
theorem dX7_at_40 : decode cX7_at 40 = .ok (.aload_n 0, 1) := by decide +kernel
theorem dX7_at_41 : decode cX7_at 41 = .ok (.aload_n 0, 1) := by decide +kernel
theorem dX7_at_42 : decode cX7_at 42 = .ok (.iload_n 1, 1) := by decide +kernel
theorem dX7_at_43 : decode cX7_at 43 = .ok (.iload_n 2, 1) := by decide +kernel
theorem dX7_at_44 : decode cX7_at 44 = .ok (.invokevirtual 110, 3) := by decide +kernel
theorem dX7_at_47 : decode cX7_at 47 = .ok (.iconst 1, 1) := by decide +kernel
theorem dX7_at_48 : decode cX7_at 48 = .ok (.invokevirtual 114, 3) := by decide +kernel
theorem dX7_at_51 : decode cX7_at 51 = .ok (.goto 8, 3) := by decide +kernel
theorem dX7_at_54 : decode cX7_at 54 = .ok (.aload_n 0, 1) := by decide +kernel
theorem dX7_at_55 : decode cX7_at 55 = .ok (.iconst 2, 1) := by decide +kernel
theorem dX7_at_56 : decode cX7_at 56 = .ok (.invokevirtual 106, 3) := by decide +kernel
theorem dX7_at_59 : decode cX7_at 59 = .ok (.ireturn, 1) := by decide +kernel
theorem dX7_tear_0 : decode cX7_tear 0 = .ok (.iload_n 1, 1) := by decide +kernel
theorem dX7_tear_1 : decode cX7_tear 1 = .ok (.invokestatic 102, 3) := by decide +kernel
theorem dX7_tear_4 : decode cX7_tear 4 = .ok (.ifCond .ne 5, 3) := by decide +kernel
theorem dX7_tear_7 : decode cX7_tear 7 = .ok (.iconst (-1), 1) := by decide +kernel
theorem dX7_tear_8 : decode cX7_tear 8 = .ok (.ireturn, 1) := by decide +kernel
theorem dX7_tear_9 : decode cX7_tear 9 = .ok (.aload_n 0, 1) := by decide +kernel
theorem dX7_tear_10 : decode cX7_tear 10 = .ok (.getfield 13, 3) := by decide +kernel
theorem dX7_tear_13 : decode cX7_tear 13 = .ok (.iload_n 1, 1) := by decide +kernel
theorem dX7_tear_14 : decode cX7_tear 14 = .ok (.iaload, 1) := by decide +kernel
theorem dX7_tear_15 : decode cX7_tear 15 = .ok (.ifCond .ge 9, 3) := by decide +kernel
theorem dX7_tear_18 : decode cX7_tear 18 = .ok (.aload_n 0, 1) := by decide +kernel
theorem dX7_tear_19 : decode cX7_tear 19 = .ok (.iconst 1, 1) := by decide +kernel
theorem dX7_tear_20 : decode cX7_tear 20 = .ok (.invokevirtual 106, 3) := by decide +kernel
theorem dX7_tear_23 : decode cX7_tear 23 = .ok (.ireturn, 1) := by decide +kernel
theorem dX7_tear_24 : decode cX7_tear 24 = .ok (.aload_n 0, 1) := by decide +kernel
theorem dX7_tear_25 : decode cX7_tear 25 = .ok (.getfield 13, 3) := by decide +kernel
theorem dX7_tear_28 : decode cX7_tear 28 = .ok (.iload_n 1, 1) := by decide +kernel
theorem dX7_tear_29 : decode cX7_tear 29 = .ok (.iconst (-1), 1) := by decide +kernel
theorem dX7_tear_30 : decode cX7_tear 30 = .ok (.iastore, 1) := by decide +kernel
theorem dX7_tear_31 : decode cX7_tear 31 = .ok (.iconst 1, 1) := by decide +kernel
theorem dX7_tear_32 : decode cX7_tear 32 = .ok (.ireturn, 1) := by decide +kernel
theorem dX7_copy_0 : decode cX7_copy 0 = .ok (.iload_n 1, 1) := by decide +kernel
theorem dX7_copy_1 : decode cX7_copy 1 = .ok (.invokestatic 102, 3) := by decide +kernel
theorem dX7_copy_4 : decode cX7_copy 4 = .ok (.ifCond .eq 10, 3) := by decide +kernel
theorem dX7_copy_7 : decode cX7_copy 7 = .ok (.iload_n 3, 1) := by decide +kernel
theorem dX7_copy_8 : decode cX7_copy 8 = .ok (.invokestatic 102, 3) := by decide +kernel
theorem dX7_copy_11 : decode cX7_copy 11 = .ok (.ifCond .ne 5, 3) := by decide +kernel
theorem dX7_copy_14 : decode cX7_copy 14 = .ok (.iconst (-1), 1) := by decide +kernel
theorem dX7_copy_15 : decode cX7_copy 15 = .ok (.ireturn, 1) := by decide +kernel
theorem dX7_copy_16 : decode cX7_copy 16 = .ok (.iload 5, 2) := by decide +kernel
theorem dX7_copy_18 : decode cX7_copy 18 = .ok (.ifCond .ge 9, 3) := by decide +kernel
theorem dX7_copy_21 : decode cX7_copy 21 = .ok (.aload_n 0, 1) := by decide +kernel
theorem dX7_copy_22 : decode cX7_copy 22 = .ok (.iconst 5, 1) := by decide +kernel
theorem dX7_copy_23 : decode cX7_copy 23 = .ok (.invokevirtual 106, 3) := by decide +kernel
theorem dX7_copy_26 : decode cX7_copy 26 = .ok (.ireturn, 1) := by decide +kernel
theorem dX7_copy_27 : decode cX7_copy 27 = .ok (.aload_n 0, 1) := by decide +kernel
theorem dX7_copy_28 : decode cX7_copy 28 = .ok (.getfield 13, 3) := by decide +kernel
theorem dX7_copy_31 : decode cX7_copy 31 = .ok (.iload_n 1, 1) := by decide +kernel
theorem dX7_copy_32 : decode cX7_copy 32 = .ok (.iaload, 1) := by decide +kernel
theorem dX7_copy_33 : decode cX7_copy 33 = .ok (.ifCond .lt 12, 3) := by decide +kernel
theorem dX7_copy_36 : decode cX7_copy 36 = .ok (.aload_n 0, 1) := by decide +kernel
theorem dX7_copy_37 : decode cX7_copy 37 = .ok (.getfield 13, 3) := by decide +kernel
theorem dX7_copy_40 : decode cX7_copy 40 = .ok (.iload_n 3, 1) := by decide +kernel
theorem dX7_copy_41 : decode cX7_copy 41 = .ok (.iaload, 1) := by decide +kernel
theorem dX7_copy_42 : decode cX7_copy 42 = .ok (.ifCond .ge 9, 3) := by decide +kernel
theorem dX7_copy_45 : decode cX7_copy 45 = .ok (.aload_n 0, 1) := by decide +kernel
theorem dX7_copy_46 : decode cX7_copy 46 = .ok (.iconst 1, 1) := by decide +kernel
theorem dX7_copy_47 : decode cX7_copy 47 = .ok (.invokevirtual 106, 3) := by decide +kernel
theorem dX7_copy_50 : decode cX7_copy 50 = .ok (.ireturn, 1) := by decide +kernel
theorem dX7_copy_51 : decode cX7_copy 51 = .ok (.iload_n 2, 1) := by decide +kernel
theorem dX7_copy_52 : decode cX7_copy 52 = .ok (.ifCond .lt 43, 3) := by decide +kernel
theorem dX7_copy_55 : decode cX7_copy 55 = .ok (.iload 4, 2) := by decide +kernel
theorem dX7_copy_57 : decode cX7_copy 57 = .ok (.ifCond .lt 38, 3) := by decide +kernel
theorem dX7_copy_60 : decode cX7_copy 60 = .ok (.iload_n 2, 1) := by decide +kernel
theorem dX7_copy_61 : decode cX7_copy 61 = .ok (.i2l, 1) := by decide +kernel
theorem dX7_copy_62 : decode cX7_copy 62 = .ok (.iload 5, 2) := by decide +kernel
theorem dX7_copy_64 : decode cX7_copy 64 = .ok (.i2l, 1) := by decide +kernel
theorem dX7_copy_65 : decode cX7_copy 65 = .ok (.ladd, 1) := by decide +kernel
theorem dX7_copy_66 : decode cX7_copy 66 = .ok (.aload_n 0, 1) := by decide +kernel
theorem dX7_copy_67 : decode cX7_copy 67 = .ok (.getfield 13, 3) := by decide +kernel
theorem dX7_copy_70 : decode cX7_copy 70 = .ok (.iload_n 1, 1) := by decide +kernel
theorem dX7_copy_71 : decode cX7_copy 71 = .ok (.iaload, 1) := by decide +kernel
theorem dX7_copy_72 : decode cX7_copy 72 = .ok (.i2l, 1) := by decide +kernel
theorem dX7_copy_73 : decode cX7_copy 73 = .ok (.lcmp, 1) := by decide +kernel
theorem dX7_copy_74 : decode cX7_copy 74 = .ok (.ifCond .gt 21, 3) := by decide +kernel
theorem dX7_copy_77 : decode cX7_copy 77 = .ok (.iload 4, 2) := by decide +kernel
theorem dX7_copy_79 : decode cX7_copy 79 = .ok (.i2l, 1) := by decide +kernel
theorem dX7_copy_80 : decode cX7_copy 80 = .ok (.iload 5, 2) := by decide +kernel
theorem dX7_copy_82 : decode cX7_copy 82 = .ok (.i2l, 1) := by decide +kernel
theorem dX7_copy_83 : decode cX7_copy 83 = .ok (.ladd, 1) := by decide +kernel
theorem dX7_copy_84 : decode cX7_copy 84 = .ok (.aload_n 0, 1) := by decide +kernel
theorem dX7_copy_85 : decode cX7_copy 85 = .ok (.getfield 13, 3) := by decide +kernel
theorem dX7_copy_88 : decode cX7_copy 88 = .ok (.iload_n 3, 1) := by decide +kernel
theorem dX7_copy_89 : decode cX7_copy 89 = .ok (.iaload, 1) := by decide +kernel
theorem dX7_copy_90 : decode cX7_copy 90 = .ok (.i2l, 1) := by decide +kernel
theorem dX7_copy_91 : decode cX7_copy 91 = .ok (.lcmp, 1) := by decide +kernel
theorem dX7_copy_92 : decode cX7_copy 92 = .ok (.ifCond .le 9, 3) := by decide +kernel
theorem dX7_copy_95 : decode cX7_copy 95 = .ok (.aload_n 0, 1) := by decide +kernel
theorem dX7_copy_96 : decode cX7_copy 96 = .ok (.iconst 2, 1) := by decide +kernel
theorem dX7_copy_97 : decode cX7_copy 97 = .ok (.invokevirtual 106, 3) := by decide +kernel
theorem dX7_copy_100 : decode cX7_copy 100 = .ok (.ireturn, 1) := by decide +kernel
theorem dX7_copy_101 : decode cX7_copy 101 = .ok (.iconst 0, 1) := by decide +kernel
theorem dX7_copy_102 : decode cX7_copy 102 = .ok (.istore 6, 2) := by decide +kernel
theorem dX7_copy_104 : decode cX7_copy 104 = .ok (.iload 6, 2) := by decide +kernel
theorem dX7_copy_106 : decode cX7_copy 106 = .ok (.iload 5, 2) := by decide +kernel
theorem dX7_copy_108 : decode cX7_copy 108 = .ok (.if_icmp .ge 25, 3) := by decide +kernel
theorem dX7_copy_111 : decode cX7_copy 111 = .ok (.aload_n 0, 1) := by decide +kernel
theorem dX7_copy_112 : decode cX7_copy 112 = .ok (.getfield 19, 3) := by decide +kernel
theorem dX7_copy_115 : decode cX7_copy 115 = .ok (.iload 6, 2) := by decide +kernel
theorem dX7_copy_117 : decode cX7_copy 117 = .ok (.aload_n 0, 1) := by decide +kernel
theorem dX7_copy_118 : decode cX7_copy 118 = .ok (.iload_n 1, 1) := by decide +kernel
theorem dX7_copy_119 : decode cX7_copy 119 = .ok (.iload_n 2, 1) := by decide +kernel
theorem dX7_copy_120 : decode cX7_copy 120 = .ok (.iload 6, 2) := by decide +kernel
theorem dX7_copy_122 : decode cX7_copy 122 = .ok (.iadd, 1) := by decide +kernel
theorem dX7_copy_123 : decode cX7_copy 123 = .ok (.invokevirtual 110, 3) := by decide +kernel
theorem dX7_copy_126 : decode cX7_copy 126 = .ok (.iastore, 1) := by decide +kernel
theorem dX7_copy_127 : decode cX7_copy 127 = .ok (.iinc 6 1, 3) := by decide +kernel
theorem dX7_copy_130 : decode cX7_copy 130 = .ok (.goto (-26), 3) := by decide +kernel
theorem dX7_copy_133 : decode cX7_copy 133 = .ok (.iconst 0, 1) := by decide +kernel
theorem dX7_copy_134 : decode cX7_copy 134 = .ok (.istore 6, 2) := by decide +kernel
theorem dX7_copy_136 : decode cX7_copy 136 = .ok (.iload 6, 2) := by decide +kernel
theorem dX7_copy_138 : decode cX7_copy 138 = .ok (.iload 5, 2) := by decide +kernel
theorem dX7_copy_140 : decode cX7_copy 140 = .ok (.if_icmp .ge 31, 3) := by decide +kernel
theorem dX7_copy_143 : decode cX7_copy 143 = .ok (.aload_n 0, 1) := by decide +kernel
theorem dX7_copy_144 : decode cX7_copy 144 = .ok (.getfield 16, 3) := by decide +kernel
theorem dX7_copy_147 : decode cX7_copy 147 = .ok (.bipush 60, 2) := by decide +kernel
theorem dX7_copy_149 : decode cX7_copy 149 = .ok (.iload_n 3, 1) := by decide +kernel
theorem dX7_copy_150 : decode cX7_copy 150 = .ok (.imul, 1) := by decide +kernel
theorem dX7_copy_151 : decode cX7_copy 151 = .ok (.iload 4, 2) := by decide +kernel
theorem dX7_copy_153 : decode cX7_copy 153 = .ok (.iadd, 1) := by decide +kernel
theorem dX7_copy_154 : decode cX7_copy 154 = .ok (.iload 6, 2) := by decide +kernel
theorem dX7_copy_156 : decode cX7_copy 156 = .ok (.iadd, 1) := by decide +kernel
theorem dX7_copy_157 : decode cX7_copy 157 = .ok (.aload_n 0, 1) := by decide +kernel
theorem dX7_copy_158 : decode cX7_copy 158 = .ok (.getfield 19, 3) := by decide +kernel
theorem dX7_copy_161 : decode cX7_copy 161 = .ok (.iload 6, 2) := by decide +kernel
theorem dX7_copy_163 : decode cX7_copy 163 = .ok (.iaload, 1) := by decide +kernel
theorem dX7_copy_164 : decode cX7_copy 164 = .ok (.iastore, 1) := by decide +kernel
theorem dX7_copy_165 : decode cX7_copy 165 = .ok (.iinc 6 1, 3) := by decide +kernel
theorem dX7_copy_168 : decode cX7_copy 168 = .ok (.goto (-32), 3) := by decide +kernel
theorem dX7_copy_171 : decode cX7_copy 171 = .ok (.iconst 1, 1) := by decide +kernel
theorem dX7_copy_172 : decode cX7_copy 172 = .ok (.ireturn, 1) := by decide +kernel
theorem dX7_mean_0 : decode cX7_mean 0 = .ok (.iload_n 1, 1) := by decide +kernel
theorem dX7_mean_1 : decode cX7_mean 1 = .ok (.invokestatic 102, 3) := by decide +kernel
theorem dX7_mean_4 : decode cX7_mean 4 = .ok (.ifCond .ne 5, 3) := by decide +kernel
theorem dX7_mean_7 : decode cX7_mean 7 = .ok (.iconst (-1), 1) := by decide +kernel
theorem dX7_mean_8 : decode cX7_mean 8 = .ok (.ireturn, 1) := by decide +kernel
theorem dX7_mean_9 : decode cX7_mean 9 = .ok (.aload_n 0, 1) := by decide +kernel
theorem dX7_mean_10 : decode cX7_mean 10 = .ok (.getfield 13, 3) := by decide +kernel
theorem dX7_mean_13 : decode cX7_mean 13 = .ok (.iload_n 1, 1) := by decide +kernel
theorem dX7_mean_14 : decode cX7_mean 14 = .ok (.iaload, 1) := by decide +kernel
theorem dX7_mean_15 : decode cX7_mean 15 = .ok (.ifCond .ge 9, 3) := by decide +kernel
theorem dX7_mean_18 : decode cX7_mean 18 = .ok (.aload_n 0, 1) := by decide +kernel
theorem dX7_mean_19 : decode cX7_mean 19 = .ok (.iconst 1, 1) := by decide +kernel
theorem dX7_mean_20 : decode cX7_mean 20 = .ok (.invokevirtual 106, 3) := by decide +kernel
theorem dX7_mean_23 : decode cX7_mean 23 = .ok (.ireturn, 1) := by decide +kernel
theorem dX7_mean_24 : decode cX7_mean 24 = .ok (.aload_n 0, 1) := by decide +kernel
theorem dX7_mean_25 : decode cX7_mean 25 = .ok (.getfield 13, 3) := by decide +kernel
theorem dX7_mean_28 : decode cX7_mean 28 = .ok (.iload_n 1, 1) := by decide +kernel
theorem dX7_mean_29 : decode cX7_mean 29 = .ok (.iaload, 1) := by decide +kernel
theorem dX7_mean_30 : decode cX7_mean 30 = .ok (.ifCond .ne 9, 3) := by decide +kernel
theorem dX7_mean_33 : decode cX7_mean 33 = .ok (.aload_n 0, 1) := by decide +kernel
theorem dX7_mean_34 : decode cX7_mean 34 = .ok (.iconst 4, 1) := by decide +kernel
theorem dX7_mean_35 : decode cX7_mean 35 = .ok (.invokevirtual 106, 3) := by decide +kernel
theorem dX7_mean_38 : decode cX7_mean 38 = .ok (.ireturn, 1) := by decide +kernel
theorem dX7_mean_39 : decode cX7_mean 39 = .ok (.lconst 0, 1) := by decide +kernel
theorem dX7_mean_40 : decode cX7_mean 40 = .ok (.lstore_n 2, 1) := by decide +kernel
theorem dX7_mean_41 : decode cX7_mean 41 = .ok (.iconst 0, 1) := by decide +kernel
theorem dX7_mean_42 : decode cX7_mean 42 = .ok (.istore 4, 2) := by decide +kernel
theorem dX7_mean_44 : decode cX7_mean 44 = .ok (.iload 4, 2) := by decide +kernel
theorem dX7_mean_46 : decode cX7_mean 46 = .ok (.aload_n 0, 1) := by decide +kernel
theorem dX7_mean_47 : decode cX7_mean 47 = .ok (.getfield 13, 3) := by decide +kernel
theorem dX7_mean_50 : decode cX7_mean 50 = .ok (.iload_n 1, 1) := by decide +kernel
theorem dX7_mean_51 : decode cX7_mean 51 = .ok (.iaload, 1) := by decide +kernel
theorem dX7_mean_52 : decode cX7_mean 52 = .ok (.if_icmp .ge 20, 3) := by decide +kernel
theorem dX7_mean_55 : decode cX7_mean 55 = .ok (.lload_n 2, 1) := by decide +kernel
theorem dX7_mean_56 : decode cX7_mean 56 = .ok (.aload_n 0, 1) := by decide +kernel
theorem dX7_mean_57 : decode cX7_mean 57 = .ok (.iload_n 1, 1) := by decide +kernel
theorem dX7_mean_58 : decode cX7_mean 58 = .ok (.iload 4, 2) := by decide +kernel
theorem dX7_mean_60 : decode cX7_mean 60 = .ok (.invokevirtual 110, 3) := by decide +kernel
theorem dX7_mean_63 : decode cX7_mean 63 = .ok (.i2l, 1) := by decide +kernel
theorem dX7_mean_64 : decode cX7_mean 64 = .ok (.ladd, 1) := by decide +kernel
theorem dX7_mean_65 : decode cX7_mean 65 = .ok (.lstore_n 2, 1) := by decide +kernel
theorem dX7_mean_66 : decode cX7_mean 66 = .ok (.iinc 4 1, 3) := by decide +kernel
theorem dX7_mean_69 : decode cX7_mean 69 = .ok (.goto (-25), 3) := by decide +kernel
theorem dX7_mean_72 : decode cX7_mean 72 = .ok (.aload_n 0, 1) := by decide +kernel
theorem dX7_mean_73 : decode cX7_mean 73 = .ok (.lload_n 2, 1) := by decide +kernel
theorem dX7_mean_74 : decode cX7_mean 74 = .ok (.aload_n 0, 1) := by decide +kernel
theorem dX7_mean_75 : decode cX7_mean 75 = .ok (.getfield 13, 3) := by decide +kernel
theorem dX7_mean_78 : decode cX7_mean 78 = .ok (.iload_n 1, 1) := by decide +kernel
theorem dX7_mean_79 : decode cX7_mean 79 = .ok (.iaload, 1) := by decide +kernel
theorem dX7_mean_80 : decode cX7_mean 80 = .ok (.i2l, 1) := by decide +kernel
theorem dX7_mean_81 : decode cX7_mean 81 = .ok (.ldiv, 1) := by decide +kernel
theorem dX7_mean_82 : decode cX7_mean 82 = .ok (.l2i, 1) := by decide +kernel
theorem dX7_mean_83 : decode cX7_mean 83 = .ok (.iconst 1, 1) := by decide +kernel
theorem dX7_mean_84 : decode cX7_mean 84 = .ok (.invokevirtual 114, 3) := by decide +kernel
theorem dX7_mean_87 : decode cX7_mean 87 = .ok (.ireturn, 1) := by decide +kernel
theorem dX7_isText_0 : decode cX7_isText 0 = .ok (.iload_n 0, 1) := by decide +kernel
theorem dX7_isText_1 : decode cX7_isText 1 = .ok (.iconst 0, 1) := by decide +kernel
theorem dX7_isText_2 : decode cX7_isText 2 = .ok (.iconst 3, 1) := by decide +kernel
theorem dX7_isText_3 : decode cX7_isText 3 = .ok (.invokestatic 92, 3) := by decide +kernel
theorem dX7_isText_6 : decode cX7_isText 6 = .ok (.ireturn, 1) := by decide +kernel
theorem dX7_text_0 : decode cX7_text 0 = .ok (.iload_n 1, 1) := by decide +kernel
theorem dX7_text_1 : decode cX7_text 1 = .ok (.invokestatic 117, 3) := by decide +kernel
theorem dX7_text_4 : decode cX7_text 4 = .ok (.ifCond .eq 9, 3) := by decide +kernel
theorem dX7_text_7 : decode cX7_text 7 = .ok (.iload_n 2, 1) := by decide +kernel
theorem dX7_text_8 : decode cX7_text 8 = .ok (.bipush 120, 2) := by decide +kernel
theorem dX7_text_10 : decode cX7_text 10 = .ok (.if_icmp .le 5, 3) := by decide +kernel
theorem dX7_text_13 : decode cX7_text 13 = .ok (.iconst (-1), 1) := by decide +kernel
theorem dX7_text_14 : decode cX7_text 14 = .ok (.ireturn, 1) := by decide +kernel
theorem dX7_text_15 : decode cX7_text 15 = .ok (.iload_n 2, 1) := by decide +kernel
theorem dX7_text_16 : decode cX7_text 16 = .ok (.ifCond .ge 9, 3) := by decide +kernel
theorem dX7_text_19 : decode cX7_text 19 = .ok (.aload_n 0, 1) := by decide +kernel
theorem dX7_text_20 : decode cX7_text 20 = .ok (.iconst 5, 1) := by decide +kernel
theorem dX7_text_21 : decode cX7_text 21 = .ok (.invokevirtual 106, 3) := by decide +kernel
theorem dX7_text_24 : decode cX7_text 24 = .ok (.ireturn, 1) := by decide +kernel
theorem dX7_text_25 : decode cX7_text 25 = .ok (.aload_n 0, 1) := by decide +kernel
theorem dX7_text_26 : decode cX7_text 26 = .ok (.getfield 22, 3) := by decide +kernel
theorem dX7_text_29 : decode cX7_text 29 = .ok (.iload_n 1, 1) := by decide +kernel
theorem dX7_text_30 : decode cX7_text 30 = .ok (.iload_n 2, 1) := by decide +kernel
theorem dX7_text_31 : decode cX7_text 31 = .ok (.iastore, 1) := by decide +kernel
theorem dX7_text_32 : decode cX7_text 32 = .ok (.iconst 0, 1) := by decide +kernel
theorem dX7_text_33 : decode cX7_text 33 = .ok (.istore_n 3, 1) := by decide +kernel
theorem dX7_text_34 : decode cX7_text 34 = .ok (.iload_n 3, 1) := by decide +kernel
theorem dX7_text_35 : decode cX7_text 35 = .ok (.bipush 120, 2) := by decide +kernel
theorem dX7_text_37 : decode cX7_text 37 = .ok (.if_icmp .ge 22, 3) := by decide +kernel
theorem dX7_text_40 : decode cX7_text 40 = .ok (.aload_n 0, 1) := by decide +kernel
theorem dX7_text_41 : decode cX7_text 41 = .ok (.getfield 25, 3) := by decide +kernel
theorem dX7_text_44 : decode cX7_text 44 = .ok (.bipush 120, 2) := by decide +kernel
theorem dX7_text_46 : decode cX7_text 46 = .ok (.iload_n 1, 1) := by decide +kernel
theorem dX7_text_47 : decode cX7_text 47 = .ok (.imul, 1) := by decide +kernel
theorem dX7_text_48 : decode cX7_text 48 = .ok (.iload_n 3, 1) := by decide +kernel
theorem dX7_text_49 : decode cX7_text 49 = .ok (.iadd, 1) := by decide +kernel
theorem dX7_text_50 : decode cX7_text 50 = .ok (.bipush 32, 2) := by decide +kernel
theorem dX7_text_52 : decode cX7_text 52 = .ok (.bastore, 1) := by decide +kernel
theorem dX7_text_53 : decode cX7_text 53 = .ok (.iinc 3 1, 3) := by decide +kernel
theorem dX7_text_56 : decode cX7_text 56 = .ok (.goto (-22), 3) := by decide +kernel
theorem dX7_text_59 : decode cX7_text 59 = .ok (.iload_n 2, 1) := by decide +kernel
theorem dX7_text_60 : decode cX7_text 60 = .ok (.ireturn, 1) := by decide +kernel
theorem dX7_put_0 : decode cX7_put 0 = .ok (.iload_n 1, 1) := by decide +kernel
theorem dX7_put_1 : decode cX7_put 1 = .ok (.invokestatic 117, 3) := by decide +kernel
theorem dX7_put_4 : decode cX7_put 4 = .ok (.ifCond .ne 5, 3) := by decide +kernel
theorem dX7_put_7 : decode cX7_put 7 = .ok (.iconst (-1), 1) := by decide +kernel
theorem dX7_put_8 : decode cX7_put 8 = .ok (.ireturn, 1) := by decide +kernel
theorem dX7_put_9 : decode cX7_put 9 = .ok (.aload_n 0, 1) := by decide +kernel
theorem dX7_put_10 : decode cX7_put 10 = .ok (.getfield 22, 3) := by decide +kernel
theorem dX7_put_13 : decode cX7_put 13 = .ok (.iload_n 1, 1) := by decide +kernel
theorem dX7_put_14 : decode cX7_put 14 = .ok (.iaload, 1) := by decide +kernel
theorem dX7_put_15 : decode cX7_put 15 = .ok (.ifCond .ge 9, 3) := by decide +kernel
theorem dX7_put_18 : decode cX7_put 18 = .ok (.aload_n 0, 1) := by decide +kernel
theorem dX7_put_19 : decode cX7_put 19 = .ok (.iconst 1, 1) := by decide +kernel
theorem dX7_put_20 : decode cX7_put 20 = .ok (.invokevirtual 106, 3) := by decide +kernel
theorem dX7_put_23 : decode cX7_put 23 = .ok (.ireturn, 1) := by decide +kernel
theorem dX7_put_24 : decode cX7_put 24 = .ok (.iload_n 2, 1) := by decide +kernel
theorem dX7_put_25 : decode cX7_put 25 = .ok (.iconst 0, 1) := by decide +kernel
theorem dX7_put_26 : decode cX7_put 26 = .ok (.aload_n 0, 1) := by decide +kernel
theorem dX7_put_27 : decode cX7_put 27 = .ok (.getfield 22, 3) := by decide +kernel
theorem dX7_put_30 : decode cX7_put 30 = .ok (.iload_n 1, 1) := by decide +kernel
theorem dX7_put_31 : decode cX7_put 31 = .ok (.iaload, 1) := by decide +kernel
theorem dX7_put_32 : decode cX7_put 32 = .ok (.iconst 1, 1) := by decide +kernel
theorem dX7_put_33 : decode cX7_put 33 = .ok (.isub, 1) := by decide +kernel
theorem dX7_put_34 : decode cX7_put 34 = .ok (.invokestatic 92, 3) := by decide +kernel
theorem dX7_put_37 : decode cX7_put 37 = .ok (.ifCond .ne 9, 3) := by decide +kernel
theorem dX7_put_40 : decode cX7_put 40 = .ok (.aload_n 0, 1) := by decide +kernel
theorem dX7_put_41 : decode cX7_put 41 = .ok (.iconst 2, 1) := by decide +kernel
theorem dX7_put_42 : decode cX7_put 42 = .ok (.invokevirtual 106, 3) := by decide +kernel
theorem dX7_put_45 : decode cX7_put 45 = .ok (.ireturn, 1) := by decide +kernel
theorem dX7_put_46 : decode cX7_put 46 = .ok (.aload_n 0, 1) := by decide +kernel
theorem dX7_put_47 : decode cX7_put 47 = .ok (.getfield 25, 3) := by decide +kernel
theorem dX7_put_50 : decode cX7_put 50 = .ok (.bipush 120, 2) := by decide +kernel
theorem dX7_put_52 : decode cX7_put 52 = .ok (.iload_n 1, 1) := by decide +kernel
theorem dX7_put_53 : decode cX7_put 53 = .ok (.imul, 1) := by decide +kernel
theorem dX7_put_54 : decode cX7_put 54 = .ok (.iload_n 2, 1) := by decide +kernel
theorem dX7_put_55 : decode cX7_put 55 = .ok (.iadd, 1) := by decide +kernel
theorem dX7_put_56 : decode cX7_put 56 = .ok (.baload, 1) := by decide +kernel
theorem dX7_put_57 : decode cX7_put 57 = .ok (.istore 4, 2) := by decide +kernel
theorem dX7_put_59 : decode cX7_put 59 = .ok (.aload_n 0, 1) := by decide +kernel
theorem dX7_put_60 : decode cX7_put 60 = .ok (.getfield 25, 3) := by decide +kernel
theorem dX7_put_63 : decode cX7_put 63 = .ok (.bipush 120, 2) := by decide +kernel
theorem dX7_put_65 : decode cX7_put 65 = .ok (.iload_n 1, 1) := by decide +kernel
theorem dX7_put_66 : decode cX7_put 66 = .ok (.imul, 1) := by decide +kernel
theorem dX7_put_67 : decode cX7_put 67 = .ok (.iload_n 2, 1) := by decide +kernel
theorem dX7_put_68 : decode cX7_put 68 = .ok (.iadd, 1) := by decide +kernel
theorem dX7_put_69 : decode cX7_put 69 = .ok (.iload_n 3, 1) := by decide +kernel
theorem dX7_put_70 : decode cX7_put 70 = .ok (.i2b, 1) := by decide +kernel
theorem dX7_put_71 : decode cX7_put 71 = .ok (.bastore, 1) := by decide +kernel
theorem dX7_put_72 : decode cX7_put 72 = .ok (.sipush 1000, 3) := by decide +kernel
theorem dX7_put_75 : decode cX7_put 75 = .ok (.iload 4, 2) := by decide +kernel
theorem dX7_put_77 : decode cX7_put 77 = .ok (.iadd, 1) := by decide +kernel
theorem dX7_put_78 : decode cX7_put 78 = .ok (.ireturn, 1) := by decide +kernel
theorem dX7_byteAt_0 : decode cX7_byteAt 0 = .ok (.iload_n 2, 1) := by decide +kernel
theorem dX7_byteAt_1 : decode cX7_byteAt 1 = .ok (.aload_n 0, 1) := by decide +kernel
theorem dX7_byteAt_2 : decode cX7_byteAt 2 = .ok (.getfield 22, 3) := by decide +kernel
theorem dX7_byteAt_5 : decode cX7_byteAt 5 = .ok (.iload_n 1, 1) := by decide +kernel
theorem dX7_byteAt_6 : decode cX7_byteAt 6 = .ok (.iaload, 1) := by decide +kernel
theorem dX7_byteAt_7 : decode cX7_byteAt 7 = .ok (.if_icmp .ge 17, 3) := by decide +kernel
theorem dX7_byteAt_10 : decode cX7_byteAt 10 = .ok (.aload_n 0, 1) := by decide +kernel
theorem dX7_byteAt_11 : decode cX7_byteAt 11 = .ok (.getfield 25, 3) := by decide +kernel
theorem dX7_byteAt_14 : decode cX7_byteAt 14 = .ok (.bipush 120, 2) := by decide +kernel
theorem dX7_byteAt_16 : decode cX7_byteAt 16 = .ok (.iload_n 1, 1) := by decide +kernel
theorem dX7_byteAt_17 : decode cX7_byteAt 17 = .ok (.imul, 1) := by decide +kernel
theorem dX7_byteAt_18 : decode cX7_byteAt 18 = .ok (.iload_n 2, 1) := by decide +kernel
theorem dX7_byteAt_19 : decode cX7_byteAt 19 = .ok (.iadd, 1) := by decide +kernel
theorem dX7_byteAt_20 : decode cX7_byteAt 20 = .ok (.baload, 1) := by decide +kernel
theorem dX7_byteAt_21 : decode cX7_byteAt 21 = .ok (.goto 4, 3) := by decide +kernel
theorem dX7_byteAt_24 : decode cX7_byteAt 24 = .ok (.iconst 0, 1) := by decide +kernel
theorem dX7_byteAt_25 : decode cX7_byteAt 25 = .ok (.ireturn, 1) := by decide +kernel
theorem dX7_thing_0 : decode cX7_thing 0 = .ok (.aload_n 0, 1) := by decide +kernel
theorem dX7_thing_1 : decode cX7_thing 1 = .ok (.aload_n 0, 1) := by decide +kernel
theorem dX7_thing_2 : decode cX7_thing 2 = .ok (.iload_n 1, 1) := by decide +kernel
theorem dX7_thing_3 : decode cX7_thing 3 = .ok (.aload_n 0, 1) := by decide +kernel
theorem dX7_thing_4 : decode cX7_thing 4 = .ok (.getfield 120, 3) := by decide +kernel
theorem dX7_thing_7 : decode cX7_thing 7 = .ok (.invokevirtual 123, 3) := by decide +kernel
theorem dX7_thing_10 : decode cX7_thing 10 = .ok (.bipush 65, 2) := by decide +kernel
theorem dX7_thing_12 : decode cX7_thing 12 = .ok (.isub, 1) := by decide +kernel
theorem dX7_thing_13 : decode cX7_thing 13 = .ok (.putfield 126, 3) := by decide +kernel
theorem dX7_thing_16 : decode cX7_thing 16 = .ok (.aload_n 0, 1) := by decide +kernel
theorem dX7_thing_17 : decode cX7_thing 17 = .ok (.getfield 126, 3) := by decide +kernel
theorem dX7_thing_20 : decode cX7_thing 20 = .ok (.iconst 0, 1) := by decide +kernel
theorem dX7_thing_21 : decode cX7_thing 21 = .ok (.aload_n 0, 1) := by decide +kernel
theorem dX7_thing_22 : decode cX7_thing 22 = .ok (.getfield 129, 3) := by decide +kernel
theorem dX7_thing_25 : decode cX7_thing 25 = .ok (.iconst 1, 1) := by decide +kernel
theorem dX7_thing_26 : decode cX7_thing 26 = .ok (.isub, 1) := by decide +kernel
theorem dX7_thing_27 : decode cX7_thing 27 = .ok (.invokestatic 92, 3) := by decide +kernel
theorem dX7_thing_30 : decode cX7_thing 30 = .ok (.ifCond .eq 23, 3) := by decide +kernel
theorem dX7_thing_33 : decode cX7_thing 33 = .ok (.aload_n 0, 1) := by decide +kernel
theorem dX7_thing_34 : decode cX7_thing 34 = .ok (.getfield 126, 3) := by decide +kernel
theorem dX7_thing_37 : decode cX7_thing 37 = .ok (.iload_n 2, 1) := by decide +kernel
theorem dX7_thing_38 : decode cX7_thing 38 = .ok (.if_icmp .eq 15, 3) := by decide +kernel
theorem dX7_thing_41 : decode cX7_thing 41 = .ok (.aload_n 0, 1) := by decide +kernel
theorem dX7_thing_42 : decode cX7_thing 42 = .ok (.getfield 126, 3) := by decide +kernel
theorem dX7_thing_45 : decode cX7_thing 45 = .ok (.iload_n 3, 1) := by decide +kernel
theorem dX7_thing_46 : decode cX7_thing 46 = .ok (.if_icmp .eq 7, 3) := by decide +kernel
theorem dX7_thing_49 : decode cX7_thing 49 = .ok (.iconst 1, 1) := by decide +kernel
theorem dX7_thing_50 : decode cX7_thing 50 = .ok (.goto 4, 3) := by decide +kernel
theorem dX7_thing_53 : decode cX7_thing 53 = .ok (.iconst 0, 1) := by decide +kernel
theorem dX7_thing_54 : decode cX7_thing 54 = .ok (.istore 4, 2) := by decide +kernel
theorem dX7_thing_56 : decode cX7_thing 56 = .ok (.aload_n 0, 1) := by decide +kernel
theorem dX7_thing_57 : decode cX7_thing 57 = .ok (.dup, 1) := by decide +kernel
theorem dX7_thing_58 : decode cX7_thing 58 = .ok (.getfield 120, 3) := by decide +kernel
theorem dX7_thing_61 : decode cX7_thing 61 = .ok (.iload 4, 2) := by decide +kernel
theorem dX7_thing_63 : decode cX7_thing 63 = .ok (.ifCond .eq 7, 3) := by decide +kernel
theorem dX7_thing_66 : decode cX7_thing 66 = .ok (.iconst 1, 1) := by decide +kernel
theorem dX7_thing_67 : decode cX7_thing 67 = .ok (.goto 4, 3) := by decide +kernel
theorem dX7_thing_70 : decode cX7_thing 70 = .ok (.iconst 0, 1) := by decide +kernel
theorem dX7_thing_71 : decode cX7_thing 71 = .ok (.iadd, 1) := by decide +kernel
theorem dX7_thing_72 : decode cX7_thing 72 = .ok (.putfield 120, 3) := by decide +kernel
theorem dX7_thing_75 : decode cX7_thing 75 = .ok (.iload 4, 2) := by decide +kernel
theorem dX7_thing_77 : decode cX7_thing 77 = .ok (.ireturn, 1) := by decide +kernel
theorem dX7_figure_0 : decode cX7_figure 0 = .ok (.aload_n 0, 1) := by decide +kernel
theorem dX7_figure_1 : decode cX7_figure 1 = .ok (.aload_n 0, 1) := by decide +kernel
theorem dX7_figure_2 : decode cX7_figure 2 = .ok (.iload_n 1, 1) := by decide +kernel
theorem dX7_figure_3 : decode cX7_figure 3 = .ok (.aload_n 0, 1) := by decide +kernel
theorem dX7_figure_4 : decode cX7_figure 4 = .ok (.getfield 120, 3) := by decide +kernel
theorem dX7_figure_7 : decode cX7_figure 7 = .ok (.invokevirtual 123, 3) := by decide +kernel
theorem dX7_figure_10 : decode cX7_figure 10 = .ok (.bipush 48, 2) := by decide +kernel
theorem dX7_figure_12 : decode cX7_figure 12 = .ok (.isub, 1) := by decide +kernel
theorem dX7_figure_13 : decode cX7_figure 13 = .ok (.putfield 126, 3) := by decide +kernel
theorem dX7_figure_16 : decode cX7_figure 16 = .ok (.aload_n 0, 1) := by decide +kernel
theorem dX7_figure_17 : decode cX7_figure 17 = .ok (.getfield 126, 3) := by decide +kernel
theorem dX7_figure_20 : decode cX7_figure 20 = .ok (.iconst 0, 1) := by decide +kernel
theorem dX7_figure_21 : decode cX7_figure 21 = .ok (.bipush 9, 2) := by decide +kernel
theorem dX7_figure_23 : decode cX7_figure 23 = .ok (.invokestatic 92, 3) := by decide +kernel
theorem dX7_figure_26 : decode cX7_figure 26 = .ok (.istore_n 2, 1) := by decide +kernel
theorem dX7_figure_27 : decode cX7_figure 27 = .ok (.aload_n 0, 1) := by decide +kernel
theorem dX7_figure_28 : decode cX7_figure 28 = .ok (.dup, 1) := by decide +kernel
theorem dX7_figure_29 : decode cX7_figure 29 = .ok (.getfield 120, 3) := by decide +kernel
theorem dX7_figure_32 : decode cX7_figure 32 = .ok (.iload_n 2, 1) := by decide +kernel
theorem dX7_figure_33 : decode cX7_figure 33 = .ok (.ifCond .eq 7, 3) := by decide +kernel
theorem dX7_figure_36 : decode cX7_figure 36 = .ok (.iconst 1, 1) := by decide +kernel
theorem dX7_figure_37 : decode cX7_figure 37 = .ok (.goto 4, 3) := by decide +kernel
theorem dX7_figure_40 : decode cX7_figure 40 = .ok (.iconst 0, 1) := by decide +kernel
theorem dX7_figure_41 : decode cX7_figure 41 = .ok (.iadd, 1) := by decide +kernel
theorem dX7_figure_42 : decode cX7_figure 42 = .ok (.putfield 120, 3) := by decide +kernel
theorem dX7_figure_45 : decode cX7_figure 45 = .ok (.iload_n 2, 1) := by decide +kernel
theorem dX7_figure_46 : decode cX7_figure 46 = .ok (.ireturn, 1) := by decide +kernel
theorem dX7_readsCount_0 : decode cX7_readsCount 0 = .ok (.aload_n 0, 1) := by decide +kernel
theorem dX7_readsCount_1 : decode cX7_readsCount 1 = .ok (.iload_n 1, 1) := by decide +kernel
theorem dX7_readsCount_2 : decode cX7_readsCount 2 = .ok (.aload_n 0, 1) := by decide +kernel
theorem dX7_readsCount_3 : decode cX7_readsCount 3 = .ok (.getfield 120, 3) := by decide +kernel
theorem dX7_readsCount_6 : decode cX7_readsCount 6 = .ok (.invokevirtual 123, 3) := by decide +kernel
theorem dX7_readsCount_9 : decode cX7_readsCount 9 = .ok (.bipush 110, 2) := by decide +kernel
theorem dX7_readsCount_11 : decode cX7_readsCount 11 = .ok (.if_icmp .eq 5, 3) := by decide +kernel
theorem dX7_readsCount_14 : decode cX7_readsCount 14 = .ok (.iconst 0, 1) := by decide +kernel
theorem dX7_readsCount_15 : decode cX7_readsCount 15 = .ok (.ireturn, 1) := by decide +kernel
theorem dX7_readsCount_16 : decode cX7_readsCount 16 = .ok (.aload_n 0, 1) := by decide +kernel
theorem dX7_readsCount_17 : decode cX7_readsCount 17 = .ok (.dup, 1) := by decide +kernel
theorem dX7_readsCount_18 : decode cX7_readsCount 18 = .ok (.getfield 120, 3) := by decide +kernel
theorem dX7_readsCount_21 : decode cX7_readsCount 21 = .ok (.iconst 1, 1) := by decide +kernel
theorem dX7_readsCount_22 : decode cX7_readsCount 22 = .ok (.iadd, 1) := by decide +kernel
theorem dX7_readsCount_23 : decode cX7_readsCount 23 = .ok (.putfield 120, 3) := by decide +kernel
theorem dX7_readsCount_26 : decode cX7_readsCount 26 = .ok (.iconst 0, 1) := by decide +kernel
theorem dX7_readsCount_27 : decode cX7_readsCount 27 = .ok (.istore_n 2, 1) := by decide +kernel
theorem dX7_readsCount_28 : decode cX7_readsCount 28 = .ok (.iconst 0, 1) := by decide +kernel
theorem dX7_readsCount_29 : decode cX7_readsCount 29 = .ok (.istore_n 3, 1) := by decide +kernel
theorem dX7_readsCount_30 : decode cX7_readsCount 30 = .ok (.iload_n 2, 1) := by decide +kernel
theorem dX7_readsCount_31 : decode cX7_readsCount 31 = .ok (.iconst 2, 1) := by decide +kernel
theorem dX7_readsCount_32 : decode cX7_readsCount 32 = .ok (.if_icmp .ge 56, 3) := by decide +kernel
theorem dX7_readsCount_35 : decode cX7_readsCount 35 = .ok (.aload_n 0, 1) := by decide +kernel
theorem dX7_readsCount_36 : decode cX7_readsCount 36 = .ok (.iload_n 1, 1) := by decide +kernel
theorem dX7_readsCount_37 : decode cX7_readsCount 37 = .ok (.aload_n 0, 1) := by decide +kernel
theorem dX7_readsCount_38 : decode cX7_readsCount 38 = .ok (.getfield 120, 3) := by decide +kernel
theorem dX7_readsCount_41 : decode cX7_readsCount 41 = .ok (.invokevirtual 123, 3) := by decide +kernel
theorem dX7_readsCount_44 : decode cX7_readsCount 44 = .ok (.bipush 48, 2) := by decide +kernel
theorem dX7_readsCount_46 : decode cX7_readsCount 46 = .ok (.bipush 57, 2) := by decide +kernel
theorem dX7_readsCount_48 : decode cX7_readsCount 48 = .ok (.invokestatic 92, 3) := by decide +kernel
theorem dX7_readsCount_51 : decode cX7_readsCount 51 = .ok (.ifCond .eq 37, 3) := by decide +kernel
theorem dX7_readsCount_54 : decode cX7_readsCount 54 = .ok (.bipush 10, 2) := by decide +kernel
theorem dX7_readsCount_56 : decode cX7_readsCount 56 = .ok (.iload_n 3, 1) := by decide +kernel
theorem dX7_readsCount_57 : decode cX7_readsCount 57 = .ok (.imul, 1) := by decide +kernel
theorem dX7_readsCount_58 : decode cX7_readsCount 58 = .ok (.aload_n 0, 1) := by decide +kernel
theorem dX7_readsCount_59 : decode cX7_readsCount 59 = .ok (.iload_n 1, 1) := by decide +kernel
theorem dX7_readsCount_60 : decode cX7_readsCount 60 = .ok (.aload_n 0, 1) := by decide +kernel
theorem dX7_readsCount_61 : decode cX7_readsCount 61 = .ok (.getfield 120, 3) := by decide +kernel
theorem dX7_readsCount_64 : decode cX7_readsCount 64 = .ok (.invokevirtual 123, 3) := by decide +kernel
theorem dX7_readsCount_67 : decode cX7_readsCount 67 = .ok (.iadd, 1) := by decide +kernel
theorem dX7_readsCount_68 : decode cX7_readsCount 68 = .ok (.bipush 48, 2) := by decide +kernel
theorem dX7_readsCount_70 : decode cX7_readsCount 70 = .ok (.isub, 1) := by decide +kernel
theorem dX7_readsCount_71 : decode cX7_readsCount 71 = .ok (.istore_n 3, 1) := by decide +kernel
theorem dX7_readsCount_72 : decode cX7_readsCount 72 = .ok (.aload_n 0, 1) := by decide +kernel
theorem dX7_readsCount_73 : decode cX7_readsCount 73 = .ok (.dup, 1) := by decide +kernel
theorem dX7_readsCount_74 : decode cX7_readsCount 74 = .ok (.getfield 120, 3) := by decide +kernel
theorem dX7_readsCount_77 : decode cX7_readsCount 77 = .ok (.iconst 1, 1) := by decide +kernel
theorem dX7_readsCount_78 : decode cX7_readsCount 78 = .ok (.iadd, 1) := by decide +kernel
theorem dX7_readsCount_79 : decode cX7_readsCount 79 = .ok (.putfield 120, 3) := by decide +kernel
theorem dX7_readsCount_82 : decode cX7_readsCount 82 = .ok (.iinc 2 1, 3) := by decide +kernel
theorem dX7_readsCount_85 : decode cX7_readsCount 85 = .ok (.goto (-55), 3) := by decide +kernel
theorem dX7_readsCount_88 : decode cX7_readsCount 88 = .ok (.iload_n 2, 1) := by decide +kernel
theorem dX7_readsCount_89 : decode cX7_readsCount 89 = .ok (.ifCond .eq 13, 3) := by decide +kernel
theorem dX7_readsCount_92 : decode cX7_readsCount 92 = .ok (.iload_n 3, 1) := by decide +kernel
theorem dX7_readsCount_93 : decode cX7_readsCount 93 = .ok (.iconst 1, 1) := by decide +kernel
theorem dX7_readsCount_94 : decode cX7_readsCount 94 = .ok (.bipush 10, 2) := by decide +kernel
theorem dX7_readsCount_96 : decode cX7_readsCount 96 = .ok (.invokestatic 92, 3) := by decide +kernel
theorem dX7_readsCount_99 : decode cX7_readsCount 99 = .ok (.ifCond .ne 5, 3) := by decide +kernel
theorem dX7_readsCount_102 : decode cX7_readsCount 102 = .ok (.iconst 0, 1) := by decide +kernel
theorem dX7_readsCount_103 : decode cX7_readsCount 103 = .ok (.ireturn, 1) := by decide +kernel
theorem dX7_readsCount_104 : decode cX7_readsCount 104 = .ok (.aload_n 0, 1) := by decide +kernel
theorem dX7_readsCount_105 : decode cX7_readsCount 105 = .ok (.iload_n 3, 1) := by decide +kernel
theorem dX7_readsCount_106 : decode cX7_readsCount 106 = .ok (.putfield 129, 3) := by decide +kernel
theorem dX7_readsCount_109 : decode cX7_readsCount 109 = .ok (.iconst 1, 1) := by decide +kernel
theorem dX7_readsCount_110 : decode cX7_readsCount 110 = .ok (.ireturn, 1) := by decide +kernel
theorem dX7_kindOf_0 : decode cX7_kindOf 0 = .ok (.iload_n 0, 1) := by decide +kernel
theorem dX7_kindOf_1 : decode cX7_kindOf 1 = .ok (.lookupswitch 72 #[(33, 67), (43, 61), (60, 59), (63, 69), (64, 63), (94, 65)], 59) := by decide +kernel
theorem dX7_kindOf_60 : decode cX7_kindOf 60 = .ok (.iconst 1, 1) := by decide +kernel
theorem dX7_kindOf_61 : decode cX7_kindOf 61 = .ok (.ireturn, 1) := by decide +kernel
theorem dX7_kindOf_62 : decode cX7_kindOf 62 = .ok (.iconst 2, 1) := by decide +kernel
theorem dX7_kindOf_63 : decode cX7_kindOf 63 = .ok (.ireturn, 1) := by decide +kernel
theorem dX7_kindOf_64 : decode cX7_kindOf 64 = .ok (.iconst 3, 1) := by decide +kernel
theorem dX7_kindOf_65 : decode cX7_kindOf 65 = .ok (.ireturn, 1) := by decide +kernel
theorem dX7_kindOf_66 : decode cX7_kindOf 66 = .ok (.iconst 4, 1) := by decide +kernel
theorem dX7_kindOf_67 : decode cX7_kindOf 67 = .ok (.ireturn, 1) := by decide +kernel
theorem dX7_kindOf_68 : decode cX7_kindOf 68 = .ok (.iconst 5, 1) := by decide +kernel
theorem dX7_kindOf_69 : decode cX7_kindOf 69 = .ok (.ireturn, 1) := by decide +kernel
theorem dX7_kindOf_70 : decode cX7_kindOf 70 = .ok (.bipush 6, 2) := by decide +kernel
theorem dX7_kindOf_72 : decode cX7_kindOf 72 = .ok (.ireturn, 1) := by decide +kernel
theorem dX7_kindOf_73 : decode cX7_kindOf 73 = .ok (.bipush (-9), 2) := by decide +kernel
theorem dX7_kindOf_75 : decode cX7_kindOf 75 = .ok (.ireturn, 1) := by decide +kernel
theorem dX7_readsTie_0 : decode cX7_readsTie 0 = .ok (.aload_n 0, 1) := by decide +kernel
theorem dX7_readsTie_1 : decode cX7_readsTie 1 = .ok (.iload_n 1, 1) := by decide +kernel
theorem dX7_readsTie_2 : decode cX7_readsTie 2 = .ok (.iload_n 2, 1) := by decide +kernel
theorem dX7_readsTie_3 : decode cX7_readsTie 3 = .ok (.iconst (-1), 1) := by decide +kernel
theorem dX7_readsTie_4 : decode cX7_readsTie 4 = .ok (.invokevirtual 132, 3) := by decide +kernel
theorem dX7_readsTie_7 : decode cX7_readsTie 7 = .ok (.ifCond .ne 5, 3) := by decide +kernel
theorem dX7_readsTie_10 : decode cX7_readsTie 10 = .ok (.iconst 0, 1) := by decide +kernel
theorem dX7_readsTie_11 : decode cX7_readsTie 11 = .ok (.ireturn, 1) := by decide +kernel
theorem dX7_readsTie_12 : decode cX7_readsTie 12 = .ok (.aload_n 0, 1) := by decide +kernel
theorem dX7_readsTie_13 : decode cX7_readsTie 13 = .ok (.getfield 126, 3) := by decide +kernel
theorem dX7_readsTie_16 : decode cX7_readsTie 16 = .ok (.istore_n 3, 1) := by decide +kernel
theorem dX7_readsTie_17 : decode cX7_readsTie 17 = .ok (.aload_n 0, 1) := by decide +kernel
theorem dX7_readsTie_18 : decode cX7_readsTie 18 = .ok (.iload_n 1, 1) := by decide +kernel
theorem dX7_readsTie_19 : decode cX7_readsTie 19 = .ok (.invokevirtual 135, 3) := by decide +kernel
theorem dX7_readsTie_22 : decode cX7_readsTie 22 = .ok (.ifCond .ne 5, 3) := by decide +kernel
theorem dX7_readsTie_25 : decode cX7_readsTie 25 = .ok (.iconst 0, 1) := by decide +kernel
theorem dX7_readsTie_26 : decode cX7_readsTie 26 = .ok (.ireturn, 1) := by decide +kernel
theorem dX7_readsTie_27 : decode cX7_readsTie 27 = .ok (.aload_n 0, 1) := by decide +kernel
theorem dX7_readsTie_28 : decode cX7_readsTie 28 = .ok (.getfield 35, 3) := by decide +kernel
theorem dX7_readsTie_31 : decode cX7_readsTie 31 = .ok (.bipush 10, 2) := by decide +kernel
theorem dX7_readsTie_33 : decode cX7_readsTie 33 = .ok (.iload_n 2, 1) := by decide +kernel
theorem dX7_readsTie_34 : decode cX7_readsTie 34 = .ok (.imul, 1) := by decide +kernel
theorem dX7_readsTie_35 : decode cX7_readsTie 35 = .ok (.iload_n 3, 1) := by decide +kernel
theorem dX7_readsTie_36 : decode cX7_readsTie 36 = .ok (.iadd, 1) := by decide +kernel
theorem dX7_readsTie_37 : decode cX7_readsTie 37 = .ok (.aload_n 0, 1) := by decide +kernel
theorem dX7_readsTie_38 : decode cX7_readsTie 38 = .ok (.getfield 126, 3) := by decide +kernel
theorem dX7_readsTie_41 : decode cX7_readsTie 41 = .ok (.iastore, 1) := by decide +kernel
theorem dX7_readsTie_42 : decode cX7_readsTie 42 = .ok (.aload_n 0, 1) := by decide +kernel
theorem dX7_readsTie_43 : decode cX7_readsTie 43 = .ok (.getfield 35, 3) := by decide +kernel
theorem dX7_readsTie_46 : decode cX7_readsTie 46 = .ok (.bipush 10, 2) := by decide +kernel
theorem dX7_readsTie_48 : decode cX7_readsTie 48 = .ok (.iload_n 3, 1) := by decide +kernel
theorem dX7_readsTie_49 : decode cX7_readsTie 49 = .ok (.imul, 1) := by decide +kernel
theorem dX7_readsTie_50 : decode cX7_readsTie 50 = .ok (.iload_n 2, 1) := by decide +kernel
theorem dX7_readsTie_51 : decode cX7_readsTie 51 = .ok (.iadd, 1) := by decide +kernel
theorem dX7_readsTie_52 : decode cX7_readsTie 52 = .ok (.aload_n 0, 1) := by decide +kernel
theorem dX7_readsTie_53 : decode cX7_readsTie 53 = .ok (.getfield 126, 3) := by decide +kernel
theorem dX7_readsTie_56 : decode cX7_readsTie 56 = .ok (.iastore, 1) := by decide +kernel
theorem dX7_readsTie_57 : decode cX7_readsTie 57 = .ok (.iconst 1, 1) := by decide +kernel
theorem dX7_readsTie_58 : decode cX7_readsTie 58 = .ok (.ireturn, 1) := by decide +kernel
theorem dX7_readsItem_0 : decode cX7_readsItem 0 = .ok (.aload_n 0, 1) := by decide +kernel
theorem dX7_readsItem_1 : decode cX7_readsItem 1 = .ok (.getfield 120, 3) := by decide +kernel
theorem dX7_readsItem_4 : decode cX7_readsItem 4 = .ok (.istore_n 2, 1) := by decide +kernel
theorem dX7_readsItem_5 : decode cX7_readsItem 5 = .ok (.aload_n 0, 1) := by decide +kernel
theorem dX7_readsItem_6 : decode cX7_readsItem 6 = .ok (.iload_n 1, 1) := by decide +kernel
theorem dX7_readsItem_7 : decode cX7_readsItem 7 = .ok (.iconst (-1), 1) := by decide +kernel
theorem dX7_readsItem_8 : decode cX7_readsItem 8 = .ok (.iconst (-1), 1) := by decide +kernel
theorem dX7_readsItem_9 : decode cX7_readsItem 9 = .ok (.invokevirtual 132, 3) := by decide +kernel
theorem dX7_readsItem_12 : decode cX7_readsItem 12 = .ok (.ifCond .ne 5, 3) := by decide +kernel
theorem dX7_readsItem_15 : decode cX7_readsItem 15 = .ok (.iconst 0, 1) := by decide +kernel
theorem dX7_readsItem_16 : decode cX7_readsItem 16 = .ok (.ireturn, 1) := by decide +kernel
theorem dX7_readsItem_17 : decode cX7_readsItem 17 = .ok (.aload_n 0, 1) := by decide +kernel
theorem dX7_readsItem_18 : decode cX7_readsItem 18 = .ok (.getfield 126, 3) := by decide +kernel
theorem dX7_readsItem_21 : decode cX7_readsItem 21 = .ok (.istore_n 3, 1) := by decide +kernel
theorem dX7_readsItem_22 : decode cX7_readsItem 22 = .ok (.aload_n 0, 1) := by decide +kernel
theorem dX7_readsItem_23 : decode cX7_readsItem 23 = .ok (.iload_n 1, 1) := by decide +kernel
theorem dX7_readsItem_24 : decode cX7_readsItem 24 = .ok (.aload_n 0, 1) := by decide +kernel
theorem dX7_readsItem_25 : decode cX7_readsItem 25 = .ok (.getfield 120, 3) := by decide +kernel
theorem dX7_readsItem_28 : decode cX7_readsItem 28 = .ok (.invokevirtual 123, 3) := by decide +kernel
theorem dX7_readsItem_31 : decode cX7_readsItem 31 = .ok (.istore 4, 2) := by decide +kernel
theorem dX7_readsItem_33 : decode cX7_readsItem 33 = .ok (.iload 4, 2) := by decide +kernel
theorem dX7_readsItem_35 : decode cX7_readsItem 35 = .ok (.invokestatic 138, 3) := by decide +kernel
theorem dX7_readsItem_38 : decode cX7_readsItem 38 = .ok (.istore 5, 2) := by decide +kernel
theorem dX7_readsItem_40 : decode cX7_readsItem 40 = .ok (.iload 5, 2) := by decide +kernel
theorem dX7_readsItem_42 : decode cX7_readsItem 42 = .ok (.bipush (-9), 2) := by decide +kernel
theorem dX7_readsItem_44 : decode cX7_readsItem 44 = .ok (.if_icmp .ne 30, 3) := by decide +kernel
theorem dX7_readsItem_47 : decode cX7_readsItem 47 = .ok (.iload 4, 2) := by decide +kernel
theorem dX7_readsItem_49 : decode cX7_readsItem 49 = .ok (.bipush 65, 2) := by decide +kernel
theorem dX7_readsItem_51 : decode cX7_readsItem 51 = .ok (.bipush 90, 2) := by decide +kernel
theorem dX7_readsItem_53 : decode cX7_readsItem 53 = .ok (.invokestatic 92, 3) := by decide +kernel
theorem dX7_readsItem_56 : decode cX7_readsItem 56 = .ok (.ifCond .eq 16, 3) := by decide +kernel
theorem dX7_readsItem_59 : decode cX7_readsItem 59 = .ok (.aload_n 0, 1) := by decide +kernel
theorem dX7_readsItem_60 : decode cX7_readsItem 60 = .ok (.iload_n 1, 1) := by decide +kernel
theorem dX7_readsItem_61 : decode cX7_readsItem 61 = .ok (.iload_n 3, 1) := by decide +kernel
theorem dX7_readsItem_62 : decode cX7_readsItem 62 = .ok (.invokevirtual 141, 3) := by decide +kernel
theorem dX7_readsItem_65 : decode cX7_readsItem 65 = .ok (.ifCond .eq 7, 3) := by decide +kernel
theorem dX7_readsItem_68 : decode cX7_readsItem 68 = .ok (.iconst 1, 1) := by decide +kernel
theorem dX7_readsItem_69 : decode cX7_readsItem 69 = .ok (.goto 4, 3) := by decide +kernel
theorem dX7_readsItem_72 : decode cX7_readsItem 72 = .ok (.iconst 0, 1) := by decide +kernel
theorem dX7_readsItem_73 : decode cX7_readsItem 73 = .ok (.ireturn, 1) := by decide +kernel
theorem dX7_readsItem_74 : decode cX7_readsItem 74 = .ok (.aload_n 0, 1) := by decide +kernel
theorem dX7_readsItem_75 : decode cX7_readsItem 75 = .ok (.getfield 145, 3) := by decide +kernel
theorem dX7_readsItem_78 : decode cX7_readsItem 78 = .ok (.bipush 8, 2) := by decide +kernel
theorem dX7_readsItem_80 : decode cX7_readsItem 80 = .ok (.if_icmp .ne 10, 3) := by decide +kernel
theorem dX7_readsItem_83 : decode cX7_readsItem 83 = .ok (.aload_n 0, 1) := by decide +kernel
theorem dX7_readsItem_84 : decode cX7_readsItem 84 = .ok (.iload_n 2, 1) := by decide +kernel
theorem dX7_readsItem_85 : decode cX7_readsItem 85 = .ok (.putfield 120, 3) := by decide +kernel
theorem dX7_readsItem_88 : decode cX7_readsItem 88 = .ok (.iconst 0, 1) := by decide +kernel
theorem dX7_readsItem_89 : decode cX7_readsItem 89 = .ok (.ireturn, 1) := by decide +kernel
theorem dX7_readsItem_90 : decode cX7_readsItem 90 = .ok (.aload_n 0, 1) := by decide +kernel
theorem dX7_readsItem_91 : decode cX7_readsItem 91 = .ok (.dup, 1) := by decide +kernel
theorem dX7_readsItem_92 : decode cX7_readsItem 92 = .ok (.getfield 120, 3) := by decide +kernel
theorem dX7_readsItem_95 : decode cX7_readsItem 95 = .ok (.iconst 1, 1) := by decide +kernel
theorem dX7_readsItem_96 : decode cX7_readsItem 96 = .ok (.iadd, 1) := by decide +kernel
theorem dX7_readsItem_97 : decode cX7_readsItem 97 = .ok (.putfield 120, 3) := by decide +kernel
theorem dX7_readsItem_100 : decode cX7_readsItem 100 = .ok (.iload 5, 2) := by decide +kernel
theorem dX7_readsItem_102 : decode cX7_readsItem 102 = .ok (.iconst 3, 1) := by decide +kernel
theorem dX7_readsItem_103 : decode cX7_readsItem 103 = .ok (.if_icmp .eq 9, 3) := by decide +kernel
theorem dX7_readsItem_106 : decode cX7_readsItem 106 = .ok (.iload 5, 2) := by decide +kernel
theorem dX7_readsItem_108 : decode cX7_readsItem 108 = .ok (.iconst 4, 1) := by decide +kernel
theorem dX7_readsItem_109 : decode cX7_readsItem 109 = .ok (.if_icmp .ne 7, 3) := by decide +kernel
theorem dX7_readsItem_112 : decode cX7_readsItem 112 = .ok (.iconst 1, 1) := by decide +kernel
theorem dX7_readsItem_113 : decode cX7_readsItem 113 = .ok (.goto 4, 3) := by decide +kernel
theorem dX7_readsItem_116 : decode cX7_readsItem 116 = .ok (.iconst 0, 1) := by decide +kernel
theorem dX7_readsItem_117 : decode cX7_readsItem 117 = .ok (.istore 6, 2) := by decide +kernel
theorem dX7_readsItem_119 : decode cX7_readsItem 119 = .ok (.iload 6, 2) := by decide +kernel
theorem dX7_readsItem_121 : decode cX7_readsItem 121 = .ok (.ifCond .eq 14, 3) := by decide +kernel
theorem dX7_readsItem_124 : decode cX7_readsItem 124 = .ok (.aload_n 0, 1) := by decide +kernel
theorem dX7_readsItem_125 : decode cX7_readsItem 125 = .ok (.iload_n 1, 1) := by decide +kernel
theorem dX7_readsItem_126 : decode cX7_readsItem 126 = .ok (.invokevirtual 135, 3) := by decide +kernel
theorem dX7_readsItem_129 : decode cX7_readsItem 129 = .ok (.ifCond .eq 16, 3) := by decide +kernel
theorem dX7_readsItem_132 : decode cX7_readsItem 132 = .ok (.goto 15, 3) := by decide +kernel
theorem dX7_readsItem_135 : decode cX7_readsItem 135 = .ok (.aload_n 0, 1) := by decide +kernel
theorem dX7_readsItem_136 : decode cX7_readsItem 136 = .ok (.iload_n 1, 1) := by decide +kernel
theorem dX7_readsItem_137 : decode cX7_readsItem 137 = .ok (.iload_n 3, 1) := by decide +kernel
theorem dX7_readsItem_138 : decode cX7_readsItem 138 = .ok (.iconst (-1), 1) := by decide +kernel
theorem dX7_readsItem_139 : decode cX7_readsItem 139 = .ok (.invokevirtual 132, 3) := by decide +kernel
theorem dX7_readsItem_142 : decode cX7_readsItem 142 = .ok (.ifCond .ne 5, 3) := by decide +kernel
theorem dX7_readsItem_145 : decode cX7_readsItem 145 = .ok (.iconst 0, 1) := by decide +kernel
theorem dX7_readsItem_146 : decode cX7_readsItem 146 = .ok (.ireturn, 1) := by decide +kernel
theorem dX7_readsItem_147 : decode cX7_readsItem 147 = .ok (.aload_n 0, 1) := by decide +kernel
theorem dX7_readsItem_148 : decode cX7_readsItem 148 = .ok (.getfield 126, 3) := by decide +kernel
theorem dX7_readsItem_151 : decode cX7_readsItem 151 = .ok (.istore 7, 2) := by decide +kernel
theorem dX7_readsItem_153 : decode cX7_readsItem 153 = .ok (.iload 5, 2) := by decide +kernel
theorem dX7_readsItem_155 : decode cX7_readsItem 155 = .ok (.bipush 6, 2) := by decide +kernel
theorem dX7_readsItem_157 : decode cX7_readsItem 157 = .ok (.if_icmp .ne 16, 3) := by decide +kernel
theorem dX7_readsItem_160 : decode cX7_readsItem 160 = .ok (.aload_n 0, 1) := by decide +kernel
theorem dX7_readsItem_161 : decode cX7_readsItem 161 = .ok (.iload_n 1, 1) := by decide +kernel
theorem dX7_readsItem_162 : decode cX7_readsItem 162 = .ok (.iload_n 3, 1) := by decide +kernel
theorem dX7_readsItem_163 : decode cX7_readsItem 163 = .ok (.iload 7, 2) := by decide +kernel
theorem dX7_readsItem_165 : decode cX7_readsItem 165 = .ok (.invokevirtual 132, 3) := by decide +kernel
theorem dX7_readsItem_168 : decode cX7_readsItem 168 = .ok (.ifCond .ne 5, 3) := by decide +kernel
theorem dX7_readsItem_171 : decode cX7_readsItem 171 = .ok (.iconst 0, 1) := by decide +kernel
theorem dX7_readsItem_172 : decode cX7_readsItem 172 = .ok (.ireturn, 1) := by decide +kernel
theorem dX7_readsItem_173 : decode cX7_readsItem 173 = .ok (.iconst 5, 1) := by decide +kernel
theorem dX7_readsItem_174 : decode cX7_readsItem 174 = .ok (.aload_n 0, 1) := by decide +kernel
theorem dX7_readsItem_175 : decode cX7_readsItem 175 = .ok (.getfield 145, 3) := by decide +kernel
theorem dX7_readsItem_178 : decode cX7_readsItem 178 = .ok (.imul, 1) := by decide +kernel
theorem dX7_readsItem_179 : decode cX7_readsItem 179 = .ok (.istore 8, 2) := by decide +kernel
theorem dX7_readsItem_181 : decode cX7_readsItem 181 = .ok (.aload_n 0, 1) := by decide +kernel
theorem dX7_readsItem_182 : decode cX7_readsItem 182 = .ok (.getfield 38, 3) := by decide +kernel
theorem dX7_readsItem_185 : decode cX7_readsItem 185 = .ok (.iload 8, 2) := by decide +kernel
theorem dX7_readsItem_187 : decode cX7_readsItem 187 = .ok (.iload 5, 2) := by decide +kernel
theorem dX7_readsItem_189 : decode cX7_readsItem 189 = .ok (.iastore, 1) := by decide +kernel
theorem dX7_readsItem_190 : decode cX7_readsItem 190 = .ok (.aload_n 0, 1) := by decide +kernel
theorem dX7_readsItem_191 : decode cX7_readsItem 191 = .ok (.getfield 38, 3) := by decide +kernel
theorem dX7_readsItem_194 : decode cX7_readsItem 194 = .ok (.iload 8, 2) := by decide +kernel
theorem dX7_readsItem_196 : decode cX7_readsItem 196 = .ok (.iconst 1, 1) := by decide +kernel
theorem dX7_readsItem_197 : decode cX7_readsItem 197 = .ok (.iadd, 1) := by decide +kernel
theorem dX7_readsItem_198 : decode cX7_readsItem 198 = .ok (.iload_n 3, 1) := by decide +kernel
theorem dX7_readsItem_199 : decode cX7_readsItem 199 = .ok (.iastore, 1) := by decide +kernel
theorem dX7_readsItem_200 : decode cX7_readsItem 200 = .ok (.aload_n 0, 1) := by decide +kernel
theorem dX7_readsItem_201 : decode cX7_readsItem 201 = .ok (.getfield 38, 3) := by decide +kernel
theorem dX7_readsItem_204 : decode cX7_readsItem 204 = .ok (.iload 8, 2) := by decide +kernel
theorem dX7_readsItem_206 : decode cX7_readsItem 206 = .ok (.iconst 2, 1) := by decide +kernel
theorem dX7_readsItem_207 : decode cX7_readsItem 207 = .ok (.iadd, 1) := by decide +kernel
theorem dX7_readsItem_208 : decode cX7_readsItem 208 = .ok (.iload 7, 2) := by decide +kernel
theorem dX7_readsItem_210 : decode cX7_readsItem 210 = .ok (.iastore, 1) := by decide +kernel
theorem dX7_readsItem_211 : decode cX7_readsItem 211 = .ok (.aload_n 0, 1) := by decide +kernel
theorem dX7_readsItem_212 : decode cX7_readsItem 212 = .ok (.getfield 38, 3) := by decide +kernel
theorem dX7_readsItem_215 : decode cX7_readsItem 215 = .ok (.iload 8, 2) := by decide +kernel
theorem dX7_readsItem_217 : decode cX7_readsItem 217 = .ok (.iconst 3, 1) := by decide +kernel
theorem dX7_readsItem_218 : decode cX7_readsItem 218 = .ok (.iadd, 1) := by decide +kernel
theorem dX7_readsItem_219 : decode cX7_readsItem 219 = .ok (.iload 5, 2) := by decide +kernel
theorem dX7_readsItem_221 : decode cX7_readsItem 221 = .ok (.bipush 6, 2) := by decide +kernel
theorem dX7_readsItem_223 : decode cX7_readsItem 223 = .ok (.if_icmp .ne 10, 3) := by decide +kernel
theorem dX7_readsItem_226 : decode cX7_readsItem 226 = .ok (.aload_n 0, 1) := by decide +kernel
theorem dX7_readsItem_227 : decode cX7_readsItem 227 = .ok (.getfield 126, 3) := by decide +kernel
theorem dX7_readsItem_230 : decode cX7_readsItem 230 = .ok (.goto 4, 3) := by decide +kernel
theorem dX7_readsItem_233 : decode cX7_readsItem 233 = .ok (.iconst 0, 1) := by decide +kernel
theorem dX7_readsItem_234 : decode cX7_readsItem 234 = .ok (.iastore, 1) := by decide +kernel
theorem dX7_readsItem_235 : decode cX7_readsItem 235 = .ok (.aload_n 0, 1) := by decide +kernel
theorem dX7_readsItem_236 : decode cX7_readsItem 236 = .ok (.getfield 38, 3) := by decide +kernel
theorem dX7_readsItem_239 : decode cX7_readsItem 239 = .ok (.iload 8, 2) := by decide +kernel
theorem dX7_readsItem_241 : decode cX7_readsItem 241 = .ok (.iconst 4, 1) := by decide +kernel
theorem dX7_readsItem_242 : decode cX7_readsItem 242 = .ok (.iadd, 1) := by decide +kernel
theorem dX7_readsItem_243 : decode cX7_readsItem 243 = .ok (.iconst 0, 1) := by decide +kernel
theorem dX7_readsItem_244 : decode cX7_readsItem 244 = .ok (.iastore, 1) := by decide +kernel
theorem dX7_readsItem_245 : decode cX7_readsItem 245 = .ok (.aload_n 0, 1) := by decide +kernel
theorem dX7_readsItem_246 : decode cX7_readsItem 246 = .ok (.dup, 1) := by decide +kernel
theorem dX7_readsItem_247 : decode cX7_readsItem 247 = .ok (.getfield 145, 3) := by decide +kernel
theorem dX7_readsItem_250 : decode cX7_readsItem 250 = .ok (.iconst 1, 1) := by decide +kernel
theorem dX7_readsItem_251 : decode cX7_readsItem 251 = .ok (.iadd, 1) := by decide +kernel
theorem dX7_readsItem_252 : decode cX7_readsItem 252 = .ok (.putfield 145, 3) := by decide +kernel
theorem dX7_readsItem_255 : decode cX7_readsItem 255 = .ok (.iconst 1, 1) := by decide +kernel
theorem dX7_readsItem_256 : decode cX7_readsItem 256 = .ok (.ireturn, 1) := by decide +kernel
