theorem dX7_goesOn_0 : decode cX7_goesOn 0 = .ok (.iload_n 3, 1) := by decide +kernel
theorem dX7_goesOn_1 : decode cX7_goesOn 1 = .ok (.iload 4, 2) := by decide +kernel
theorem dX7_goesOn_3 : decode cX7_goesOn 3 = .ok (.invokestatic 243, 3) := by decide +kernel
theorem dX7_goesOn_6 : decode cX7_goesOn 6 = .ok (.istore 6, 2) := by decide +kernel
theorem dX7_goesOn_8 : decode cX7_goesOn 8 = .ok (.iconst 0, 1) := by decide +kernel
theorem dX7_goesOn_9 : decode cX7_goesOn 9 = .ok (.istore 7, 2) := by decide +kernel
theorem dX7_goesOn_11 : decode cX7_goesOn 11 = .ok (.iload 7, 2) := by decide +kernel
theorem dX7_goesOn_13 : decode cX7_goesOn 13 = .ok (.aload_n 0, 1) := by decide +kernel
theorem dX7_goesOn_14 : decode cX7_goesOn 14 = .ok (.getfield 157, 3) := by decide +kernel
theorem dX7_goesOn_17 : decode cX7_goesOn 17 = .ok (.if_icmp .ge 232, 3) := by decide +kernel
theorem dX7_goesOn_20 : decode cX7_goesOn 20 = .ok (.iload_n 3, 1) := by decide +kernel
theorem dX7_goesOn_21 : decode cX7_goesOn 21 = .ok (.iconst 1, 1) := by decide +kernel
theorem dX7_goesOn_22 : decode cX7_goesOn 22 = .ok (.iload 7, 2) := by decide +kernel
theorem dX7_goesOn_24 : decode cX7_goesOn 24 = .ok (.ishl, 1) := by decide +kernel
theorem dX7_goesOn_25 : decode cX7_goesOn 25 = .ok (.ior, 1) := by decide +kernel
theorem dX7_goesOn_26 : decode cX7_goesOn 26 = .ok (.istore 8, 2) := by decide +kernel
theorem dX7_goesOn_28 : decode cX7_goesOn 28 = .ok (.iload 8, 2) := by decide +kernel
theorem dX7_goesOn_30 : decode cX7_goesOn 30 = .ok (.iload 7, 2) := by decide +kernel
theorem dX7_goesOn_32 : decode cX7_goesOn 32 = .ok (.invokestatic 243, 3) := by decide +kernel
theorem dX7_goesOn_35 : decode cX7_goesOn 35 = .ok (.istore 9, 2) := by decide +kernel
theorem dX7_goesOn_37 : decode cX7_goesOn 37 = .ok (.aload_n 0, 1) := by decide +kernel
theorem dX7_goesOn_38 : decode cX7_goesOn 38 = .ok (.iload_n 1, 1) := by decide +kernel
theorem dX7_goesOn_39 : decode cX7_goesOn 39 = .ok (.iload_n 3, 1) := by decide +kernel
theorem dX7_goesOn_40 : decode cX7_goesOn 40 = .ok (.iload_n 3, 1) := by decide +kernel
theorem dX7_goesOn_41 : decode cX7_goesOn 41 = .ok (.ifCond .ne 8, 3) := by decide +kernel
theorem dX7_goesOn_44 : decode cX7_goesOn 44 = .ok (.bipush (-9), 2) := by decide +kernel
theorem dX7_goesOn_46 : decode cX7_goesOn 46 = .ok (.goto 5, 3) := by decide +kernel
theorem dX7_goesOn_49 : decode cX7_goesOn 49 = .ok (.iload 4, 2) := by decide +kernel
theorem dX7_goesOn_51 : decode cX7_goesOn 51 = .ok (.iload 7, 2) := by decide +kernel
theorem dX7_goesOn_53 : decode cX7_goesOn 53 = .ok (.invokevirtual 257, 3) := by decide +kernel
theorem dX7_goesOn_56 : decode cX7_goesOn 56 = .ok (.ifCond .eq 187, 3) := by decide +kernel
theorem dX7_goesOn_59 : decode cX7_goesOn 59 = .ok (.aload_n 0, 1) := by decide +kernel
theorem dX7_goesOn_60 : decode cX7_goesOn 60 = .ok (.getfield 71, 3) := by decide +kernel
theorem dX7_goesOn_63 : decode cX7_goesOn 63 = .ok (.iload 9, 2) := by decide +kernel
theorem dX7_goesOn_65 : decode cX7_goesOn 65 = .ok (.iaload, 1) := by decide +kernel
theorem dX7_goesOn_66 : decode cX7_goesOn 66 = .ok (.ldc 246, 2) := by decide +kernel
theorem dX7_goesOn_68 : decode cX7_goesOn 68 = .ok (.if_icmp .ge 175, 3) := by decide +kernel
theorem dX7_goesOn_71 : decode cX7_goesOn 71 = .ok (.iload_n 2, 1) := by decide +kernel
theorem dX7_goesOn_72 : decode cX7_goesOn 72 = .ok (.invokestatic 208, 3) := by decide +kernel
theorem dX7_goesOn_75 : decode cX7_goesOn 75 = .ok (.ifCond .eq 21, 3) := by decide +kernel
theorem dX7_goesOn_78 : decode cX7_goesOn 78 = .ok (.aload_n 0, 1) := by decide +kernel
theorem dX7_goesOn_79 : decode cX7_goesOn 79 = .ok (.getfield 50, 3) := by decide +kernel
theorem dX7_goesOn_82 : decode cX7_goesOn 82 = .ok (.iload 8, 2) := by decide +kernel
theorem dX7_goesOn_84 : decode cX7_goesOn 84 = .ok (.iaload, 1) := by decide +kernel
theorem dX7_goesOn_85 : decode cX7_goesOn 85 = .ok (.aload_n 0, 1) := by decide +kernel
theorem dX7_goesOn_86 : decode cX7_goesOn 86 = .ok (.getfield 71, 3) := by decide +kernel
theorem dX7_goesOn_89 : decode cX7_goesOn 89 = .ok (.iload 9, 2) := by decide +kernel
theorem dX7_goesOn_91 : decode cX7_goesOn 91 = .ok (.iaload, 1) := by decide +kernel
theorem dX7_goesOn_92 : decode cX7_goesOn 92 = .ok (.iadd, 1) := by decide +kernel
theorem dX7_goesOn_93 : decode cX7_goesOn 93 = .ok (.goto 20, 3) := by decide +kernel
theorem dX7_goesOn_96 : decode cX7_goesOn 96 = .ok (.aload_n 0, 1) := by decide +kernel
theorem dX7_goesOn_97 : decode cX7_goesOn 97 = .ok (.getfield 50, 3) := by decide +kernel
theorem dX7_goesOn_100 : decode cX7_goesOn 100 = .ok (.iload 8, 2) := by decide +kernel
theorem dX7_goesOn_102 : decode cX7_goesOn 102 = .ok (.iaload, 1) := by decide +kernel
theorem dX7_goesOn_103 : decode cX7_goesOn 103 = .ok (.aload_n 0, 1) := by decide +kernel
theorem dX7_goesOn_104 : decode cX7_goesOn 104 = .ok (.getfield 71, 3) := by decide +kernel
theorem dX7_goesOn_107 : decode cX7_goesOn 107 = .ok (.iload 9, 2) := by decide +kernel
theorem dX7_goesOn_109 : decode cX7_goesOn 109 = .ok (.iaload, 1) := by decide +kernel
theorem dX7_goesOn_110 : decode cX7_goesOn 110 = .ok (.invokestatic 192, 3) := by decide +kernel
theorem dX7_goesOn_113 : decode cX7_goesOn 113 = .ok (.istore 10, 2) := by decide +kernel
theorem dX7_goesOn_115 : decode cX7_goesOn 115 = .ok (.iload_n 2, 1) := by decide +kernel
theorem dX7_goesOn_116 : decode cX7_goesOn 116 = .ok (.invokestatic 208, 3) := by decide +kernel
theorem dX7_goesOn_119 : decode cX7_goesOn 119 = .ok (.ifCond .eq 72, 3) := by decide +kernel
theorem dX7_goesOn_122 : decode cX7_goesOn 122 = .ok (.aload_n 0, 1) := by decide +kernel
theorem dX7_goesOn_123 : decode cX7_goesOn 123 = .ok (.getfield 74, 3) := by decide +kernel
theorem dX7_goesOn_126 : decode cX7_goesOn 126 = .ok (.iload 6, 2) := by decide +kernel
theorem dX7_goesOn_128 : decode cX7_goesOn 128 = .ok (.iload 10, 2) := by decide +kernel
theorem dX7_goesOn_130 : decode cX7_goesOn 130 = .ok (.aload_n 0, 1) := by decide +kernel
theorem dX7_goesOn_131 : decode cX7_goesOn 131 = .ok (.getfield 71, 3) := by decide +kernel
theorem dX7_goesOn_134 : decode cX7_goesOn 134 = .ok (.iload 6, 2) := by decide +kernel
theorem dX7_goesOn_136 : decode cX7_goesOn 136 = .ok (.iaload, 1) := by decide +kernel
theorem dX7_goesOn_137 : decode cX7_goesOn 137 = .ok (.if_icmp .ge 13, 3) := by decide +kernel
theorem dX7_goesOn_140 : decode cX7_goesOn 140 = .ok (.aload_n 0, 1) := by decide +kernel
theorem dX7_goesOn_141 : decode cX7_goesOn 141 = .ok (.getfield 74, 3) := by decide +kernel
theorem dX7_goesOn_144 : decode cX7_goesOn 144 = .ok (.iload 9, 2) := by decide +kernel
theorem dX7_goesOn_146 : decode cX7_goesOn 146 = .ok (.iaload, 1) := by decide +kernel
theorem dX7_goesOn_147 : decode cX7_goesOn 147 = .ok (.goto 40, 3) := by decide +kernel
theorem dX7_goesOn_150 : decode cX7_goesOn 150 = .ok (.iload 10, 2) := by decide +kernel
theorem dX7_goesOn_152 : decode cX7_goesOn 152 = .ok (.aload_n 0, 1) := by decide +kernel
theorem dX7_goesOn_153 : decode cX7_goesOn 153 = .ok (.getfield 71, 3) := by decide +kernel
theorem dX7_goesOn_156 : decode cX7_goesOn 156 = .ok (.iload 6, 2) := by decide +kernel
theorem dX7_goesOn_158 : decode cX7_goesOn 158 = .ok (.iaload, 1) := by decide +kernel
theorem dX7_goesOn_159 : decode cX7_goesOn 159 = .ok (.if_icmp .ne 21, 3) := by decide +kernel
theorem dX7_goesOn_162 : decode cX7_goesOn 162 = .ok (.aload_n 0, 1) := by decide +kernel
theorem dX7_goesOn_163 : decode cX7_goesOn 163 = .ok (.getfield 74, 3) := by decide +kernel
theorem dX7_goesOn_166 : decode cX7_goesOn 166 = .ok (.iload 6, 2) := by decide +kernel
theorem dX7_goesOn_168 : decode cX7_goesOn 168 = .ok (.iaload, 1) := by decide +kernel
theorem dX7_goesOn_169 : decode cX7_goesOn 169 = .ok (.aload_n 0, 1) := by decide +kernel
theorem dX7_goesOn_170 : decode cX7_goesOn 170 = .ok (.getfield 74, 3) := by decide +kernel
theorem dX7_goesOn_173 : decode cX7_goesOn 173 = .ok (.iload 9, 2) := by decide +kernel
theorem dX7_goesOn_175 : decode cX7_goesOn 175 = .ok (.iaload, 1) := by decide +kernel
theorem dX7_goesOn_176 : decode cX7_goesOn 176 = .ok (.iadd, 1) := by decide +kernel
theorem dX7_goesOn_177 : decode cX7_goesOn 177 = .ok (.goto 10, 3) := by decide +kernel
theorem dX7_goesOn_180 : decode cX7_goesOn 180 = .ok (.aload_n 0, 1) := by decide +kernel
theorem dX7_goesOn_181 : decode cX7_goesOn 181 = .ok (.getfield 74, 3) := by decide +kernel
theorem dX7_goesOn_184 : decode cX7_goesOn 184 = .ok (.iload 6, 2) := by decide +kernel
theorem dX7_goesOn_186 : decode cX7_goesOn 186 = .ok (.iaload, 1) := by decide +kernel
theorem dX7_goesOn_187 : decode cX7_goesOn 187 = .ok (.iastore, 1) := by decide +kernel
theorem dX7_goesOn_188 : decode cX7_goesOn 188 = .ok (.goto 36, 3) := by decide +kernel
theorem dX7_goesOn_191 : decode cX7_goesOn 191 = .ok (.aload_n 0, 1) := by decide +kernel
theorem dX7_goesOn_192 : decode cX7_goesOn 192 = .ok (.getfield 74, 3) := by decide +kernel
theorem dX7_goesOn_195 : decode cX7_goesOn 195 = .ok (.iload 6, 2) := by decide +kernel
theorem dX7_goesOn_197 : decode cX7_goesOn 197 = .ok (.dup2, 1) := by decide +kernel
theorem dX7_goesOn_198 : decode cX7_goesOn 198 = .ok (.iaload, 1) := by decide +kernel
theorem dX7_goesOn_199 : decode cX7_goesOn 199 = .ok (.aload_n 0, 1) := by decide +kernel
theorem dX7_goesOn_200 : decode cX7_goesOn 200 = .ok (.getfield 50, 3) := by decide +kernel
theorem dX7_goesOn_203 : decode cX7_goesOn 203 = .ok (.iload 8, 2) := by decide +kernel
theorem dX7_goesOn_205 : decode cX7_goesOn 205 = .ok (.iaload, 1) := by decide +kernel
theorem dX7_goesOn_206 : decode cX7_goesOn 206 = .ok (.iload 5, 2) := by decide +kernel
theorem dX7_goesOn_208 : decode cX7_goesOn 208 = .ok (.if_icmp .gt 13, 3) := by decide +kernel
theorem dX7_goesOn_211 : decode cX7_goesOn 211 = .ok (.aload_n 0, 1) := by decide +kernel
theorem dX7_goesOn_212 : decode cX7_goesOn 212 = .ok (.getfield 74, 3) := by decide +kernel
theorem dX7_goesOn_215 : decode cX7_goesOn 215 = .ok (.iload 9, 2) := by decide +kernel
theorem dX7_goesOn_217 : decode cX7_goesOn 217 = .ok (.iaload, 1) := by decide +kernel
theorem dX7_goesOn_218 : decode cX7_goesOn 218 = .ok (.goto 4, 3) := by decide +kernel
theorem dX7_goesOn_221 : decode cX7_goesOn 221 = .ok (.iconst 0, 1) := by decide +kernel
theorem dX7_goesOn_222 : decode cX7_goesOn 222 = .ok (.iadd, 1) := by decide +kernel
theorem dX7_goesOn_223 : decode cX7_goesOn 223 = .ok (.iastore, 1) := by decide +kernel
theorem dX7_goesOn_224 : decode cX7_goesOn 224 = .ok (.aload_n 0, 1) := by decide +kernel
theorem dX7_goesOn_225 : decode cX7_goesOn 225 = .ok (.getfield 71, 3) := by decide +kernel
theorem dX7_goesOn_228 : decode cX7_goesOn 228 = .ok (.iload 6, 2) := by decide +kernel
theorem dX7_goesOn_230 : decode cX7_goesOn 230 = .ok (.aload_n 0, 1) := by decide +kernel
theorem dX7_goesOn_231 : decode cX7_goesOn 231 = .ok (.getfield 71, 3) := by decide +kernel
theorem dX7_goesOn_234 : decode cX7_goesOn 234 = .ok (.iload 6, 2) := by decide +kernel
theorem dX7_goesOn_236 : decode cX7_goesOn 236 = .ok (.iaload, 1) := by decide +kernel
theorem dX7_goesOn_237 : decode cX7_goesOn 237 = .ok (.iload 10, 2) := by decide +kernel
theorem dX7_goesOn_239 : decode cX7_goesOn 239 = .ok (.invokestatic 183, 3) := by decide +kernel
theorem dX7_goesOn_242 : decode cX7_goesOn 242 = .ok (.iastore, 1) := by decide +kernel
theorem dX7_goesOn_243 : decode cX7_goesOn 243 = .ok (.iinc 7 1, 3) := by decide +kernel
theorem dX7_goesOn_246 : decode cX7_goesOn 246 = .ok (.goto (-235), 3) := by decide +kernel
theorem dX7_goesOn_249 : decode cX7_goesOn 249 = .ok (.return_, 1) := by decide +kernel
theorem dX7_must_0 : decode cX7_must 0 = .ok (.iconst 0, 1) := by decide +kernel
theorem dX7_must_1 : decode cX7_must 1 = .ok (.istore_n 1, 1) := by decide +kernel
theorem dX7_must_2 : decode cX7_must 2 = .ok (.iconst 0, 1) := by decide +kernel
theorem dX7_must_3 : decode cX7_must 3 = .ok (.istore_n 2, 1) := by decide +kernel
theorem dX7_must_4 : decode cX7_must 4 = .ok (.iload_n 2, 1) := by decide +kernel
theorem dX7_must_5 : decode cX7_must 5 = .ok (.aload_n 0, 1) := by decide +kernel
theorem dX7_must_6 : decode cX7_must 6 = .ok (.getfield 160, 3) := by decide +kernel
theorem dX7_must_9 : decode cX7_must 9 = .ok (.if_icmp .ge 20, 3) := by decide +kernel
theorem dX7_must_12 : decode cX7_must 12 = .ok (.iload_n 1, 1) := by decide +kernel
theorem dX7_must_13 : decode cX7_must 13 = .ok (.aload_n 0, 1) := by decide +kernel
theorem dX7_must_14 : decode cX7_must 14 = .ok (.iload_n 2, 1) := by decide +kernel
theorem dX7_must_15 : decode cX7_must 15 = .ok (.iconst 4, 1) := by decide +kernel
theorem dX7_must_16 : decode cX7_must 16 = .ok (.invokevirtual 180, 3) := by decide +kernel
theorem dX7_must_19 : decode cX7_must 19 = .ok (.iload_n 2, 1) := by decide +kernel
theorem dX7_must_20 : decode cX7_must 20 = .ok (.ishl, 1) := by decide +kernel
theorem dX7_must_21 : decode cX7_must 21 = .ok (.ior, 1) := by decide +kernel
theorem dX7_must_22 : decode cX7_must 22 = .ok (.istore_n 1, 1) := by decide +kernel
theorem dX7_must_23 : decode cX7_must 23 = .ok (.iinc 2 1, 3) := by decide +kernel
theorem dX7_must_26 : decode cX7_must 26 = .ok (.goto (-22), 3) := by decide +kernel
theorem dX7_must_29 : decode cX7_must 29 = .ok (.bipush (-9), 2) := by decide +kernel
theorem dX7_must_31 : decode cX7_must 31 = .ok (.istore_n 2, 1) := by decide +kernel
theorem dX7_must_32 : decode cX7_must 32 = .ok (.iconst 0, 1) := by decide +kernel
theorem dX7_must_33 : decode cX7_must 33 = .ok (.istore_n 3, 1) := by decide +kernel
theorem dX7_must_34 : decode cX7_must 34 = .ok (.iload_n 2, 1) := by decide +kernel
theorem dX7_must_35 : decode cX7_must 35 = .ok (.bipush (-9), 2) := by decide +kernel
theorem dX7_must_37 : decode cX7_must 37 = .ok (.if_icmp .ne 74, 3) := by decide +kernel
theorem dX7_must_40 : decode cX7_must 40 = .ok (.iconst 0, 1) := by decide +kernel
theorem dX7_must_41 : decode cX7_must 41 = .ok (.istore 4, 2) := by decide +kernel
theorem dX7_must_43 : decode cX7_must 43 = .ok (.iload 4, 2) := by decide +kernel
theorem dX7_must_45 : decode cX7_must 45 = .ok (.iconst 1, 1) := by decide +kernel
theorem dX7_must_46 : decode cX7_must 46 = .ok (.aload_n 0, 1) := by decide +kernel
theorem dX7_must_47 : decode cX7_must 47 = .ok (.getfield 160, 3) := by decide +kernel
theorem dX7_must_50 : decode cX7_must 50 = .ok (.ishl, 1) := by decide +kernel
theorem dX7_must_51 : decode cX7_must 51 = .ok (.if_icmp .ge 54, 3) := by decide +kernel
theorem dX7_must_54 : decode cX7_must 54 = .ok (.iload_n 2, 1) := by decide +kernel
theorem dX7_must_55 : decode cX7_must 55 = .ok (.bipush (-9), 2) := by decide +kernel
theorem dX7_must_57 : decode cX7_must 57 = .ok (.if_icmp .ne 48, 3) := by decide +kernel
theorem dX7_must_60 : decode cX7_must 60 = .ok (.iload 4, 2) := by decide +kernel
theorem dX7_must_62 : decode cX7_must 62 = .ok (.iload_n 1, 1) := by decide +kernel
theorem dX7_must_63 : decode cX7_must 63 = .ok (.iand, 1) := by decide +kernel
theorem dX7_must_64 : decode cX7_must 64 = .ok (.ifCond .ne 35, 3) := by decide +kernel
theorem dX7_must_67 : decode cX7_must 67 = .ok (.iload 4, 2) := by decide +kernel
theorem dX7_must_69 : decode cX7_must 69 = .ok (.invokestatic 226, 3) := by decide +kernel
theorem dX7_must_72 : decode cX7_must 72 = .ok (.iload_n 3, 1) := by decide +kernel
theorem dX7_must_73 : decode cX7_must 73 = .ok (.if_icmp .ne 26, 3) := by decide +kernel
theorem dX7_must_76 : decode cX7_must 76 = .ok (.aload_n 0, 1) := by decide +kernel
theorem dX7_must_77 : decode cX7_must 77 = .ok (.iload_n 1, 1) := by decide +kernel
theorem dX7_must_78 : decode cX7_must 78 = .ok (.iload 4, 2) := by decide +kernel
theorem dX7_must_80 : decode cX7_must 80 = .ok (.ior, 1) := by decide +kernel
theorem dX7_must_81 : decode cX7_must 81 = .ok (.invokevirtual 361, 3) := by decide +kernel
theorem dX7_must_84 : decode cX7_must 84 = .ok (.aload_n 0, 1) := by decide +kernel
theorem dX7_must_85 : decode cX7_must 85 = .ok (.invokevirtual 364, 3) := by decide +kernel
theorem dX7_must_88 : decode cX7_must 88 = .ok (.ifCond .eq 8, 3) := by decide +kernel
theorem dX7_must_91 : decode cX7_must 91 = .ok (.iload 4, 2) := by decide +kernel
theorem dX7_must_93 : decode cX7_must 93 = .ok (.goto 5, 3) := by decide +kernel
theorem dX7_must_96 : decode cX7_must 96 = .ok (.bipush (-9), 2) := by decide +kernel
theorem dX7_must_98 : decode cX7_must 98 = .ok (.istore_n 2, 1) := by decide +kernel
theorem dX7_must_99 : decode cX7_must 99 = .ok (.iinc 4 1, 3) := by decide +kernel
theorem dX7_must_102 : decode cX7_must 102 = .ok (.goto (-59), 3) := by decide +kernel
theorem dX7_must_105 : decode cX7_must 105 = .ok (.iinc 3 1, 3) := by decide +kernel
theorem dX7_must_108 : decode cX7_must 108 = .ok (.goto (-74), 3) := by decide +kernel
theorem dX7_must_111 : decode cX7_must 111 = .ok (.aload_n 0, 1) := by decide +kernel
theorem dX7_must_112 : decode cX7_must 112 = .ok (.iload_n 1, 1) := by decide +kernel
theorem dX7_must_113 : decode cX7_must 113 = .ok (.invokevirtual 361, 3) := by decide +kernel
theorem dX7_must_116 : decode cX7_must 116 = .ok (.aload_n 0, 1) := by decide +kernel
theorem dX7_must_117 : decode cX7_must 117 = .ok (.iload_n 2, 1) := by decide +kernel
theorem dX7_must_118 : decode cX7_must 118 = .ok (.iload_n 2, 1) := by decide +kernel
theorem dX7_must_119 : decode cX7_must 119 = .ok (.invokestatic 226, 3) := by decide +kernel
theorem dX7_must_122 : decode cX7_must 122 = .ok (.invokevirtual 114, 3) := by decide +kernel
theorem dX7_must_125 : decode cX7_must 125 = .ok (.ireturn, 1) := by decide +kernel
theorem dX7_isAnyAllowed_0 : decode cX7_isAnyAllowed 0 = .ok (.aload_n 0, 1) := by decide +kernel
theorem dX7_isAnyAllowed_1 : decode cX7_isAnyAllowed 1 = .ok (.getfield 157, 3) := by decide +kernel
theorem dX7_isAnyAllowed_4 : decode cX7_isAnyAllowed 4 = .ok (.ifCond .ne 7, 3) := by decide +kernel
theorem dX7_isAnyAllowed_7 : decode cX7_isAnyAllowed 7 = .ok (.iconst 1, 1) := by decide +kernel
theorem dX7_isAnyAllowed_8 : decode cX7_isAnyAllowed 8 = .ok (.goto 4, 3) := by decide +kernel
theorem dX7_isAnyAllowed_11 : decode cX7_isAnyAllowed 11 = .ok (.iconst 0, 1) := by decide +kernel
theorem dX7_isAnyAllowed_12 : decode cX7_isAnyAllowed 12 = .ok (.istore_n 1, 1) := by decide +kernel
theorem dX7_isAnyAllowed_13 : decode cX7_isAnyAllowed 13 = .ok (.iconst 0, 1) := by decide +kernel
theorem dX7_isAnyAllowed_14 : decode cX7_isAnyAllowed 14 = .ok (.istore_n 2, 1) := by decide +kernel
theorem dX7_isAnyAllowed_15 : decode cX7_isAnyAllowed 15 = .ok (.iload_n 2, 1) := by decide +kernel
theorem dX7_isAnyAllowed_16 : decode cX7_isAnyAllowed 16 = .ok (.bipush 10, 2) := by decide +kernel
theorem dX7_isAnyAllowed_18 : decode cX7_isAnyAllowed 18 = .ok (.aload_n 0, 1) := by decide +kernel
theorem dX7_isAnyAllowed_19 : decode cX7_isAnyAllowed 19 = .ok (.invokevirtual 236, 3) := by decide +kernel
theorem dX7_isAnyAllowed_22 : decode cX7_isAnyAllowed 22 = .ok (.iconst 1, 1) := by decide +kernel
theorem dX7_isAnyAllowed_23 : decode cX7_isAnyAllowed 23 = .ok (.iadd, 1) := by decide +kernel
theorem dX7_isAnyAllowed_24 : decode cX7_isAnyAllowed 24 = .ok (.imul, 1) := by decide +kernel
theorem dX7_isAnyAllowed_25 : decode cX7_isAnyAllowed 25 = .ok (.if_icmp .ge 31, 3) := by decide +kernel
theorem dX7_isAnyAllowed_28 : decode cX7_isAnyAllowed 28 = .ok (.aload_n 0, 1) := by decide +kernel
theorem dX7_isAnyAllowed_29 : decode cX7_isAnyAllowed 29 = .ok (.getfield 77, 3) := by decide +kernel
theorem dX7_isAnyAllowed_32 : decode cX7_isAnyAllowed 32 = .ok (.iload_n 2, 1) := by decide +kernel
theorem dX7_isAnyAllowed_33 : decode cX7_isAnyAllowed 33 = .ok (.iload_n 2, 1) := by decide +kernel
theorem dX7_isAnyAllowed_34 : decode cX7_isAnyAllowed 34 = .ok (.ifCond .ne 14, 3) := by decide +kernel
theorem dX7_isAnyAllowed_37 : decode cX7_isAnyAllowed 37 = .ok (.aload_n 0, 1) := by decide +kernel
theorem dX7_isAnyAllowed_38 : decode cX7_isAnyAllowed 38 = .ok (.getfield 157, 3) := by decide +kernel
theorem dX7_isAnyAllowed_41 : decode cX7_isAnyAllowed 41 = .ok (.ifCond .le 7, 3) := by decide +kernel
theorem dX7_isAnyAllowed_44 : decode cX7_isAnyAllowed 44 = .ok (.iconst 1, 1) := by decide +kernel
theorem dX7_isAnyAllowed_45 : decode cX7_isAnyAllowed 45 = .ok (.goto 4, 3) := by decide +kernel
theorem dX7_isAnyAllowed_48 : decode cX7_isAnyAllowed 48 = .ok (.iconst 0, 1) := by decide +kernel
theorem dX7_isAnyAllowed_49 : decode cX7_isAnyAllowed 49 = .ok (.bastore, 1) := by decide +kernel
theorem dX7_isAnyAllowed_50 : decode cX7_isAnyAllowed 50 = .ok (.iinc 2 1, 3) := by decide +kernel
theorem dX7_isAnyAllowed_53 : decode cX7_isAnyAllowed 53 = .ok (.goto (-38), 3) := by decide +kernel
theorem dX7_isAnyAllowed_56 : decode cX7_isAnyAllowed 56 = .ok (.iconst 0, 1) := by decide +kernel
theorem dX7_isAnyAllowed_57 : decode cX7_isAnyAllowed 57 = .ok (.istore_n 2, 1) := by decide +kernel
theorem dX7_isAnyAllowed_58 : decode cX7_isAnyAllowed 58 = .ok (.iload_n 2, 1) := by decide +kernel
theorem dX7_isAnyAllowed_59 : decode cX7_isAnyAllowed 59 = .ok (.aload_n 0, 1) := by decide +kernel
theorem dX7_isAnyAllowed_60 : decode cX7_isAnyAllowed 60 = .ok (.invokevirtual 236, 3) := by decide +kernel
theorem dX7_isAnyAllowed_63 : decode cX7_isAnyAllowed 63 = .ok (.if_icmp .gt 136, 3) := by decide +kernel
theorem dX7_isAnyAllowed_66 : decode cX7_isAnyAllowed 66 = .ok (.aload_n 0, 1) := by decide +kernel
theorem dX7_isAnyAllowed_67 : decode cX7_isAnyAllowed 67 = .ok (.getfield 157, 3) := by decide +kernel
theorem dX7_isAnyAllowed_70 : decode cX7_isAnyAllowed 70 = .ok (.ifCond .le 129, 3) := by decide +kernel
theorem dX7_isAnyAllowed_73 : decode cX7_isAnyAllowed 73 = .ok (.iconst 0, 1) := by decide +kernel
theorem dX7_isAnyAllowed_74 : decode cX7_isAnyAllowed 74 = .ok (.istore_n 3, 1) := by decide +kernel
theorem dX7_isAnyAllowed_75 : decode cX7_isAnyAllowed 75 = .ok (.iload_n 3, 1) := by decide +kernel
theorem dX7_isAnyAllowed_76 : decode cX7_isAnyAllowed 76 = .ok (.aload_n 0, 1) := by decide +kernel
theorem dX7_isAnyAllowed_77 : decode cX7_isAnyAllowed 77 = .ok (.getfield 157, 3) := by decide +kernel
theorem dX7_isAnyAllowed_80 : decode cX7_isAnyAllowed 80 = .ok (.if_icmp .ge 113, 3) := by decide +kernel
theorem dX7_isAnyAllowed_83 : decode cX7_isAnyAllowed 83 = .ok (.aload_n 0, 1) := by decide +kernel
theorem dX7_isAnyAllowed_84 : decode cX7_isAnyAllowed 84 = .ok (.getfield 77, 3) := by decide +kernel
theorem dX7_isAnyAllowed_87 : decode cX7_isAnyAllowed 87 = .ok (.iload_n 2, 1) := by decide +kernel
theorem dX7_isAnyAllowed_88 : decode cX7_isAnyAllowed 88 = .ok (.iload_n 3, 1) := by decide +kernel
theorem dX7_isAnyAllowed_89 : decode cX7_isAnyAllowed 89 = .ok (.invokestatic 243, 3) := by decide +kernel
theorem dX7_isAnyAllowed_92 : decode cX7_isAnyAllowed 92 = .ok (.baload, 1) := by decide +kernel
theorem dX7_isAnyAllowed_93 : decode cX7_isAnyAllowed 93 = .ok (.ifCond .eq 94, 3) := by decide +kernel
theorem dX7_isAnyAllowed_96 : decode cX7_isAnyAllowed 96 = .ok (.iload_n 1, 1) := by decide +kernel
theorem dX7_isAnyAllowed_97 : decode cX7_isAnyAllowed 97 = .ok (.ifCond .ne 11, 3) := by decide +kernel
theorem dX7_isAnyAllowed_100 : decode cX7_isAnyAllowed 100 = .ok (.iload_n 2, 1) := by decide +kernel
theorem dX7_isAnyAllowed_101 : decode cX7_isAnyAllowed 101 = .ok (.aload_n 0, 1) := by decide +kernel
theorem dX7_isAnyAllowed_102 : decode cX7_isAnyAllowed 102 = .ok (.invokevirtual 236, 3) := by decide +kernel
theorem dX7_isAnyAllowed_105 : decode cX7_isAnyAllowed 105 = .ok (.if_icmp .ne 7, 3) := by decide +kernel
theorem dX7_isAnyAllowed_108 : decode cX7_isAnyAllowed 108 = .ok (.iconst 1, 1) := by decide +kernel
theorem dX7_isAnyAllowed_109 : decode cX7_isAnyAllowed 109 = .ok (.goto 4, 3) := by decide +kernel
theorem dX7_isAnyAllowed_112 : decode cX7_isAnyAllowed 112 = .ok (.iconst 0, 1) := by decide +kernel
theorem dX7_isAnyAllowed_113 : decode cX7_isAnyAllowed 113 = .ok (.istore_n 1, 1) := by decide +kernel
theorem dX7_isAnyAllowed_114 : decode cX7_isAnyAllowed 114 = .ok (.iconst 0, 1) := by decide +kernel
theorem dX7_isAnyAllowed_115 : decode cX7_isAnyAllowed 115 = .ok (.istore 4, 2) := by decide +kernel
theorem dX7_isAnyAllowed_117 : decode cX7_isAnyAllowed 117 = .ok (.iload 4, 2) := by decide +kernel
theorem dX7_isAnyAllowed_119 : decode cX7_isAnyAllowed 119 = .ok (.aload_n 0, 1) := by decide +kernel
theorem dX7_isAnyAllowed_120 : decode cX7_isAnyAllowed 120 = .ok (.getfield 157, 3) := by decide +kernel
theorem dX7_isAnyAllowed_123 : decode cX7_isAnyAllowed 123 = .ok (.if_icmp .ge 64, 3) := by decide +kernel
theorem dX7_isAnyAllowed_126 : decode cX7_isAnyAllowed 126 = .ok (.iload_n 2, 1) := by decide +kernel
theorem dX7_isAnyAllowed_127 : decode cX7_isAnyAllowed 127 = .ok (.iconst 1, 1) := by decide +kernel
theorem dX7_isAnyAllowed_128 : decode cX7_isAnyAllowed 128 = .ok (.iload 4, 2) := by decide +kernel
theorem dX7_isAnyAllowed_130 : decode cX7_isAnyAllowed 130 = .ok (.ishl, 1) := by decide +kernel
theorem dX7_isAnyAllowed_131 : decode cX7_isAnyAllowed 131 = .ok (.ior, 1) := by decide +kernel
theorem dX7_isAnyAllowed_132 : decode cX7_isAnyAllowed 132 = .ok (.iload 4, 2) := by decide +kernel
theorem dX7_isAnyAllowed_134 : decode cX7_isAnyAllowed 134 = .ok (.invokestatic 243, 3) := by decide +kernel
theorem dX7_isAnyAllowed_137 : decode cX7_isAnyAllowed 137 = .ok (.istore 5, 2) := by decide +kernel
theorem dX7_isAnyAllowed_139 : decode cX7_isAnyAllowed 139 = .ok (.aload_n 0, 1) := by decide +kernel
theorem dX7_isAnyAllowed_140 : decode cX7_isAnyAllowed 140 = .ok (.getfield 77, 3) := by decide +kernel
theorem dX7_isAnyAllowed_143 : decode cX7_isAnyAllowed 143 = .ok (.iload 5, 2) := by decide +kernel
theorem dX7_isAnyAllowed_145 : decode cX7_isAnyAllowed 145 = .ok (.aload_n 0, 1) := by decide +kernel
theorem dX7_isAnyAllowed_146 : decode cX7_isAnyAllowed 146 = .ok (.getfield 77, 3) := by decide +kernel
theorem dX7_isAnyAllowed_149 : decode cX7_isAnyAllowed 149 = .ok (.iload 5, 2) := by decide +kernel
theorem dX7_isAnyAllowed_151 : decode cX7_isAnyAllowed 151 = .ok (.baload, 1) := by decide +kernel
theorem dX7_isAnyAllowed_152 : decode cX7_isAnyAllowed 152 = .ok (.ifCond .ne 23, 3) := by decide +kernel
theorem dX7_isAnyAllowed_155 : decode cX7_isAnyAllowed 155 = .ok (.aload_n 0, 1) := by decide +kernel
theorem dX7_isAnyAllowed_156 : decode cX7_isAnyAllowed 156 = .ok (.iload_n 2, 1) := by decide +kernel
theorem dX7_isAnyAllowed_157 : decode cX7_isAnyAllowed 157 = .ok (.iload_n 2, 1) := by decide +kernel
theorem dX7_isAnyAllowed_158 : decode cX7_isAnyAllowed 158 = .ok (.ifCond .ne 8, 3) := by decide +kernel
theorem dX7_isAnyAllowed_161 : decode cX7_isAnyAllowed 161 = .ok (.bipush (-9), 2) := by decide +kernel
theorem dX7_isAnyAllowed_163 : decode cX7_isAnyAllowed 163 = .ok (.goto 4, 3) := by decide +kernel
theorem dX7_isAnyAllowed_166 : decode cX7_isAnyAllowed 166 = .ok (.iload_n 3, 1) := by decide +kernel
theorem dX7_isAnyAllowed_167 : decode cX7_isAnyAllowed 167 = .ok (.iload 4, 2) := by decide +kernel
theorem dX7_isAnyAllowed_169 : decode cX7_isAnyAllowed 169 = .ok (.invokevirtual 254, 3) := by decide +kernel
theorem dX7_isAnyAllowed_172 : decode cX7_isAnyAllowed 172 = .ok (.ifCond .eq 7, 3) := by decide +kernel
theorem dX7_isAnyAllowed_175 : decode cX7_isAnyAllowed 175 = .ok (.iconst 1, 1) := by decide +kernel
theorem dX7_isAnyAllowed_176 : decode cX7_isAnyAllowed 176 = .ok (.goto 4, 3) := by decide +kernel
theorem dX7_isAnyAllowed_179 : decode cX7_isAnyAllowed 179 = .ok (.iconst 0, 1) := by decide +kernel
theorem dX7_isAnyAllowed_180 : decode cX7_isAnyAllowed 180 = .ok (.bastore, 1) := by decide +kernel
theorem dX7_isAnyAllowed_181 : decode cX7_isAnyAllowed 181 = .ok (.iinc 4 1, 3) := by decide +kernel
theorem dX7_isAnyAllowed_184 : decode cX7_isAnyAllowed 184 = .ok (.goto (-67), 3) := by decide +kernel
theorem dX7_isAnyAllowed_187 : decode cX7_isAnyAllowed 187 = .ok (.iinc 3 1, 3) := by decide +kernel
theorem dX7_isAnyAllowed_190 : decode cX7_isAnyAllowed 190 = .ok (.goto (-115), 3) := by decide +kernel
theorem dX7_isAnyAllowed_193 : decode cX7_isAnyAllowed 193 = .ok (.iinc 2 1, 3) := by decide +kernel
theorem dX7_isAnyAllowed_196 : decode cX7_isAnyAllowed 196 = .ok (.goto (-138), 3) := by decide +kernel
theorem dX7_isAnyAllowed_199 : decode cX7_isAnyAllowed 199 = .ok (.iload_n 1, 1) := by decide +kernel
theorem dX7_isAnyAllowed_200 : decode cX7_isAnyAllowed 200 = .ok (.ireturn, 1) := by decide +kernel
theorem dX7_layOff_0 : decode cX7_layOff 0 = .ok (.iconst 0, 1) := by decide +kernel
theorem dX7_layOff_1 : decode cX7_layOff 1 = .ok (.istore_n 2, 1) := by decide +kernel
theorem dX7_layOff_2 : decode cX7_layOff 2 = .ok (.iload_n 2, 1) := by decide +kernel
theorem dX7_layOff_3 : decode cX7_layOff 3 = .ok (.aload_n 0, 1) := by decide +kernel
theorem dX7_layOff_4 : decode cX7_layOff 4 = .ok (.getfield 160, 3) := by decide +kernel
theorem dX7_layOff_7 : decode cX7_layOff 7 = .ok (.if_icmp .ge 24, 3) := by decide +kernel
theorem dX7_layOff_10 : decode cX7_layOff 10 = .ok (.aload_n 0, 1) := by decide +kernel
theorem dX7_layOff_11 : decode cX7_layOff 11 = .ok (.getfield 32, 3) := by decide +kernel
theorem dX7_layOff_14 : decode cX7_layOff 14 = .ok (.iconst 5, 1) := by decide +kernel
theorem dX7_layOff_15 : decode cX7_layOff 15 = .ok (.iload_n 2, 1) := by decide +kernel
theorem dX7_layOff_16 : decode cX7_layOff 16 = .ok (.imul, 1) := by decide +kernel
theorem dX7_layOff_17 : decode cX7_layOff 17 = .ok (.iconst 4, 1) := by decide +kernel
theorem dX7_layOff_18 : decode cX7_layOff 18 = .ok (.iadd, 1) := by decide +kernel
theorem dX7_layOff_19 : decode cX7_layOff 19 = .ok (.iload_n 1, 1) := by decide +kernel
theorem dX7_layOff_20 : decode cX7_layOff 20 = .ok (.iload_n 2, 1) := by decide +kernel
theorem dX7_layOff_21 : decode cX7_layOff 21 = .ok (.ishr, 1) := by decide +kernel
theorem dX7_layOff_22 : decode cX7_layOff 22 = .ok (.iconst 1, 1) := by decide +kernel
theorem dX7_layOff_23 : decode cX7_layOff 23 = .ok (.iand, 1) := by decide +kernel
theorem dX7_layOff_24 : decode cX7_layOff 24 = .ok (.iastore, 1) := by decide +kernel
theorem dX7_layOff_25 : decode cX7_layOff 25 = .ok (.iinc 2 1, 3) := by decide +kernel
theorem dX7_layOff_28 : decode cX7_layOff 28 = .ok (.goto (-26), 3) := by decide +kernel
theorem dX7_layOff_31 : decode cX7_layOff 31 = .ok (.return_, 1) := by decide +kernel
theorem dX7_needAllowed_0 : decode cX7_needAllowed 0 = .ok (.aload_n 0, 1) := by decide +kernel
theorem dX7_needAllowed_1 : decode cX7_needAllowed 1 = .ok (.iload_n 1, 1) := by decide +kernel
theorem dX7_needAllowed_2 : decode cX7_needAllowed 2 = .ok (.invokevirtual 214, 3) := by decide +kernel
theorem dX7_needAllowed_5 : decode cX7_needAllowed 5 = .ok (.istore_n 2, 1) := by decide +kernel
theorem dX7_needAllowed_6 : decode cX7_needAllowed 6 = .ok (.iload_n 2, 1) := by decide +kernel
theorem dX7_needAllowed_7 : decode cX7_needAllowed 7 = .ok (.ifCond .ge 7, 3) := by decide +kernel
theorem dX7_needAllowed_10 : decode cX7_needAllowed 10 = .ok (.iload_n 2, 1) := by decide +kernel
theorem dX7_needAllowed_11 : decode cX7_needAllowed 11 = .ok (.goto 21, 3) := by decide +kernel
theorem dX7_needAllowed_14 : decode cX7_needAllowed 14 = .ok (.aload_n 0, 1) := by decide +kernel
theorem dX7_needAllowed_15 : decode cX7_needAllowed 15 = .ok (.invokevirtual 223, 3) := by decide +kernel
theorem dX7_needAllowed_18 : decode cX7_needAllowed 18 = .ok (.bipush (-9), 2) := by decide +kernel
theorem dX7_needAllowed_20 : decode cX7_needAllowed 20 = .ok (.if_icmp .ne 7, 3) := by decide +kernel
theorem dX7_needAllowed_23 : decode cX7_needAllowed 23 = .ok (.iconst 0, 1) := by decide +kernel
theorem dX7_needAllowed_24 : decode cX7_needAllowed 24 = .ok (.goto 8, 3) := by decide +kernel
theorem dX7_needAllowed_27 : decode cX7_needAllowed 27 = .ok (.aload_n 0, 1) := by decide +kernel
theorem dX7_needAllowed_28 : decode cX7_needAllowed 28 = .ok (.iconst 3, 1) := by decide +kernel
theorem dX7_needAllowed_29 : decode cX7_needAllowed 29 = .ok (.invokevirtual 106, 3) := by decide +kernel
theorem dX7_needAllowed_32 : decode cX7_needAllowed 32 = .ok (.ireturn, 1) := by decide +kernel
theorem dX7_swaps_0 : decode cX7_swaps 0 = .ok (.iload_n 1, 1) := by decide +kernel
theorem dX7_swaps_1 : decode cX7_swaps 1 = .ok (.invokestatic 211, 3) := by decide +kernel
theorem dX7_swaps_4 : decode cX7_swaps 4 = .ok (.ifCond .eq 10, 3) := by decide +kernel
theorem dX7_swaps_7 : decode cX7_swaps 7 = .ok (.iload_n 2, 1) := by decide +kernel
theorem dX7_swaps_8 : decode cX7_swaps 8 = .ok (.invokestatic 102, 3) := by decide +kernel
theorem dX7_swaps_11 : decode cX7_swaps 11 = .ok (.ifCond .ne 5, 3) := by decide +kernel
theorem dX7_swaps_14 : decode cX7_swaps 14 = .ok (.iconst (-1), 1) := by decide +kernel
theorem dX7_swaps_15 : decode cX7_swaps 15 = .ok (.ireturn, 1) := by decide +kernel
theorem dX7_swaps_16 : decode cX7_swaps 16 = .ok (.aload_n 0, 1) := by decide +kernel
theorem dX7_swaps_17 : decode cX7_swaps 17 = .ok (.iload_n 2, 1) := by decide +kernel
theorem dX7_swaps_18 : decode cX7_swaps 18 = .ok (.invokevirtual 367, 3) := by decide +kernel
theorem dX7_swaps_21 : decode cX7_swaps 21 = .ok (.istore_n 3, 1) := by decide +kernel
theorem dX7_swaps_22 : decode cX7_swaps 22 = .ok (.iload_n 3, 1) := by decide +kernel
theorem dX7_swaps_23 : decode cX7_swaps 23 = .ok (.ifCond .ge 5, 3) := by decide +kernel
theorem dX7_swaps_26 : decode cX7_swaps 26 = .ok (.iload_n 3, 1) := by decide +kernel
theorem dX7_swaps_27 : decode cX7_swaps 27 = .ok (.ireturn, 1) := by decide +kernel
theorem dX7_swaps_28 : decode cX7_swaps 28 = .ok (.aload_n 0, 1) := by decide +kernel
theorem dX7_swaps_29 : decode cX7_swaps 29 = .ok (.iload_n 1, 1) := by decide +kernel
theorem dX7_swaps_30 : decode cX7_swaps 30 = .ok (.invokevirtual 217, 3) := by decide +kernel
theorem dX7_swaps_33 : decode cX7_swaps 33 = .ok (.istore 4, 2) := by decide +kernel
theorem dX7_swaps_35 : decode cX7_swaps 35 = .ok (.iconst 0, 1) := by decide +kernel
theorem dX7_swaps_36 : decode cX7_swaps 36 = .ok (.istore 5, 2) := by decide +kernel
theorem dX7_swaps_38 : decode cX7_swaps 38 = .ok (.iconst 0, 1) := by decide +kernel
theorem dX7_swaps_39 : decode cX7_swaps 39 = .ok (.istore 6, 2) := by decide +kernel
theorem dX7_swaps_41 : decode cX7_swaps 41 = .ok (.iload 6, 2) := by decide +kernel
theorem dX7_swaps_43 : decode cX7_swaps 43 = .ok (.bipush (-9), 2) := by decide +kernel
theorem dX7_swaps_45 : decode cX7_swaps 45 = .ok (.if_icmp .eq 118, 3) := by decide +kernel
theorem dX7_swaps_48 : decode cX7_swaps 48 = .ok (.bipush (-9), 2) := by decide +kernel
theorem dX7_swaps_50 : decode cX7_swaps 50 = .ok (.istore 6, 2) := by decide +kernel
theorem dX7_swaps_52 : decode cX7_swaps 52 = .ok (.iload 4, 2) := by decide +kernel
theorem dX7_swaps_54 : decode cX7_swaps 54 = .ok (.istore 7, 2) := by decide +kernel
theorem dX7_swaps_56 : decode cX7_swaps 56 = .ok (.iconst 0, 1) := by decide +kernel
theorem dX7_swaps_57 : decode cX7_swaps 57 = .ok (.istore 8, 2) := by decide +kernel
theorem dX7_swaps_59 : decode cX7_swaps 59 = .ok (.iload 8, 2) := by decide +kernel
theorem dX7_swaps_61 : decode cX7_swaps 61 = .ok (.iconst 1, 1) := by decide +kernel
theorem dX7_swaps_62 : decode cX7_swaps 62 = .ok (.iadd, 1) := by decide +kernel
theorem dX7_swaps_63 : decode cX7_swaps 63 = .ok (.aload_n 0, 1) := by decide +kernel
theorem dX7_swaps_64 : decode cX7_swaps 64 = .ok (.getfield 157, 3) := by decide +kernel
theorem dX7_swaps_67 : decode cX7_swaps 67 = .ok (.if_icmp .ge 69, 3) := by decide +kernel
theorem dX7_swaps_70 : decode cX7_swaps 70 = .ok (.aload_n 0, 1) := by decide +kernel
theorem dX7_swaps_71 : decode cX7_swaps 71 = .ok (.iload 8, 2) := by decide +kernel
theorem dX7_swaps_73 : decode cX7_swaps 73 = .ok (.iload 8, 2) := by decide +kernel
theorem dX7_swaps_75 : decode cX7_swaps 75 = .ok (.iconst 1, 1) := by decide +kernel
theorem dX7_swaps_76 : decode cX7_swaps 76 = .ok (.iadd, 1) := by decide +kernel
theorem dX7_swaps_77 : decode cX7_swaps 77 = .ok (.invokevirtual 263, 3) := by decide +kernel
theorem dX7_swaps_80 : decode cX7_swaps 80 = .ok (.aload_n 0, 1) := by decide +kernel
theorem dX7_swaps_81 : decode cX7_swaps 81 = .ok (.invokevirtual 189, 3) := by decide +kernel
theorem dX7_swaps_84 : decode cX7_swaps 84 = .ok (.aload_n 0, 1) := by decide +kernel
theorem dX7_swaps_85 : decode cX7_swaps 85 = .ok (.invokevirtual 223, 3) := by decide +kernel
theorem dX7_swaps_88 : decode cX7_swaps 88 = .ok (.bipush (-9), 2) := by decide +kernel
theorem dX7_swaps_90 : decode cX7_swaps 90 = .ok (.if_icmp .ne 11, 3) := by decide +kernel
theorem dX7_swaps_93 : decode cX7_swaps 93 = .ok (.aload_n 0, 1) := by decide +kernel
theorem dX7_swaps_94 : decode cX7_swaps 94 = .ok (.iload_n 1, 1) := by decide +kernel
theorem dX7_swaps_95 : decode cX7_swaps 95 = .ok (.invokevirtual 217, 3) := by decide +kernel
theorem dX7_swaps_98 : decode cX7_swaps 98 = .ok (.goto 5, 3) := by decide +kernel
theorem dX7_swaps_101 : decode cX7_swaps 101 = .ok (.ldc 246, 2) := by decide +kernel
theorem dX7_swaps_103 : decode cX7_swaps 103 = .ok (.istore 9, 2) := by decide +kernel
theorem dX7_swaps_105 : decode cX7_swaps 105 = .ok (.aload_n 0, 1) := by decide +kernel
theorem dX7_swaps_106 : decode cX7_swaps 106 = .ok (.iload 8, 2) := by decide +kernel
theorem dX7_swaps_108 : decode cX7_swaps 108 = .ok (.iload 8, 2) := by decide +kernel
theorem dX7_swaps_110 : decode cX7_swaps 110 = .ok (.iconst 1, 1) := by decide +kernel
theorem dX7_swaps_111 : decode cX7_swaps 111 = .ok (.iadd, 1) := by decide +kernel
theorem dX7_swaps_112 : decode cX7_swaps 112 = .ok (.invokevirtual 263, 3) := by decide +kernel
theorem dX7_swaps_115 : decode cX7_swaps 115 = .ok (.iload 9, 2) := by decide +kernel
theorem dX7_swaps_117 : decode cX7_swaps 117 = .ok (.iload 7, 2) := by decide +kernel
theorem dX7_swaps_119 : decode cX7_swaps 119 = .ok (.if_icmp .ge 11, 3) := by decide +kernel
theorem dX7_swaps_122 : decode cX7_swaps 122 = .ok (.iload 8, 2) := by decide +kernel
theorem dX7_swaps_124 : decode cX7_swaps 124 = .ok (.istore 6, 2) := by decide +kernel
theorem dX7_swaps_126 : decode cX7_swaps 126 = .ok (.iload 9, 2) := by decide +kernel
theorem dX7_swaps_128 : decode cX7_swaps 128 = .ok (.istore 7, 2) := by decide +kernel
theorem dX7_swaps_130 : decode cX7_swaps 130 = .ok (.iinc 8 1, 3) := by decide +kernel
theorem dX7_swaps_133 : decode cX7_swaps 133 = .ok (.goto (-74), 3) := by decide +kernel
theorem dX7_swaps_136 : decode cX7_swaps 136 = .ok (.iload 6, 2) := by decide +kernel
theorem dX7_swaps_138 : decode cX7_swaps 138 = .ok (.bipush (-9), 2) := by decide +kernel
theorem dX7_swaps_140 : decode cX7_swaps 140 = .ok (.if_icmp .eq 20, 3) := by decide +kernel
theorem dX7_swaps_143 : decode cX7_swaps 143 = .ok (.aload_n 0, 1) := by decide +kernel
theorem dX7_swaps_144 : decode cX7_swaps 144 = .ok (.iload 6, 2) := by decide +kernel
theorem dX7_swaps_146 : decode cX7_swaps 146 = .ok (.iload 6, 2) := by decide +kernel
theorem dX7_swaps_148 : decode cX7_swaps 148 = .ok (.iconst 1, 1) := by decide +kernel
theorem dX7_swaps_149 : decode cX7_swaps 149 = .ok (.iadd, 1) := by decide +kernel
theorem dX7_swaps_150 : decode cX7_swaps 150 = .ok (.invokevirtual 263, 3) := by decide +kernel
theorem dX7_swaps_153 : decode cX7_swaps 153 = .ok (.iload 7, 2) := by decide +kernel
theorem dX7_swaps_155 : decode cX7_swaps 155 = .ok (.istore 4, 2) := by decide +kernel
theorem dX7_swaps_157 : decode cX7_swaps 157 = .ok (.iinc 5 1, 3) := by decide +kernel
theorem dX7_swaps_160 : decode cX7_swaps 160 = .ok (.goto (-119), 3) := by decide +kernel
theorem dX7_swaps_163 : decode cX7_swaps 163 = .ok (.aload_n 0, 1) := by decide +kernel
theorem dX7_swaps_164 : decode cX7_swaps 164 = .ok (.iload_n 2, 1) := by decide +kernel
theorem dX7_swaps_165 : decode cX7_swaps 165 = .ok (.invokevirtual 308, 3) := by decide +kernel
theorem dX7_swaps_168 : decode cX7_swaps 168 = .ok (.aload_n 0, 1) := by decide +kernel
theorem dX7_swaps_169 : decode cX7_swaps 169 = .ok (.iload 4, 2) := by decide +kernel
theorem dX7_swaps_171 : decode cX7_swaps 171 = .ok (.iload 5, 2) := by decide +kernel
theorem dX7_swaps_173 : decode cX7_swaps 173 = .ok (.invokevirtual 114, 3) := by decide +kernel
theorem dX7_swaps_176 : decode cX7_swaps 176 = .ok (.ireturn, 1) := by decide +kernel
theorem dX7_shift_0 : decode cX7_shift 0 = .ok (.aload_n 0, 1) := by decide +kernel
theorem dX7_shift_1 : decode cX7_shift 1 = .ok (.getfield 41, 3) := by decide +kernel
theorem dX7_shift_4 : decode cX7_shift 4 = .ok (.iload_n 1, 1) := by decide +kernel
theorem dX7_shift_5 : decode cX7_shift 5 = .ok (.iaload, 1) := by decide +kernel
theorem dX7_shift_6 : decode cX7_shift 6 = .ok (.istore_n 3, 1) := by decide +kernel
theorem dX7_shift_7 : decode cX7_shift 7 = .ok (.iload_n 1, 1) := by decide +kernel
theorem dX7_shift_8 : decode cX7_shift 8 = .ok (.istore 4, 2) := by decide +kernel
theorem dX7_shift_10 : decode cX7_shift 10 = .ok (.iload 4, 2) := by decide +kernel
theorem dX7_shift_12 : decode cX7_shift 12 = .ok (.iload_n 2, 1) := by decide +kernel
theorem dX7_shift_13 : decode cX7_shift 13 = .ok (.if_icmp .ge 25, 3) := by decide +kernel
theorem dX7_shift_16 : decode cX7_shift 16 = .ok (.aload_n 0, 1) := by decide +kernel
theorem dX7_shift_17 : decode cX7_shift 17 = .ok (.getfield 41, 3) := by decide +kernel
theorem dX7_shift_20 : decode cX7_shift 20 = .ok (.iload 4, 2) := by decide +kernel
theorem dX7_shift_22 : decode cX7_shift 22 = .ok (.aload_n 0, 1) := by decide +kernel
theorem dX7_shift_23 : decode cX7_shift 23 = .ok (.getfield 41, 3) := by decide +kernel
theorem dX7_shift_26 : decode cX7_shift 26 = .ok (.iload 4, 2) := by decide +kernel
theorem dX7_shift_28 : decode cX7_shift 28 = .ok (.iconst 1, 1) := by decide +kernel
theorem dX7_shift_29 : decode cX7_shift 29 = .ok (.iadd, 1) := by decide +kernel
theorem dX7_shift_30 : decode cX7_shift 30 = .ok (.iaload, 1) := by decide +kernel
theorem dX7_shift_31 : decode cX7_shift 31 = .ok (.iastore, 1) := by decide +kernel
theorem dX7_shift_32 : decode cX7_shift 32 = .ok (.iinc 4 1, 3) := by decide +kernel
theorem dX7_shift_35 : decode cX7_shift 35 = .ok (.goto (-25), 3) := by decide +kernel
theorem dX7_shift_38 : decode cX7_shift 38 = .ok (.iload_n 1, 1) := by decide +kernel
theorem dX7_shift_39 : decode cX7_shift 39 = .ok (.istore 4, 2) := by decide +kernel
theorem dX7_shift_41 : decode cX7_shift 41 = .ok (.iload 4, 2) := by decide +kernel
theorem dX7_shift_43 : decode cX7_shift 43 = .ok (.iload_n 2, 1) := by decide +kernel
theorem dX7_shift_44 : decode cX7_shift 44 = .ok (.if_icmp .le 25, 3) := by decide +kernel
theorem dX7_shift_47 : decode cX7_shift 47 = .ok (.aload_n 0, 1) := by decide +kernel
theorem dX7_shift_48 : decode cX7_shift 48 = .ok (.getfield 41, 3) := by decide +kernel
theorem dX7_shift_51 : decode cX7_shift 51 = .ok (.iload 4, 2) := by decide +kernel
theorem dX7_shift_53 : decode cX7_shift 53 = .ok (.aload_n 0, 1) := by decide +kernel
theorem dX7_shift_54 : decode cX7_shift 54 = .ok (.getfield 41, 3) := by decide +kernel
theorem dX7_shift_57 : decode cX7_shift 57 = .ok (.iload 4, 2) := by decide +kernel
theorem dX7_shift_59 : decode cX7_shift 59 = .ok (.iconst 1, 1) := by decide +kernel
theorem dX7_shift_60 : decode cX7_shift 60 = .ok (.isub, 1) := by decide +kernel
theorem dX7_shift_61 : decode cX7_shift 61 = .ok (.iaload, 1) := by decide +kernel
theorem dX7_shift_62 : decode cX7_shift 62 = .ok (.iastore, 1) := by decide +kernel
theorem dX7_shift_63 : decode cX7_shift 63 = .ok (.iinc 4 (-1), 3) := by decide +kernel
theorem dX7_shift_66 : decode cX7_shift 66 = .ok (.goto (-25), 3) := by decide +kernel
theorem dX7_shift_69 : decode cX7_shift 69 = .ok (.aload_n 0, 1) := by decide +kernel
theorem dX7_shift_70 : decode cX7_shift 70 = .ok (.getfield 41, 3) := by decide +kernel
theorem dX7_shift_73 : decode cX7_shift 73 = .ok (.iload_n 2, 1) := by decide +kernel
theorem dX7_shift_74 : decode cX7_shift 74 = .ok (.iload_n 3, 1) := by decide +kernel
theorem dX7_shift_75 : decode cX7_shift 75 = .ok (.iastore, 1) := by decide +kernel
theorem dX7_shift_76 : decode cX7_shift 76 = .ok (.aload_n 0, 1) := by decide +kernel
theorem dX7_shift_77 : decode cX7_shift 77 = .ok (.invokevirtual 189, 3) := by decide +kernel
theorem dX7_shift_80 : decode cX7_shift 80 = .ok (.return_, 1) := by decide +kernel
theorem dX7_moves_0 : decode cX7_moves 0 = .ok (.iload_n 1, 1) := by decide +kernel
theorem dX7_moves_1 : decode cX7_moves 1 = .ok (.invokestatic 211, 3) := by decide +kernel
theorem dX7_moves_4 : decode cX7_moves 4 = .ok (.ifCond .eq 10, 3) := by decide +kernel
theorem dX7_moves_7 : decode cX7_moves 7 = .ok (.iload_n 2, 1) := by decide +kernel
theorem dX7_moves_8 : decode cX7_moves 8 = .ok (.invokestatic 102, 3) := by decide +kernel
theorem dX7_moves_11 : decode cX7_moves 11 = .ok (.ifCond .ne 5, 3) := by decide +kernel
theorem dX7_moves_14 : decode cX7_moves 14 = .ok (.iconst (-1), 1) := by decide +kernel
theorem dX7_moves_15 : decode cX7_moves 15 = .ok (.ireturn, 1) := by decide +kernel
theorem dX7_moves_16 : decode cX7_moves 16 = .ok (.aload_n 0, 1) := by decide +kernel
theorem dX7_moves_17 : decode cX7_moves 17 = .ok (.iload_n 2, 1) := by decide +kernel
theorem dX7_moves_18 : decode cX7_moves 18 = .ok (.invokevirtual 367, 3) := by decide +kernel
theorem dX7_moves_21 : decode cX7_moves 21 = .ok (.istore_n 3, 1) := by decide +kernel
theorem dX7_moves_22 : decode cX7_moves 22 = .ok (.iload_n 3, 1) := by decide +kernel
theorem dX7_moves_23 : decode cX7_moves 23 = .ok (.ifCond .ge 5, 3) := by decide +kernel
theorem dX7_moves_26 : decode cX7_moves 26 = .ok (.iload_n 3, 1) := by decide +kernel
theorem dX7_moves_27 : decode cX7_moves 27 = .ok (.ireturn, 1) := by decide +kernel
theorem dX7_moves_28 : decode cX7_moves 28 = .ok (.aload_n 0, 1) := by decide +kernel
theorem dX7_moves_29 : decode cX7_moves 29 = .ok (.iload_n 1, 1) := by decide +kernel
theorem dX7_moves_30 : decode cX7_moves 30 = .ok (.invokevirtual 217, 3) := by decide +kernel
theorem dX7_moves_33 : decode cX7_moves 33 = .ok (.istore 4, 2) := by decide +kernel
theorem dX7_moves_35 : decode cX7_moves 35 = .ok (.iconst 0, 1) := by decide +kernel
theorem dX7_moves_36 : decode cX7_moves 36 = .ok (.istore 5, 2) := by decide +kernel
theorem dX7_moves_38 : decode cX7_moves 38 = .ok (.iconst 0, 1) := by decide +kernel
theorem dX7_moves_39 : decode cX7_moves 39 = .ok (.istore 6, 2) := by decide +kernel
theorem dX7_moves_41 : decode cX7_moves 41 = .ok (.iload 6, 2) := by decide +kernel
theorem dX7_moves_43 : decode cX7_moves 43 = .ok (.bipush (-9), 2) := by decide +kernel
theorem dX7_moves_45 : decode cX7_moves 45 = .ok (.if_icmp .eq 156, 3) := by decide +kernel
theorem dX7_moves_48 : decode cX7_moves 48 = .ok (.bipush (-9), 2) := by decide +kernel
theorem dX7_moves_50 : decode cX7_moves 50 = .ok (.istore 6, 2) := by decide +kernel
theorem dX7_moves_52 : decode cX7_moves 52 = .ok (.iload 4, 2) := by decide +kernel
theorem dX7_moves_54 : decode cX7_moves 54 = .ok (.istore 7, 2) := by decide +kernel
theorem dX7_moves_56 : decode cX7_moves 56 = .ok (.iconst 0, 1) := by decide +kernel
theorem dX7_moves_57 : decode cX7_moves 57 = .ok (.istore 8, 2) := by decide +kernel
theorem dX7_moves_59 : decode cX7_moves 59 = .ok (.iload 8, 2) := by decide +kernel
theorem dX7_moves_61 : decode cX7_moves 61 = .ok (.aload_n 0, 1) := by decide +kernel
theorem dX7_moves_62 : decode cX7_moves 62 = .ok (.getfield 157, 3) := by decide +kernel
theorem dX7_moves_65 : decode cX7_moves 65 = .ok (.aload_n 0, 1) := by decide +kernel
theorem dX7_moves_66 : decode cX7_moves 66 = .ok (.getfield 157, 3) := by decide +kernel
theorem dX7_moves_69 : decode cX7_moves 69 = .ok (.imul, 1) := by decide +kernel
theorem dX7_moves_70 : decode cX7_moves 70 = .ok (.if_icmp .ge 91, 3) := by decide +kernel
theorem dX7_moves_73 : decode cX7_moves 73 = .ok (.aload_n 0, 1) := by decide +kernel
theorem dX7_moves_74 : decode cX7_moves 74 = .ok (.getfield 44, 3) := by decide +kernel
theorem dX7_moves_77 : decode cX7_moves 77 = .ok (.iload 8, 2) := by decide +kernel
theorem dX7_moves_79 : decode cX7_moves 79 = .ok (.aload_n 0, 1) := by decide +kernel
theorem dX7_moves_80 : decode cX7_moves 80 = .ok (.getfield 157, 3) := by decide +kernel
theorem dX7_moves_83 : decode cX7_moves 83 = .ok (.idiv, 1) := by decide +kernel
theorem dX7_moves_84 : decode cX7_moves 84 = .ok (.iaload, 1) := by decide +kernel
theorem dX7_moves_85 : decode cX7_moves 85 = .ok (.istore 9, 2) := by decide +kernel
theorem dX7_moves_87 : decode cX7_moves 87 = .ok (.iload 8, 2) := by decide +kernel
theorem dX7_moves_89 : decode cX7_moves 89 = .ok (.aload_n 0, 1) := by decide +kernel
theorem dX7_moves_90 : decode cX7_moves 90 = .ok (.getfield 157, 3) := by decide +kernel
theorem dX7_moves_93 : decode cX7_moves 93 = .ok (.irem, 1) := by decide +kernel
theorem dX7_moves_94 : decode cX7_moves 94 = .ok (.istore 10, 2) := by decide +kernel
theorem dX7_moves_96 : decode cX7_moves 96 = .ok (.aload_n 0, 1) := by decide +kernel
theorem dX7_moves_97 : decode cX7_moves 97 = .ok (.iload 9, 2) := by decide +kernel
theorem dX7_moves_99 : decode cX7_moves 99 = .ok (.iload 10, 2) := by decide +kernel
theorem dX7_moves_101 : decode cX7_moves 101 = .ok (.invokevirtual 370, 3) := by decide +kernel
theorem dX7_moves_104 : decode cX7_moves 104 = .ok (.aload_n 0, 1) := by decide +kernel
theorem dX7_moves_105 : decode cX7_moves 105 = .ok (.invokevirtual 223, 3) := by decide +kernel
theorem dX7_moves_108 : decode cX7_moves 108 = .ok (.bipush (-9), 2) := by decide +kernel
theorem dX7_moves_110 : decode cX7_moves 110 = .ok (.if_icmp .ne 11, 3) := by decide +kernel
theorem dX7_moves_113 : decode cX7_moves 113 = .ok (.aload_n 0, 1) := by decide +kernel
theorem dX7_moves_114 : decode cX7_moves 114 = .ok (.iload_n 1, 1) := by decide +kernel
theorem dX7_moves_115 : decode cX7_moves 115 = .ok (.invokevirtual 217, 3) := by decide +kernel
theorem dX7_moves_118 : decode cX7_moves 118 = .ok (.goto 5, 3) := by decide +kernel
theorem dX7_moves_121 : decode cX7_moves 121 = .ok (.ldc 246, 2) := by decide +kernel
theorem dX7_moves_123 : decode cX7_moves 123 = .ok (.istore 11, 2) := by decide +kernel
theorem dX7_moves_125 : decode cX7_moves 125 = .ok (.aload_n 0, 1) := by decide +kernel
theorem dX7_moves_126 : decode cX7_moves 126 = .ok (.iload 10, 2) := by decide +kernel
theorem dX7_moves_128 : decode cX7_moves 128 = .ok (.iload 9, 2) := by decide +kernel
theorem dX7_moves_130 : decode cX7_moves 130 = .ok (.invokevirtual 370, 3) := by decide +kernel
theorem dX7_moves_133 : decode cX7_moves 133 = .ok (.iload 9, 2) := by decide +kernel
theorem dX7_moves_135 : decode cX7_moves 135 = .ok (.iload 10, 2) := by decide +kernel
theorem dX7_moves_137 : decode cX7_moves 137 = .ok (.if_icmp .eq 18, 3) := by decide +kernel
theorem dX7_moves_140 : decode cX7_moves 140 = .ok (.iload 11, 2) := by decide +kernel
theorem dX7_moves_142 : decode cX7_moves 142 = .ok (.iload 7, 2) := by decide +kernel
theorem dX7_moves_144 : decode cX7_moves 144 = .ok (.if_icmp .ge 11, 3) := by decide +kernel
theorem dX7_moves_147 : decode cX7_moves 147 = .ok (.iload 8, 2) := by decide +kernel
theorem dX7_moves_149 : decode cX7_moves 149 = .ok (.istore 6, 2) := by decide +kernel
theorem dX7_moves_151 : decode cX7_moves 151 = .ok (.iload 11, 2) := by decide +kernel
theorem dX7_moves_153 : decode cX7_moves 153 = .ok (.istore 7, 2) := by decide +kernel
theorem dX7_moves_155 : decode cX7_moves 155 = .ok (.iinc 8 1, 3) := by decide +kernel
theorem dX7_moves_158 : decode cX7_moves 158 = .ok (.goto (-99), 3) := by decide +kernel
theorem dX7_moves_161 : decode cX7_moves 161 = .ok (.iload 6, 2) := by decide +kernel
theorem dX7_moves_163 : decode cX7_moves 163 = .ok (.bipush (-9), 2) := by decide +kernel
theorem dX7_moves_165 : decode cX7_moves 165 = .ok (.if_icmp .eq 33, 3) := by decide +kernel
theorem dX7_moves_168 : decode cX7_moves 168 = .ok (.aload_n 0, 1) := by decide +kernel
theorem dX7_moves_169 : decode cX7_moves 169 = .ok (.aload_n 0, 1) := by decide +kernel
theorem dX7_moves_170 : decode cX7_moves 170 = .ok (.getfield 44, 3) := by decide +kernel
theorem dX7_moves_173 : decode cX7_moves 173 = .ok (.iload 6, 2) := by decide +kernel
theorem dX7_moves_175 : decode cX7_moves 175 = .ok (.aload_n 0, 1) := by decide +kernel
theorem dX7_moves_176 : decode cX7_moves 176 = .ok (.getfield 157, 3) := by decide +kernel
theorem dX7_moves_179 : decode cX7_moves 179 = .ok (.idiv, 1) := by decide +kernel
theorem dX7_moves_180 : decode cX7_moves 180 = .ok (.iaload, 1) := by decide +kernel
theorem dX7_moves_181 : decode cX7_moves 181 = .ok (.iload 6, 2) := by decide +kernel
theorem dX7_moves_183 : decode cX7_moves 183 = .ok (.aload_n 0, 1) := by decide +kernel
theorem dX7_moves_184 : decode cX7_moves 184 = .ok (.getfield 157, 3) := by decide +kernel
theorem dX7_moves_187 : decode cX7_moves 187 = .ok (.irem, 1) := by decide +kernel
theorem dX7_moves_188 : decode cX7_moves 188 = .ok (.invokevirtual 370, 3) := by decide +kernel
theorem dX7_moves_191 : decode cX7_moves 191 = .ok (.iload 7, 2) := by decide +kernel
theorem dX7_moves_193 : decode cX7_moves 193 = .ok (.istore 4, 2) := by decide +kernel
theorem dX7_moves_195 : decode cX7_moves 195 = .ok (.iinc 5 1, 3) := by decide +kernel
theorem dX7_moves_198 : decode cX7_moves 198 = .ok (.goto (-157), 3) := by decide +kernel
theorem dX7_moves_201 : decode cX7_moves 201 = .ok (.aload_n 0, 1) := by decide +kernel
theorem dX7_moves_202 : decode cX7_moves 202 = .ok (.iload_n 2, 1) := by decide +kernel
theorem dX7_moves_203 : decode cX7_moves 203 = .ok (.invokevirtual 308, 3) := by decide +kernel
theorem dX7_moves_206 : decode cX7_moves 206 = .ok (.aload_n 0, 1) := by decide +kernel
theorem dX7_moves_207 : decode cX7_moves 207 = .ok (.iload 4, 2) := by decide +kernel
theorem dX7_moves_209 : decode cX7_moves 209 = .ok (.iload 5, 2) := by decide +kernel
theorem dX7_moves_211 : decode cX7_moves 211 = .ok (.invokevirtual 114, 3) := by decide +kernel
theorem dX7_moves_214 : decode cX7_moves 214 = .ok (.ireturn, 1) := by decide +kernel
theorem dX7_apart_0 : decode cX7_apart 0 = .ok (.iload_n 1, 1) := by decide +kernel
theorem dX7_apart_1 : decode cX7_apart 1 = .ok (.invokestatic 102, 3) := by decide +kernel
theorem dX7_apart_4 : decode cX7_apart 4 = .ok (.ifCond .eq 10, 3) := by decide +kernel
theorem dX7_apart_7 : decode cX7_apart 7 = .ok (.iload_n 2, 1) := by decide +kernel
theorem dX7_apart_8 : decode cX7_apart 8 = .ok (.invokestatic 102, 3) := by decide +kernel
theorem dX7_apart_11 : decode cX7_apart 11 = .ok (.ifCond .ne 5, 3) := by decide +kernel
theorem dX7_apart_14 : decode cX7_apart 14 = .ok (.iconst (-1), 1) := by decide +kernel
theorem dX7_apart_15 : decode cX7_apart 15 = .ok (.ireturn, 1) := by decide +kernel
theorem dX7_apart_16 : decode cX7_apart 16 = .ok (.aload_n 0, 1) := by decide +kernel
theorem dX7_apart_17 : decode cX7_apart 17 = .ok (.getfield 13, 3) := by decide +kernel
theorem dX7_apart_20 : decode cX7_apart 20 = .ok (.iload_n 1, 1) := by decide +kernel
theorem dX7_apart_21 : decode cX7_apart 21 = .ok (.iaload, 1) := by decide +kernel
theorem dX7_apart_22 : decode cX7_apart 22 = .ok (.ifCond .lt 12, 3) := by decide +kernel
theorem dX7_apart_25 : decode cX7_apart 25 = .ok (.aload_n 0, 1) := by decide +kernel
theorem dX7_apart_26 : decode cX7_apart 26 = .ok (.getfield 13, 3) := by decide +kernel
theorem dX7_apart_29 : decode cX7_apart 29 = .ok (.iload_n 2, 1) := by decide +kernel
theorem dX7_apart_30 : decode cX7_apart 30 = .ok (.iaload, 1) := by decide +kernel
theorem dX7_apart_31 : decode cX7_apart 31 = .ok (.ifCond .ge 9, 3) := by decide +kernel
theorem dX7_apart_34 : decode cX7_apart 34 = .ok (.aload_n 0, 1) := by decide +kernel
theorem dX7_apart_35 : decode cX7_apart 35 = .ok (.iconst 1, 1) := by decide +kernel
theorem dX7_apart_36 : decode cX7_apart 36 = .ok (.invokevirtual 106, 3) := by decide +kernel
theorem dX7_apart_39 : decode cX7_apart 39 = .ok (.ireturn, 1) := by decide +kernel
theorem dX7_apart_40 : decode cX7_apart 40 = .ok (.aload_n 0, 1) := by decide +kernel
theorem dX7_apart_41 : decode cX7_apart 41 = .ok (.getfield 13, 3) := by decide +kernel
theorem dX7_apart_44 : decode cX7_apart 44 = .ok (.iload_n 1, 1) := by decide +kernel
theorem dX7_apart_45 : decode cX7_apart 45 = .ok (.iaload, 1) := by decide +kernel
theorem dX7_apart_46 : decode cX7_apart 46 = .ok (.aload_n 0, 1) := by decide +kernel
theorem dX7_apart_47 : decode cX7_apart 47 = .ok (.getfield 157, 3) := by decide +kernel
theorem dX7_apart_50 : decode cX7_apart 50 = .ok (.if_icmp .ne 16, 3) := by decide +kernel
theorem dX7_apart_53 : decode cX7_apart 53 = .ok (.aload_n 0, 1) := by decide +kernel
theorem dX7_apart_54 : decode cX7_apart 54 = .ok (.getfield 13, 3) := by decide +kernel
theorem dX7_apart_57 : decode cX7_apart 57 = .ok (.iload_n 2, 1) := by decide +kernel
theorem dX7_apart_58 : decode cX7_apart 58 = .ok (.iaload, 1) := by decide +kernel
theorem dX7_apart_59 : decode cX7_apart 59 = .ok (.aload_n 0, 1) := by decide +kernel
theorem dX7_apart_60 : decode cX7_apart 60 = .ok (.getfield 157, 3) := by decide +kernel
theorem dX7_apart_63 : decode cX7_apart 63 = .ok (.if_icmp .eq 9, 3) := by decide +kernel
theorem dX7_apart_66 : decode cX7_apart 66 = .ok (.aload_n 0, 1) := by decide +kernel
theorem dX7_apart_67 : decode cX7_apart 67 = .ok (.iconst 5, 1) := by decide +kernel
theorem dX7_apart_68 : decode cX7_apart 68 = .ok (.invokevirtual 106, 3) := by decide +kernel
theorem dX7_apart_71 : decode cX7_apart 71 = .ok (.ireturn, 1) := by decide +kernel
theorem dX7_apart_72 : decode cX7_apart 72 = .ok (.aload_n 0, 1) := by decide +kernel
theorem dX7_apart_73 : decode cX7_apart 73 = .ok (.iload_n 1, 1) := by decide +kernel
theorem dX7_apart_74 : decode cX7_apart 74 = .ok (.invokevirtual 214, 3) := by decide +kernel
theorem dX7_apart_77 : decode cX7_apart 77 = .ok (.istore_n 3, 1) := by decide +kernel
theorem dX7_apart_78 : decode cX7_apart 78 = .ok (.iload_n 3, 1) := by decide +kernel
theorem dX7_apart_79 : decode cX7_apart 79 = .ok (.ifCond .ge 5, 3) := by decide +kernel
theorem dX7_apart_82 : decode cX7_apart 82 = .ok (.iload_n 3, 1) := by decide +kernel
theorem dX7_apart_83 : decode cX7_apart 83 = .ok (.ireturn, 1) := by decide +kernel
theorem dX7_apart_84 : decode cX7_apart 84 = .ok (.iconst 0, 1) := by decide +kernel
theorem dX7_apart_85 : decode cX7_apart 85 = .ok (.istore 4, 2) := by decide +kernel
theorem dX7_apart_87 : decode cX7_apart 87 = .ok (.iload 4, 2) := by decide +kernel
theorem dX7_apart_89 : decode cX7_apart 89 = .ok (.aload_n 0, 1) := by decide +kernel
theorem dX7_apart_90 : decode cX7_apart 90 = .ok (.getfield 157, 3) := by decide +kernel
theorem dX7_apart_93 : decode cX7_apart 93 = .ok (.if_icmp .ge 23, 3) := by decide +kernel
theorem dX7_apart_96 : decode cX7_apart 96 = .ok (.aload_n 0, 1) := by decide +kernel
theorem dX7_apart_97 : decode cX7_apart 97 = .ok (.getfield 62, 3) := by decide +kernel
theorem dX7_apart_100 : decode cX7_apart 100 = .ok (.iload 4, 2) := by decide +kernel
theorem dX7_apart_102 : decode cX7_apart 102 = .ok (.aload_n 0, 1) := by decide +kernel
theorem dX7_apart_103 : decode cX7_apart 103 = .ok (.getfield 41, 3) := by decide +kernel
theorem dX7_apart_106 : decode cX7_apart 106 = .ok (.iload 4, 2) := by decide +kernel
theorem dX7_apart_108 : decode cX7_apart 108 = .ok (.iaload, 1) := by decide +kernel
theorem dX7_apart_109 : decode cX7_apart 109 = .ok (.iastore, 1) := by decide +kernel
theorem dX7_apart_110 : decode cX7_apart 110 = .ok (.iinc 4 1, 3) := by decide +kernel
theorem dX7_apart_113 : decode cX7_apart 113 = .ok (.goto (-26), 3) := by decide +kernel
theorem dX7_apart_116 : decode cX7_apart 116 = .ok (.aload_n 0, 1) := by decide +kernel
theorem dX7_apart_117 : decode cX7_apart 117 = .ok (.iload_n 2, 1) := by decide +kernel
theorem dX7_apart_118 : decode cX7_apart 118 = .ok (.invokevirtual 214, 3) := by decide +kernel
theorem dX7_apart_121 : decode cX7_apart 121 = .ok (.istore_n 3, 1) := by decide +kernel
theorem dX7_apart_122 : decode cX7_apart 122 = .ok (.iload_n 3, 1) := by decide +kernel
theorem dX7_apart_123 : decode cX7_apart 123 = .ok (.ifCond .ge 5, 3) := by decide +kernel
theorem dX7_apart_126 : decode cX7_apart 126 = .ok (.iload_n 3, 1) := by decide +kernel
theorem dX7_apart_127 : decode cX7_apart 127 = .ok (.ireturn, 1) := by decide +kernel
theorem dX7_apart_128 : decode cX7_apart 128 = .ok (.iconst 0, 1) := by decide +kernel
theorem dX7_apart_129 : decode cX7_apart 129 = .ok (.istore 4, 2) := by decide +kernel
theorem dX7_apart_131 : decode cX7_apart 131 = .ok (.iconst 0, 1) := by decide +kernel
theorem dX7_apart_132 : decode cX7_apart 132 = .ok (.istore 5, 2) := by decide +kernel
theorem dX7_apart_134 : decode cX7_apart 134 = .ok (.iload 5, 2) := by decide +kernel
theorem dX7_apart_136 : decode cX7_apart 136 = .ok (.aload_n 0, 1) := by decide +kernel
theorem dX7_apart_137 : decode cX7_apart 137 = .ok (.getfield 157, 3) := by decide +kernel
theorem dX7_apart_140 : decode cX7_apart 140 = .ok (.if_icmp .ge 67, 3) := by decide +kernel
theorem dX7_apart_143 : decode cX7_apart 143 = .ok (.iload 5, 2) := by decide +kernel
theorem dX7_apart_145 : decode cX7_apart 145 = .ok (.iconst 1, 1) := by decide +kernel
theorem dX7_apart_146 : decode cX7_apart 146 = .ok (.iadd, 1) := by decide +kernel
theorem dX7_apart_147 : decode cX7_apart 147 = .ok (.istore 6, 2) := by decide +kernel
theorem dX7_apart_149 : decode cX7_apart 149 = .ok (.iload 6, 2) := by decide +kernel
theorem dX7_apart_151 : decode cX7_apart 151 = .ok (.aload_n 0, 1) := by decide +kernel
theorem dX7_apart_152 : decode cX7_apart 152 = .ok (.getfield 157, 3) := by decide +kernel
theorem dX7_apart_155 : decode cX7_apart 155 = .ok (.if_icmp .ge 46, 3) := by decide +kernel
theorem dX7_apart_158 : decode cX7_apart 158 = .ok (.iload 4, 2) := by decide +kernel
theorem dX7_apart_160 : decode cX7_apart 160 = .ok (.aload_n 0, 1) := by decide +kernel
theorem dX7_apart_161 : decode cX7_apart 161 = .ok (.getfield 44, 3) := by decide +kernel
theorem dX7_apart_164 : decode cX7_apart 164 = .ok (.aload_n 0, 1) := by decide +kernel
theorem dX7_apart_165 : decode cX7_apart 165 = .ok (.getfield 62, 3) := by decide +kernel
theorem dX7_apart_168 : decode cX7_apart 168 = .ok (.iload 5, 2) := by decide +kernel
theorem dX7_apart_170 : decode cX7_apart 170 = .ok (.iaload, 1) := by decide +kernel
theorem dX7_apart_171 : decode cX7_apart 171 = .ok (.iaload, 1) := by decide +kernel
theorem dX7_apart_172 : decode cX7_apart 172 = .ok (.aload_n 0, 1) := by decide +kernel
theorem dX7_apart_173 : decode cX7_apart 173 = .ok (.getfield 44, 3) := by decide +kernel
theorem dX7_apart_176 : decode cX7_apart 176 = .ok (.aload_n 0, 1) := by decide +kernel
theorem dX7_apart_177 : decode cX7_apart 177 = .ok (.getfield 62, 3) := by decide +kernel
theorem dX7_apart_180 : decode cX7_apart 180 = .ok (.iload 6, 2) := by decide +kernel
theorem dX7_apart_182 : decode cX7_apart 182 = .ok (.iaload, 1) := by decide +kernel
theorem dX7_apart_183 : decode cX7_apart 183 = .ok (.iaload, 1) := by decide +kernel
theorem dX7_apart_184 : decode cX7_apart 184 = .ok (.if_icmp .le 7, 3) := by decide +kernel
theorem dX7_apart_187 : decode cX7_apart 187 = .ok (.iconst 1, 1) := by decide +kernel
theorem dX7_apart_188 : decode cX7_apart 188 = .ok (.goto 4, 3) := by decide +kernel
theorem dX7_apart_191 : decode cX7_apart 191 = .ok (.iconst 0, 1) := by decide +kernel
theorem dX7_apart_192 : decode cX7_apart 192 = .ok (.iadd, 1) := by decide +kernel
theorem dX7_apart_193 : decode cX7_apart 193 = .ok (.istore 4, 2) := by decide +kernel
theorem dX7_apart_195 : decode cX7_apart 195 = .ok (.iinc 6 1, 3) := by decide +kernel
theorem dX7_apart_198 : decode cX7_apart 198 = .ok (.goto (-49), 3) := by decide +kernel
theorem dX7_apart_201 : decode cX7_apart 201 = .ok (.iinc 5 1, 3) := by decide +kernel
theorem dX7_apart_204 : decode cX7_apart 204 = .ok (.goto (-70), 3) := by decide +kernel
theorem dX7_apart_207 : decode cX7_apart 207 = .ok (.iload 4, 2) := by decide +kernel
theorem dX7_apart_209 : decode cX7_apart 209 = .ok (.ireturn, 1) := by decide +kernel
theorem dX7_isSeed_0 : decode cX7_isSeed 0 = .ok (.iload_n 0, 1) := by decide +kernel
theorem dX7_isSeed_1 : decode cX7_isSeed 1 = .ok (.iconst 1, 1) := by decide +kernel
theorem dX7_isSeed_2 : decode cX7_isSeed 2 = .ok (.ldc_w 373, 3) := by decide +kernel
theorem dX7_isSeed_5 : decode cX7_isSeed 5 = .ok (.invokestatic 92, 3) := by decide +kernel
theorem dX7_isSeed_8 : decode cX7_isSeed 8 = .ok (.ireturn, 1) := by decide +kernel
theorem dX7_drawLine_0 : decode cX7_drawLine 0 = .ok (.iload_n 1, 1) := by decide +kernel
theorem dX7_drawLine_1 : decode cX7_drawLine 1 = .ok (.istore_n 2, 1) := by decide +kernel
theorem dX7_drawLine_2 : decode cX7_drawLine 2 = .ok (.aload_n 0, 1) := by decide +kernel
theorem dX7_drawLine_3 : decode cX7_drawLine 3 = .ok (.invokevirtual 236, 3) := by decide +kernel
theorem dX7_drawLine_6 : decode cX7_drawLine 6 = .ok (.istore_n 3, 1) := by decide +kernel
theorem dX7_drawLine_7 : decode cX7_drawLine 7 = .ok (.iconst 0, 1) := by decide +kernel
theorem dX7_drawLine_8 : decode cX7_drawLine 8 = .ok (.istore 4, 2) := by decide +kernel
theorem dX7_drawLine_10 : decode cX7_drawLine 10 = .ok (.iload 4, 2) := by decide +kernel
theorem dX7_drawLine_12 : decode cX7_drawLine 12 = .ok (.aload_n 0, 1) := by decide +kernel
theorem dX7_drawLine_13 : decode cX7_drawLine 13 = .ok (.getfield 157, 3) := by decide +kernel
theorem dX7_drawLine_16 : decode cX7_drawLine 16 = .ok (.if_icmp .ge 89, 3) := by decide +kernel
theorem dX7_drawLine_19 : decode cX7_drawLine 19 = .ok (.ldc2_w 374, 3) := by decide +kernel
theorem dX7_drawLine_22 : decode cX7_drawLine 22 = .ok (.iload_n 2, 1) := by decide +kernel
theorem dX7_drawLine_23 : decode cX7_drawLine 23 = .ok (.i2l, 1) := by decide +kernel
theorem dX7_drawLine_24 : decode cX7_drawLine 24 = .ok (.lmul, 1) := by decide +kernel
theorem dX7_drawLine_25 : decode cX7_drawLine 25 = .ok (.ldc2_w 376, 3) := by decide +kernel
theorem dX7_drawLine_28 : decode cX7_drawLine 28 = .ok (.lrem, 1) := by decide +kernel
theorem dX7_drawLine_29 : decode cX7_drawLine 29 = .ok (.l2i, 1) := by decide +kernel
theorem dX7_drawLine_30 : decode cX7_drawLine 30 = .ok (.istore_n 2, 1) := by decide +kernel
theorem dX7_drawLine_31 : decode cX7_drawLine 31 = .ok (.iload_n 2, 1) := by decide +kernel
theorem dX7_drawLine_32 : decode cX7_drawLine 32 = .ok (.iload_n 3, 1) := by decide +kernel
theorem dX7_drawLine_33 : decode cX7_drawLine 33 = .ok (.invokestatic 226, 3) := by decide +kernel
theorem dX7_drawLine_36 : decode cX7_drawLine 36 = .ok (.irem, 1) := by decide +kernel
theorem dX7_drawLine_37 : decode cX7_drawLine 37 = .ok (.istore 5, 2) := by decide +kernel
theorem dX7_drawLine_39 : decode cX7_drawLine 39 = .ok (.iconst 0, 1) := by decide +kernel
theorem dX7_drawLine_40 : decode cX7_drawLine 40 = .ok (.istore 6, 2) := by decide +kernel
theorem dX7_drawLine_42 : decode cX7_drawLine 42 = .ok (.iload_n 3, 1) := by decide +kernel
theorem dX7_drawLine_43 : decode cX7_drawLine 43 = .ok (.iload 6, 2) := by decide +kernel
theorem dX7_drawLine_45 : decode cX7_drawLine 45 = .ok (.invokestatic 186, 3) := by decide +kernel
theorem dX7_drawLine_48 : decode cX7_drawLine 48 = .ok (.ifCond .eq 8, 3) := by decide +kernel
theorem dX7_drawLine_51 : decode cX7_drawLine 51 = .ok (.iload 5, 2) := by decide +kernel
theorem dX7_drawLine_53 : decode cX7_drawLine 53 = .ok (.ifCond .le 28, 3) := by decide +kernel
theorem dX7_drawLine_56 : decode cX7_drawLine 56 = .ok (.iload 5, 2) := by decide +kernel
theorem dX7_drawLine_58 : decode cX7_drawLine 58 = .ok (.iload_n 3, 1) := by decide +kernel
theorem dX7_drawLine_59 : decode cX7_drawLine 59 = .ok (.iload 6, 2) := by decide +kernel
theorem dX7_drawLine_61 : decode cX7_drawLine 61 = .ok (.invokestatic 186, 3) := by decide +kernel
theorem dX7_drawLine_64 : decode cX7_drawLine 64 = .ok (.ifCond .eq 7, 3) := by decide +kernel
theorem dX7_drawLine_67 : decode cX7_drawLine 67 = .ok (.iconst 1, 1) := by decide +kernel
theorem dX7_drawLine_68 : decode cX7_drawLine 68 = .ok (.goto 4, 3) := by decide +kernel
theorem dX7_drawLine_71 : decode cX7_drawLine 71 = .ok (.iconst 0, 1) := by decide +kernel
theorem dX7_drawLine_72 : decode cX7_drawLine 72 = .ok (.isub, 1) := by decide +kernel
theorem dX7_drawLine_73 : decode cX7_drawLine 73 = .ok (.istore 5, 2) := by decide +kernel
theorem dX7_drawLine_75 : decode cX7_drawLine 75 = .ok (.iinc 6 1, 3) := by decide +kernel
theorem dX7_drawLine_78 : decode cX7_drawLine 78 = .ok (.goto (-36), 3) := by decide +kernel
theorem dX7_drawLine_81 : decode cX7_drawLine 81 = .ok (.aload_n 0, 1) := by decide +kernel
theorem dX7_drawLine_82 : decode cX7_drawLine 82 = .ok (.getfield 41, 3) := by decide +kernel
theorem dX7_drawLine_85 : decode cX7_drawLine 85 = .ok (.iload 4, 2) := by decide +kernel
theorem dX7_drawLine_87 : decode cX7_drawLine 87 = .ok (.iload 6, 2) := by decide +kernel
theorem dX7_drawLine_89 : decode cX7_drawLine 89 = .ok (.iastore, 1) := by decide +kernel
theorem dX7_drawLine_90 : decode cX7_drawLine 90 = .ok (.iload_n 3, 1) := by decide +kernel
theorem dX7_drawLine_91 : decode cX7_drawLine 91 = .ok (.iconst 1, 1) := by decide +kernel
theorem dX7_drawLine_92 : decode cX7_drawLine 92 = .ok (.iload 6, 2) := by decide +kernel
theorem dX7_drawLine_94 : decode cX7_drawLine 94 = .ok (.ishl, 1) := by decide +kernel
theorem dX7_drawLine_95 : decode cX7_drawLine 95 = .ok (.iconst (-1), 1) := by decide +kernel
theorem dX7_drawLine_96 : decode cX7_drawLine 96 = .ok (.ixor, 1) := by decide +kernel
theorem dX7_drawLine_97 : decode cX7_drawLine 97 = .ok (.iand, 1) := by decide +kernel
theorem dX7_drawLine_98 : decode cX7_drawLine 98 = .ok (.istore_n 3, 1) := by decide +kernel
theorem dX7_drawLine_99 : decode cX7_drawLine 99 = .ok (.iinc 4 1, 3) := by decide +kernel
theorem dX7_drawLine_102 : decode cX7_drawLine 102 = .ok (.goto (-92), 3) := by decide +kernel
theorem dX7_drawLine_105 : decode cX7_drawLine 105 = .ok (.aload_n 0, 1) := by decide +kernel
theorem dX7_drawLine_106 : decode cX7_drawLine 106 = .ok (.invokevirtual 189, 3) := by decide +kernel
theorem dX7_drawLine_109 : decode cX7_drawLine 109 = .ok (.iload_n 2, 1) := by decide +kernel
theorem dX7_drawLine_110 : decode cX7_drawLine 110 = .ok (.ireturn, 1) := by decide +kernel
theorem dX7_draw_0 : decode cX7_draw 0 = .ok (.iload_n 1, 1) := by decide +kernel
theorem dX7_draw_1 : decode cX7_draw 1 = .ok (.invokestatic 378, 3) := by decide +kernel
theorem dX7_draw_4 : decode cX7_draw 4 = .ok (.ifCond .eq 10, 3) := by decide +kernel
theorem dX7_draw_7 : decode cX7_draw 7 = .ok (.iload_n 2, 1) := by decide +kernel
theorem dX7_draw_8 : decode cX7_draw 8 = .ok (.invokestatic 102, 3) := by decide +kernel
theorem dX7_draw_11 : decode cX7_draw 11 = .ok (.ifCond .ne 5, 3) := by decide +kernel
theorem dX7_draw_14 : decode cX7_draw 14 = .ok (.iconst (-1), 1) := by decide +kernel
theorem dX7_draw_15 : decode cX7_draw 15 = .ok (.ireturn, 1) := by decide +kernel
theorem dX7_draw_16 : decode cX7_draw 16 = .ok (.aload_n 0, 1) := by decide +kernel
theorem dX7_draw_17 : decode cX7_draw 17 = .ok (.iload_n 1, 1) := by decide +kernel
theorem dX7_draw_18 : decode cX7_draw 18 = .ok (.invokevirtual 381, 3) := by decide +kernel
theorem dX7_draw_21 : decode cX7_draw 21 = .ok (.istore_n 3, 1) := by decide +kernel
theorem dX7_draw_22 : decode cX7_draw 22 = .ok (.aload_n 0, 1) := by decide +kernel
theorem dX7_draw_23 : decode cX7_draw 23 = .ok (.iload_n 2, 1) := by decide +kernel
theorem dX7_draw_24 : decode cX7_draw 24 = .ok (.invokevirtual 308, 3) := by decide +kernel
theorem dX7_draw_27 : decode cX7_draw 27 = .ok (.iload_n 3, 1) := by decide +kernel
theorem dX7_draw_28 : decode cX7_draw 28 = .ok (.ireturn, 1) := by decide +kernel
theorem dX7_lots_0 : decode cX7_lots 0 = .ok (.iload_n 1, 1) := by decide +kernel
theorem dX7_lots_1 : decode cX7_lots 1 = .ok (.invokestatic 211, 3) := by decide +kernel
theorem dX7_lots_4 : decode cX7_lots 4 = .ok (.ifCond .eq 21, 3) := by decide +kernel
theorem dX7_lots_7 : decode cX7_lots 7 = .ok (.iload_n 2, 1) := by decide +kernel
theorem dX7_lots_8 : decode cX7_lots 8 = .ok (.iconst 1, 1) := by decide +kernel
theorem dX7_lots_9 : decode cX7_lots 9 = .ok (.sipush 200, 3) := by decide +kernel
theorem dX7_lots_12 : decode cX7_lots 12 = .ok (.invokestatic 92, 3) := by decide +kernel
theorem dX7_lots_15 : decode cX7_lots 15 = .ok (.ifCond .eq 10, 3) := by decide +kernel
theorem dX7_lots_18 : decode cX7_lots 18 = .ok (.iload_n 3, 1) := by decide +kernel
theorem dX7_lots_19 : decode cX7_lots 19 = .ok (.invokestatic 378, 3) := by decide +kernel
theorem dX7_lots_22 : decode cX7_lots 22 = .ok (.ifCond .ne 5, 3) := by decide +kernel
theorem dX7_lots_25 : decode cX7_lots 25 = .ok (.iconst (-1), 1) := by decide +kernel
theorem dX7_lots_26 : decode cX7_lots 26 = .ok (.ireturn, 1) := by decide +kernel
theorem dX7_lots_27 : decode cX7_lots 27 = .ok (.iload_n 3, 1) := by decide +kernel
theorem dX7_lots_28 : decode cX7_lots 28 = .ok (.istore 4, 2) := by decide +kernel
theorem dX7_lots_30 : decode cX7_lots 30 = .ok (.iconst 0, 1) := by decide +kernel
theorem dX7_lots_31 : decode cX7_lots 31 = .ok (.istore 5, 2) := by decide +kernel
theorem dX7_lots_33 : decode cX7_lots 33 = .ok (.ldc 246, 2) := by decide +kernel
theorem dX7_lots_35 : decode cX7_lots 35 = .ok (.istore 6, 2) := by decide +kernel
theorem dX7_lots_37 : decode cX7_lots 37 = .ok (.iconst 0, 1) := by decide +kernel
theorem dX7_lots_38 : decode cX7_lots 38 = .ok (.istore 7, 2) := by decide +kernel
theorem dX7_lots_40 : decode cX7_lots 40 = .ok (.iload 7, 2) := by decide +kernel
theorem dX7_lots_42 : decode cX7_lots 42 = .ok (.iload_n 2, 1) := by decide +kernel
theorem dX7_lots_43 : decode cX7_lots 43 = .ok (.if_icmp .ge 41, 3) := by decide +kernel
theorem dX7_lots_46 : decode cX7_lots 46 = .ok (.aload_n 0, 1) := by decide +kernel
theorem dX7_lots_47 : decode cX7_lots 47 = .ok (.iload 4, 2) := by decide +kernel
theorem dX7_lots_49 : decode cX7_lots 49 = .ok (.invokevirtual 381, 3) := by decide +kernel
theorem dX7_lots_52 : decode cX7_lots 52 = .ok (.istore 4, 2) := by decide +kernel
theorem dX7_lots_54 : decode cX7_lots 54 = .ok (.aload_n 0, 1) := by decide +kernel
theorem dX7_lots_55 : decode cX7_lots 55 = .ok (.invokevirtual 223, 3) := by decide +kernel
theorem dX7_lots_58 : decode cX7_lots 58 = .ok (.bipush (-9), 2) := by decide +kernel
theorem dX7_lots_60 : decode cX7_lots 60 = .ok (.if_icmp .ne 18, 3) := by decide +kernel
theorem dX7_lots_63 : decode cX7_lots 63 = .ok (.iinc 5 1, 3) := by decide +kernel
theorem dX7_lots_66 : decode cX7_lots 66 = .ok (.iload 6, 2) := by decide +kernel
theorem dX7_lots_68 : decode cX7_lots 68 = .ok (.aload_n 0, 1) := by decide +kernel
theorem dX7_lots_69 : decode cX7_lots 69 = .ok (.iload_n 1, 1) := by decide +kernel
theorem dX7_lots_70 : decode cX7_lots 70 = .ok (.invokevirtual 217, 3) := by decide +kernel
theorem dX7_lots_73 : decode cX7_lots 73 = .ok (.invokestatic 183, 3) := by decide +kernel
theorem dX7_lots_76 : decode cX7_lots 76 = .ok (.istore 6, 2) := by decide +kernel
theorem dX7_lots_78 : decode cX7_lots 78 = .ok (.iinc 7 1, 3) := by decide +kernel
theorem dX7_lots_81 : decode cX7_lots 81 = .ok (.goto (-41), 3) := by decide +kernel
theorem dX7_lots_84 : decode cX7_lots 84 = .ok (.aload_n 0, 1) := by decide +kernel
theorem dX7_lots_85 : decode cX7_lots 85 = .ok (.iload 5, 2) := by decide +kernel
theorem dX7_lots_87 : decode cX7_lots 87 = .ok (.ifCond .ne 8, 3) := by decide +kernel
theorem dX7_lots_90 : decode cX7_lots 90 = .ok (.bipush (-9), 2) := by decide +kernel
theorem dX7_lots_92 : decode cX7_lots 92 = .ok (.goto 5, 3) := by decide +kernel
theorem dX7_lots_95 : decode cX7_lots 95 = .ok (.iload 6, 2) := by decide +kernel
theorem dX7_lots_97 : decode cX7_lots 97 = .ok (.iload 5, 2) := by decide +kernel
theorem dX7_lots_99 : decode cX7_lots 99 = .ok (.invokevirtual 114, 3) := by decide +kernel
theorem dX7_lots_102 : decode cX7_lots 102 = .ok (.ireturn, 1) := by decide +kernel
theorem dX7_average_0 : decode cX7_average 0 = .ok (.aload_n 0, 1) := by decide +kernel
theorem dX7_average_1 : decode cX7_average 1 = .ok (.getfield 157, 3) := by decide +kernel
theorem dX7_average_4 : decode cX7_average 4 = .ok (.ifCond .ne 9, 3) := by decide +kernel
theorem dX7_average_7 : decode cX7_average 7 = .ok (.aload_n 0, 1) := by decide +kernel
theorem dX7_average_8 : decode cX7_average 8 = .ok (.iconst 4, 1) := by decide +kernel
theorem dX7_average_9 : decode cX7_average 9 = .ok (.invokevirtual 106, 3) := by decide +kernel
theorem dX7_average_12 : decode cX7_average 12 = .ok (.ireturn, 1) := by decide +kernel
theorem dX7_average_13 : decode cX7_average 13 = .ok (.iconst 0, 1) := by decide +kernel
theorem dX7_average_14 : decode cX7_average 14 = .ok (.istore_n 1, 1) := by decide +kernel
theorem dX7_average_15 : decode cX7_average 15 = .ok (.iconst 0, 1) := by decide +kernel
theorem dX7_average_16 : decode cX7_average 16 = .ok (.istore_n 2, 1) := by decide +kernel
theorem dX7_average_17 : decode cX7_average 17 = .ok (.iload_n 2, 1) := by decide +kernel
theorem dX7_average_18 : decode cX7_average 18 = .ok (.aload_n 0, 1) := by decide +kernel
theorem dX7_average_19 : decode cX7_average 19 = .ok (.getfield 157, 3) := by decide +kernel
theorem dX7_average_22 : decode cX7_average 22 = .ok (.if_icmp .ge 17, 3) := by decide +kernel
theorem dX7_average_25 : decode cX7_average 25 = .ok (.iload_n 1, 1) := by decide +kernel
theorem dX7_average_26 : decode cX7_average 26 = .ok (.aload_n 0, 1) := by decide +kernel
theorem dX7_average_27 : decode cX7_average 27 = .ok (.iload_n 2, 1) := by decide +kernel
theorem dX7_average_28 : decode cX7_average 28 = .ok (.invokevirtual 329, 3) := by decide +kernel
theorem dX7_average_31 : decode cX7_average 31 = .ok (.iadd, 1) := by decide +kernel
theorem dX7_average_32 : decode cX7_average 32 = .ok (.istore_n 1, 1) := by decide +kernel
theorem dX7_average_33 : decode cX7_average 33 = .ok (.iinc 2 1, 3) := by decide +kernel
theorem dX7_average_36 : decode cX7_average 36 = .ok (.goto (-19), 3) := by decide +kernel
theorem dX7_average_39 : decode cX7_average 39 = .ok (.aload_n 0, 1) := by decide +kernel
theorem dX7_average_40 : decode cX7_average 40 = .ok (.iload_n 1, 1) := by decide +kernel
theorem dX7_average_41 : decode cX7_average 41 = .ok (.i2l, 1) := by decide +kernel
theorem dX7_average_42 : decode cX7_average 42 = .ok (.ldc2_w 384, 3) := by decide +kernel
theorem dX7_average_45 : decode cX7_average 45 = .ok (.ldiv, 1) := by decide +kernel
theorem dX7_average_46 : decode cX7_average 46 = .ok (.aload_n 0, 1) := by decide +kernel
theorem dX7_average_47 : decode cX7_average 47 = .ok (.getfield 157, 3) := by decide +kernel
theorem dX7_average_50 : decode cX7_average 50 = .ok (.iconst 1, 1) := by decide +kernel
theorem dX7_average_51 : decode cX7_average 51 = .ok (.iadd, 1) := by decide +kernel
theorem dX7_average_52 : decode cX7_average 52 = .ok (.i2l, 1) := by decide +kernel
theorem dX7_average_53 : decode cX7_average 53 = .ok (.lmul, 1) := by decide +kernel
theorem dX7_average_54 : decode cX7_average 54 = .ok (.ldc2_w 386, 3) := by decide +kernel
theorem dX7_average_57 : decode cX7_average 57 = .ok (.iconst 1, 1) := by decide +kernel
theorem dX7_average_58 : decode cX7_average 58 = .ok (.invokevirtual 341, 3) := by decide +kernel
theorem dX7_average_61 : decode cX7_average 61 = .ok (.ireturn, 1) := by decide +kernel
theorem dX7_offBits_0 : decode cX7_offBits 0 = .ok (.iconst 0, 1) := by decide +kernel
theorem dX7_offBits_1 : decode cX7_offBits 1 = .ok (.istore_n 1, 1) := by decide +kernel
theorem dX7_offBits_2 : decode cX7_offBits 2 = .ok (.iconst 0, 1) := by decide +kernel
theorem dX7_offBits_3 : decode cX7_offBits 3 = .ok (.istore_n 2, 1) := by decide +kernel
theorem dX7_offBits_4 : decode cX7_offBits 4 = .ok (.iload_n 2, 1) := by decide +kernel
theorem dX7_offBits_5 : decode cX7_offBits 5 = .ok (.aload_n 0, 1) := by decide +kernel
theorem dX7_offBits_6 : decode cX7_offBits 6 = .ok (.getfield 160, 3) := by decide +kernel
theorem dX7_offBits_9 : decode cX7_offBits 9 = .ok (.if_icmp .ge 20, 3) := by decide +kernel
theorem dX7_offBits_12 : decode cX7_offBits 12 = .ok (.iload_n 1, 1) := by decide +kernel
theorem dX7_offBits_13 : decode cX7_offBits 13 = .ok (.aload_n 0, 1) := by decide +kernel
theorem dX7_offBits_14 : decode cX7_offBits 14 = .ok (.iload_n 2, 1) := by decide +kernel
theorem dX7_offBits_15 : decode cX7_offBits 15 = .ok (.iconst 4, 1) := by decide +kernel
theorem dX7_offBits_16 : decode cX7_offBits 16 = .ok (.invokevirtual 180, 3) := by decide +kernel
theorem dX7_offBits_19 : decode cX7_offBits 19 = .ok (.iload_n 2, 1) := by decide +kernel
theorem dX7_offBits_20 : decode cX7_offBits 20 = .ok (.ishl, 1) := by decide +kernel
theorem dX7_offBits_21 : decode cX7_offBits 21 = .ok (.ior, 1) := by decide +kernel
theorem dX7_offBits_22 : decode cX7_offBits 22 = .ok (.istore_n 1, 1) := by decide +kernel
theorem dX7_offBits_23 : decode cX7_offBits 23 = .ok (.iinc 2 1, 3) := by decide +kernel
theorem dX7_offBits_26 : decode cX7_offBits 26 = .ok (.goto (-22), 3) := by decide +kernel
theorem dX7_offBits_29 : decode cX7_offBits 29 = .ok (.iload_n 1, 1) := by decide +kernel
theorem dX7_offBits_30 : decode cX7_offBits 30 = .ok (.ireturn, 1) := by decide +kernel
theorem dX7_image_0 : decode cX7_image 0 = .ok (.iload_n 1, 1) := by decide +kernel
theorem dX7_image_1 : decode cX7_image 1 = .ok (.invokestatic 102, 3) := by decide +kernel
theorem dX7_image_4 : decode cX7_image 4 = .ok (.ifCond .ne 5, 3) := by decide +kernel
theorem dX7_image_7 : decode cX7_image 7 = .ok (.iconst (-1), 1) := by decide +kernel
theorem dX7_image_8 : decode cX7_image 8 = .ok (.ireturn, 1) := by decide +kernel
theorem dX7_image_9 : decode cX7_image 9 = .ok (.aload_n 0, 1) := by decide +kernel
theorem dX7_image_10 : decode cX7_image 10 = .ok (.getfield 157, 3) := by decide +kernel
theorem dX7_image_13 : decode cX7_image 13 = .ok (.aload_n 0, 1) := by decide +kernel
theorem dX7_image_14 : decode cX7_image 14 = .ok (.getfield 157, 3) := by decide +kernel
theorem dX7_image_17 : decode cX7_image 17 = .ok (.iconst 1, 1) := by decide +kernel
theorem dX7_image_18 : decode cX7_image 18 = .ok (.isub, 1) := by decide +kernel
theorem dX7_image_19 : decode cX7_image 19 = .ok (.imul, 1) := by decide +kernel
theorem dX7_image_20 : decode cX7_image 20 = .ok (.iconst 2, 1) := by decide +kernel
theorem dX7_image_21 : decode cX7_image 21 = .ok (.idiv, 1) := by decide +kernel
theorem dX7_image_22 : decode cX7_image 22 = .ok (.iconst 1, 1) := by decide +kernel
theorem dX7_image_23 : decode cX7_image 23 = .ok (.iadd, 1) := by decide +kernel
theorem dX7_image_24 : decode cX7_image 24 = .ok (.istore_n 2, 1) := by decide +kernel
theorem dX7_image_25 : decode cX7_image 25 = .ok (.aload_n 0, 1) := by decide +kernel
theorem dX7_image_26 : decode cX7_image 26 = .ok (.iload_n 1, 1) := by decide +kernel
theorem dX7_image_27 : decode cX7_image 27 = .ok (.iload_n 2, 1) := by decide +kernel
theorem dX7_image_28 : decode cX7_image 28 = .ok (.invokevirtual 302, 3) := by decide +kernel
theorem dX7_image_31 : decode cX7_image 31 = .ok (.bipush 60, 2) := by decide +kernel
theorem dX7_image_33 : decode cX7_image 33 = .ok (.iload_n 1, 1) := by decide +kernel
theorem dX7_image_34 : decode cX7_image 34 = .ok (.imul, 1) := by decide +kernel
theorem dX7_image_35 : decode cX7_image 35 = .ok (.istore_n 3, 1) := by decide +kernel
theorem dX7_image_36 : decode cX7_image 36 = .ok (.iconst 0, 1) := by decide +kernel
theorem dX7_image_37 : decode cX7_image 37 = .ok (.istore 4, 2) := by decide +kernel
theorem dX7_image_39 : decode cX7_image 39 = .ok (.iload 4, 2) := by decide +kernel
theorem dX7_image_41 : decode cX7_image 41 = .ok (.aload_n 0, 1) := by decide +kernel
theorem dX7_image_42 : decode cX7_image 42 = .ok (.getfield 157, 3) := by decide +kernel
theorem dX7_image_45 : decode cX7_image 45 = .ok (.if_icmp .ge 47, 3) := by decide +kernel
theorem dX7_image_48 : decode cX7_image 48 = .ok (.iload 4, 2) := by decide +kernel
theorem dX7_image_50 : decode cX7_image 50 = .ok (.iconst 1, 1) := by decide +kernel
theorem dX7_image_51 : decode cX7_image 51 = .ok (.iadd, 1) := by decide +kernel
theorem dX7_image_52 : decode cX7_image 52 = .ok (.istore 5, 2) := by decide +kernel
theorem dX7_image_54 : decode cX7_image 54 = .ok (.iload 5, 2) := by decide +kernel
theorem dX7_image_56 : decode cX7_image 56 = .ok (.aload_n 0, 1) := by decide +kernel
theorem dX7_image_57 : decode cX7_image 57 = .ok (.getfield 157, 3) := by decide +kernel
theorem dX7_image_60 : decode cX7_image 60 = .ok (.if_icmp .ge 26, 3) := by decide +kernel
theorem dX7_image_63 : decode cX7_image 63 = .ok (.aload_n 0, 1) := by decide +kernel
theorem dX7_image_64 : decode cX7_image 64 = .ok (.getfield 16, 3) := by decide +kernel
theorem dX7_image_67 : decode cX7_image 67 = .ok (.iload_n 3, 1) := by decide +kernel
theorem dX7_image_68 : decode cX7_image 68 = .ok (.aload_n 0, 1) := by decide +kernel
theorem dX7_image_69 : decode cX7_image 69 = .ok (.iload 4, 2) := by decide +kernel
theorem dX7_image_71 : decode cX7_image 71 = .ok (.iload 5, 2) := by decide +kernel
theorem dX7_image_73 : decode cX7_image 73 = .ok (.invokevirtual 166, 3) := by decide +kernel
theorem dX7_image_76 : decode cX7_image 76 = .ok (.iastore, 1) := by decide +kernel
theorem dX7_image_77 : decode cX7_image 77 = .ok (.iinc 3 1, 3) := by decide +kernel
theorem dX7_image_80 : decode cX7_image 80 = .ok (.iinc 5 1, 3) := by decide +kernel
theorem dX7_image_83 : decode cX7_image 83 = .ok (.goto (-29), 3) := by decide +kernel
theorem dX7_image_86 : decode cX7_image 86 = .ok (.iinc 4 1, 3) := by decide +kernel
theorem dX7_image_89 : decode cX7_image 89 = .ok (.goto (-50), 3) := by decide +kernel
theorem dX7_image_92 : decode cX7_image 92 = .ok (.aload_n 0, 1) := by decide +kernel
theorem dX7_image_93 : decode cX7_image 93 = .ok (.getfield 16, 3) := by decide +kernel
theorem dX7_image_96 : decode cX7_image 96 = .ok (.iload_n 3, 1) := by decide +kernel
theorem dX7_image_97 : decode cX7_image 97 = .ok (.aload_n 0, 1) := by decide +kernel
theorem dX7_image_98 : decode cX7_image 98 = .ok (.invokevirtual 388, 3) := by decide +kernel
theorem dX7_image_101 : decode cX7_image 101 = .ok (.iastore, 1) := by decide +kernel
theorem dX7_image_102 : decode cX7_image 102 = .ok (.iload_n 2, 1) := by decide +kernel
theorem dX7_image_103 : decode cX7_image 103 = .ok (.ireturn, 1) := by decide +kernel
theorem dX7_on_0 : decode cX7_on 0 = .ok (.iload_n 1, 1) := by decide +kernel
theorem dX7_on_1 : decode cX7_on 1 = .ok (.invokestatic 102, 3) := by decide +kernel
theorem dX7_on_4 : decode cX7_on 4 = .ok (.ifCond .ne 5, 3) := by decide +kernel
theorem dX7_on_7 : decode cX7_on 7 = .ok (.iconst (-1), 1) := by decide +kernel
theorem dX7_on_8 : decode cX7_on 8 = .ok (.ireturn, 1) := by decide +kernel
theorem dX7_on_9 : decode cX7_on 9 = .ok (.aload_n 0, 1) := by decide +kernel
theorem dX7_on_10 : decode cX7_on 10 = .ok (.getfield 13, 3) := by decide +kernel
theorem dX7_on_13 : decode cX7_on 13 = .ok (.iload_n 1, 1) := by decide +kernel
theorem dX7_on_14 : decode cX7_on 14 = .ok (.iaload, 1) := by decide +kernel
theorem dX7_on_15 : decode cX7_on 15 = .ok (.ifCond .ge 9, 3) := by decide +kernel
theorem dX7_on_18 : decode cX7_on 18 = .ok (.aload_n 0, 1) := by decide +kernel
theorem dX7_on_19 : decode cX7_on 19 = .ok (.iconst 1, 1) := by decide +kernel
theorem dX7_on_20 : decode cX7_on 20 = .ok (.invokevirtual 106, 3) := by decide +kernel
theorem dX7_on_23 : decode cX7_on 23 = .ok (.ireturn, 1) := by decide +kernel
theorem dX7_on_24 : decode cX7_on 24 = .ok (.aload_n 0, 1) := by decide +kernel
theorem dX7_on_25 : decode cX7_on 25 = .ok (.getfield 157, 3) := by decide +kernel
theorem dX7_on_28 : decode cX7_on 28 = .ok (.aload_n 0, 1) := by decide +kernel
theorem dX7_on_29 : decode cX7_on 29 = .ok (.getfield 157, 3) := by decide +kernel
theorem dX7_on_32 : decode cX7_on 32 = .ok (.iconst 1, 1) := by decide +kernel
theorem dX7_on_33 : decode cX7_on 33 = .ok (.isub, 1) := by decide +kernel
theorem dX7_on_34 : decode cX7_on 34 = .ok (.imul, 1) := by decide +kernel
theorem dX7_on_35 : decode cX7_on 35 = .ok (.iconst 2, 1) := by decide +kernel
theorem dX7_on_36 : decode cX7_on 36 = .ok (.idiv, 1) := by decide +kernel
theorem dX7_on_37 : decode cX7_on 37 = .ok (.istore_n 2, 1) := by decide +kernel
theorem dX7_on_38 : decode cX7_on 38 = .ok (.aload_n 0, 1) := by decide +kernel
theorem dX7_on_39 : decode cX7_on 39 = .ok (.getfield 13, 3) := by decide +kernel
theorem dX7_on_42 : decode cX7_on 42 = .ok (.iload_n 1, 1) := by decide +kernel
theorem dX7_on_43 : decode cX7_on 43 = .ok (.iaload, 1) := by decide +kernel
theorem dX7_on_44 : decode cX7_on 44 = .ok (.iload_n 2, 1) := by decide +kernel
theorem dX7_on_45 : decode cX7_on 45 = .ok (.iconst 1, 1) := by decide +kernel
theorem dX7_on_46 : decode cX7_on 46 = .ok (.iadd, 1) := by decide +kernel
theorem dX7_on_47 : decode cX7_on 47 = .ok (.if_icmp .eq 9, 3) := by decide +kernel
theorem dX7_on_50 : decode cX7_on 50 = .ok (.aload_n 0, 1) := by decide +kernel
theorem dX7_on_51 : decode cX7_on 51 = .ok (.iconst 5, 1) := by decide +kernel
theorem dX7_on_52 : decode cX7_on 52 = .ok (.invokevirtual 106, 3) := by decide +kernel
theorem dX7_on_55 : decode cX7_on 55 = .ok (.ireturn, 1) := by decide +kernel
theorem dX7_on_56 : decode cX7_on 56 = .ok (.aload_n 0, 1) := by decide +kernel
theorem dX7_on_57 : decode cX7_on 57 = .ok (.iload_n 1, 1) := by decide +kernel
theorem dX7_on_58 : decode cX7_on 58 = .ok (.iload_n 2, 1) := by decide +kernel
theorem dX7_on_59 : decode cX7_on 59 = .ok (.invokevirtual 110, 3) := by decide +kernel
theorem dX7_on_62 : decode cX7_on 62 = .ok (.iconst 0, 1) := by decide +kernel
theorem dX7_on_63 : decode cX7_on 63 = .ok (.iconst 1, 1) := by decide +kernel
theorem dX7_on_64 : decode cX7_on 64 = .ok (.aload_n 0, 1) := by decide +kernel
theorem dX7_on_65 : decode cX7_on 65 = .ok (.getfield 160, 3) := by decide +kernel
theorem dX7_on_68 : decode cX7_on 68 = .ok (.ishl, 1) := by decide +kernel
theorem dX7_on_69 : decode cX7_on 69 = .ok (.iconst 1, 1) := by decide +kernel
theorem dX7_on_70 : decode cX7_on 70 = .ok (.isub, 1) := by decide +kernel
theorem dX7_on_71 : decode cX7_on 71 = .ok (.invokestatic 92, 3) := by decide +kernel
theorem dX7_on_74 : decode cX7_on 74 = .ok (.istore_n 3, 1) := by decide +kernel
theorem dX7_on_75 : decode cX7_on 75 = .ok (.iconst 0, 1) := by decide +kernel
theorem dX7_on_76 : decode cX7_on 76 = .ok (.istore 4, 2) := by decide +kernel
theorem dX7_on_78 : decode cX7_on 78 = .ok (.iload 4, 2) := by decide +kernel
theorem dX7_on_80 : decode cX7_on 80 = .ok (.iload_n 2, 1) := by decide +kernel
theorem dX7_on_81 : decode cX7_on 81 = .ok (.if_icmp .ge 35, 3) := by decide +kernel
theorem dX7_on_84 : decode cX7_on 84 = .ok (.iload_n 3, 1) := by decide +kernel
theorem dX7_on_85 : decode cX7_on 85 = .ok (.ifCond .eq 23, 3) := by decide +kernel
theorem dX7_on_88 : decode cX7_on 88 = .ok (.aload_n 0, 1) := by decide +kernel
theorem dX7_on_89 : decode cX7_on 89 = .ok (.iload_n 1, 1) := by decide +kernel
theorem dX7_on_90 : decode cX7_on 90 = .ok (.iload 4, 2) := by decide +kernel
theorem dX7_on_92 : decode cX7_on 92 = .ok (.invokevirtual 110, 3) := by decide +kernel
theorem dX7_on_95 : decode cX7_on 95 = .ok (.iconst 0, 1) := by decide +kernel
theorem dX7_on_96 : decode cX7_on 96 = .ok (.bipush 9, 2) := by decide +kernel
theorem dX7_on_98 : decode cX7_on 98 = .ok (.invokestatic 92, 3) := by decide +kernel
theorem dX7_on_101 : decode cX7_on 101 = .ok (.ifCond .eq 7, 3) := by decide +kernel
theorem dX7_on_104 : decode cX7_on 104 = .ok (.iconst 1, 1) := by decide +kernel
theorem dX7_on_105 : decode cX7_on 105 = .ok (.goto 4, 3) := by decide +kernel
theorem dX7_on_108 : decode cX7_on 108 = .ok (.iconst 0, 1) := by decide +kernel
theorem dX7_on_109 : decode cX7_on 109 = .ok (.istore_n 3, 1) := by decide +kernel
theorem dX7_on_110 : decode cX7_on 110 = .ok (.iinc 4 1, 3) := by decide +kernel
theorem dX7_on_113 : decode cX7_on 113 = .ok (.goto (-35), 3) := by decide +kernel
theorem dX7_on_116 : decode cX7_on 116 = .ok (.iload_n 3, 1) := by decide +kernel
theorem dX7_on_117 : decode cX7_on 117 = .ok (.ifCond .ne 9, 3) := by decide +kernel
theorem dX7_on_120 : decode cX7_on 120 = .ok (.aload_n 0, 1) := by decide +kernel
theorem dX7_on_121 : decode cX7_on 121 = .ok (.iconst 3, 1) := by decide +kernel
theorem dX7_on_122 : decode cX7_on 122 = .ok (.invokevirtual 106, 3) := by decide +kernel
theorem dX7_on_125 : decode cX7_on 125 = .ok (.ireturn, 1) := by decide +kernel
theorem dX7_on_126 : decode cX7_on 126 = .ok (.iconst 0, 1) := by decide +kernel
theorem dX7_on_127 : decode cX7_on 127 = .ok (.istore 4, 2) := by decide +kernel
theorem dX7_on_129 : decode cX7_on 129 = .ok (.iconst 0, 1) := by decide +kernel
theorem dX7_on_130 : decode cX7_on 130 = .ok (.istore 5, 2) := by decide +kernel
theorem dX7_on_132 : decode cX7_on 132 = .ok (.iload 5, 2) := by decide +kernel
theorem dX7_on_134 : decode cX7_on 134 = .ok (.aload_n 0, 1) := by decide +kernel
theorem dX7_on_135 : decode cX7_on 135 = .ok (.getfield 157, 3) := by decide +kernel
theorem dX7_on_138 : decode cX7_on 138 = .ok (.if_icmp .ge 48, 3) := by decide +kernel
theorem dX7_on_141 : decode cX7_on 141 = .ok (.iload 5, 2) := by decide +kernel
theorem dX7_on_143 : decode cX7_on 143 = .ok (.iconst 1, 1) := by decide +kernel
theorem dX7_on_144 : decode cX7_on 144 = .ok (.iadd, 1) := by decide +kernel
theorem dX7_on_145 : decode cX7_on 145 = .ok (.istore 6, 2) := by decide +kernel
theorem dX7_on_147 : decode cX7_on 147 = .ok (.iload 6, 2) := by decide +kernel
theorem dX7_on_149 : decode cX7_on 149 = .ok (.aload_n 0, 1) := by decide +kernel
theorem dX7_on_150 : decode cX7_on 150 = .ok (.getfield 157, 3) := by decide +kernel
theorem dX7_on_153 : decode cX7_on 153 = .ok (.if_icmp .ge 27, 3) := by decide +kernel
theorem dX7_on_156 : decode cX7_on 156 = .ok (.aload_n 0, 1) := by decide +kernel
theorem dX7_on_157 : decode cX7_on 157 = .ok (.iload 5, 2) := by decide +kernel
theorem dX7_on_159 : decode cX7_on 159 = .ok (.iload 6, 2) := by decide +kernel
theorem dX7_on_161 : decode cX7_on 161 = .ok (.aload_n 0, 1) := by decide +kernel
theorem dX7_on_162 : decode cX7_on 162 = .ok (.iload_n 1, 1) := by decide +kernel
theorem dX7_on_163 : decode cX7_on 163 = .ok (.iload 4, 2) := by decide +kernel
theorem dX7_on_165 : decode cX7_on 165 = .ok (.invokevirtual 110, 3) := by decide +kernel
theorem dX7_on_168 : decode cX7_on 168 = .ok (.invokevirtual 169, 3) := by decide +kernel
theorem dX7_on_171 : decode cX7_on 171 = .ok (.iinc 4 1, 3) := by decide +kernel
theorem dX7_on_174 : decode cX7_on 174 = .ok (.iinc 6 1, 3) := by decide +kernel
theorem dX7_on_177 : decode cX7_on 177 = .ok (.goto (-30), 3) := by decide +kernel
theorem dX7_on_180 : decode cX7_on 180 = .ok (.iinc 5 1, 3) := by decide +kernel
theorem dX7_on_183 : decode cX7_on 183 = .ok (.goto (-51), 3) := by decide +kernel
theorem dX7_on_186 : decode cX7_on 186 = .ok (.aload_n 0, 1) := by decide +kernel
theorem dX7_on_187 : decode cX7_on 187 = .ok (.aload_n 0, 1) := by decide +kernel
theorem dX7_on_188 : decode cX7_on 188 = .ok (.iload_n 1, 1) := by decide +kernel
theorem dX7_on_189 : decode cX7_on 189 = .ok (.iload_n 2, 1) := by decide +kernel
theorem dX7_on_190 : decode cX7_on 190 = .ok (.invokevirtual 110, 3) := by decide +kernel
theorem dX7_on_193 : decode cX7_on 193 = .ok (.invokevirtual 361, 3) := by decide +kernel
theorem dX7_on_196 : decode cX7_on 196 = .ok (.iconst 1, 1) := by decide +kernel
theorem dX7_on_197 : decode cX7_on 197 = .ok (.ireturn, 1) := by decide +kernel
theorem dX7_tieMany_0 : decode cX7_tieMany 0 = .ok (.iconst 0, 1) := by decide +kernel
theorem dX7_tieMany_1 : decode cX7_tieMany 1 = .ok (.istore_n 1, 1) := by decide +kernel
theorem dX7_tieMany_2 : decode cX7_tieMany 2 = .ok (.iconst 0, 1) := by decide +kernel
theorem dX7_tieMany_3 : decode cX7_tieMany 3 = .ok (.istore_n 2, 1) := by decide +kernel
theorem dX7_tieMany_4 : decode cX7_tieMany 4 = .ok (.iload_n 2, 1) := by decide +kernel
theorem dX7_tieMany_5 : decode cX7_tieMany 5 = .ok (.aload_n 0, 1) := by decide +kernel
theorem dX7_tieMany_6 : decode cX7_tieMany 6 = .ok (.getfield 157, 3) := by decide +kernel
theorem dX7_tieMany_9 : decode cX7_tieMany 9 = .ok (.if_icmp .ge 17, 3) := by decide +kernel
theorem dX7_tieMany_12 : decode cX7_tieMany 12 = .ok (.iload_n 1, 1) := by decide +kernel
theorem dX7_tieMany_13 : decode cX7_tieMany 13 = .ok (.aload_n 0, 1) := by decide +kernel
theorem dX7_tieMany_14 : decode cX7_tieMany 14 = .ok (.iload_n 2, 1) := by decide +kernel
theorem dX7_tieMany_15 : decode cX7_tieMany 15 = .ok (.invokevirtual 326, 3) := by decide +kernel
theorem dX7_tieMany_18 : decode cX7_tieMany 18 = .ok (.iadd, 1) := by decide +kernel
theorem dX7_tieMany_19 : decode cX7_tieMany 19 = .ok (.istore_n 1, 1) := by decide +kernel
theorem dX7_tieMany_20 : decode cX7_tieMany 20 = .ok (.iinc 2 1, 3) := by decide +kernel
theorem dX7_tieMany_23 : decode cX7_tieMany 23 = .ok (.goto (-19), 3) := by decide +kernel
theorem dX7_tieMany_26 : decode cX7_tieMany 26 = .ok (.iload_n 1, 1) := by decide +kernel
theorem dX7_tieMany_27 : decode cX7_tieMany 27 = .ok (.iconst 2, 1) := by decide +kernel
theorem dX7_tieMany_28 : decode cX7_tieMany 28 = .ok (.idiv, 1) := by decide +kernel
theorem dX7_tieMany_29 : decode cX7_tieMany 29 = .ok (.ireturn, 1) := by decide +kernel
theorem dX7_counted_0 : decode cX7_counted 0 = .ok (.iconst 0, 1) := by decide +kernel
theorem dX7_counted_1 : decode cX7_counted 1 = .ok (.istore_n 2, 1) := by decide +kernel
theorem dX7_counted_2 : decode cX7_counted 2 = .ok (.iconst 0, 1) := by decide +kernel
theorem dX7_counted_3 : decode cX7_counted 3 = .ok (.istore_n 3, 1) := by decide +kernel
theorem dX7_counted_4 : decode cX7_counted 4 = .ok (.iload_n 3, 1) := by decide +kernel
theorem dX7_counted_5 : decode cX7_counted 5 = .ok (.aload_n 0, 1) := by decide +kernel
theorem dX7_counted_6 : decode cX7_counted 6 = .ok (.getfield 160, 3) := by decide +kernel
theorem dX7_counted_9 : decode cX7_counted 9 = .ok (.if_icmp .ge 51, 3) := by decide +kernel
theorem dX7_counted_12 : decode cX7_counted 12 = .ok (.iload_n 2, 1) := by decide +kernel
theorem dX7_counted_13 : decode cX7_counted 13 = .ok (.iload_n 1, 1) := by decide +kernel
theorem dX7_counted_14 : decode cX7_counted 14 = .ok (.iconst 3, 1) := by decide +kernel
theorem dX7_counted_15 : decode cX7_counted 15 = .ok (.if_icmp .ne 17, 3) := by decide +kernel
theorem dX7_counted_18 : decode cX7_counted 18 = .ok (.aload_n 0, 1) := by decide +kernel
theorem dX7_counted_19 : decode cX7_counted 19 = .ok (.iload_n 3, 1) := by decide +kernel
theorem dX7_counted_20 : decode cX7_counted 20 = .ok (.iconst 0, 1) := by decide +kernel
theorem dX7_counted_21 : decode cX7_counted 21 = .ok (.invokevirtual 180, 3) := by decide +kernel
theorem dX7_counted_24 : decode cX7_counted 24 = .ok (.iconst 1, 1) := by decide +kernel
theorem dX7_counted_25 : decode cX7_counted 25 = .ok (.iconst 2, 1) := by decide +kernel
theorem dX7_counted_26 : decode cX7_counted 26 = .ok (.invokestatic 92, 3) := by decide +kernel
theorem dX7_counted_29 : decode cX7_counted 29 = .ok (.ifCond .ne 18, 3) := by decide +kernel
theorem dX7_counted_32 : decode cX7_counted 32 = .ok (.iload_n 1, 1) := by decide +kernel
theorem dX7_counted_33 : decode cX7_counted 33 = .ok (.iconst 4, 1) := by decide +kernel
theorem dX7_counted_34 : decode cX7_counted 34 = .ok (.if_icmp .ne 17, 3) := by decide +kernel
theorem dX7_counted_37 : decode cX7_counted 37 = .ok (.aload_n 0, 1) := by decide +kernel
theorem dX7_counted_38 : decode cX7_counted 38 = .ok (.iload_n 3, 1) := by decide +kernel
theorem dX7_counted_39 : decode cX7_counted 39 = .ok (.iconst 4, 1) := by decide +kernel
theorem dX7_counted_40 : decode cX7_counted 40 = .ok (.invokevirtual 180, 3) := by decide +kernel
theorem dX7_counted_43 : decode cX7_counted 43 = .ok (.iconst 1, 1) := by decide +kernel
theorem dX7_counted_44 : decode cX7_counted 44 = .ok (.if_icmp .ne 7, 3) := by decide +kernel
theorem dX7_counted_47 : decode cX7_counted 47 = .ok (.iconst 1, 1) := by decide +kernel
theorem dX7_counted_48 : decode cX7_counted 48 = .ok (.goto 4, 3) := by decide +kernel
theorem dX7_counted_51 : decode cX7_counted 51 = .ok (.iconst 0, 1) := by decide +kernel
theorem dX7_counted_52 : decode cX7_counted 52 = .ok (.iadd, 1) := by decide +kernel
theorem dX7_counted_53 : decode cX7_counted 53 = .ok (.istore_n 2, 1) := by decide +kernel
theorem dX7_counted_54 : decode cX7_counted 54 = .ok (.iinc 3 1, 3) := by decide +kernel
theorem dX7_counted_57 : decode cX7_counted 57 = .ok (.goto (-53), 3) := by decide +kernel
theorem dX7_counted_60 : decode cX7_counted 60 = .ok (.iconst 0, 1) := by decide +kernel
theorem dX7_counted_61 : decode cX7_counted 61 = .ok (.istore_n 3, 1) := by decide +kernel
theorem dX7_counted_62 : decode cX7_counted 62 = .ok (.iload_n 3, 1) := by decide +kernel
theorem dX7_counted_63 : decode cX7_counted 63 = .ok (.bipush 6, 2) := by decide +kernel
theorem dX7_counted_65 : decode cX7_counted 65 = .ok (.if_icmp .ge 31, 3) := by decide +kernel
theorem dX7_counted_68 : decode cX7_counted 68 = .ok (.iload_n 2, 1) := by decide +kernel
theorem dX7_counted_69 : decode cX7_counted 69 = .ok (.iload_n 1, 1) := by decide +kernel
theorem dX7_counted_70 : decode cX7_counted 70 = .ok (.iconst 5, 1) := by decide +kernel
theorem dX7_counted_71 : decode cX7_counted 71 = .ok (.if_icmp .ne 16, 3) := by decide +kernel
theorem dX7_counted_74 : decode cX7_counted 74 = .ok (.aload_n 0, 1) := by decide +kernel
theorem dX7_counted_75 : decode cX7_counted 75 = .ok (.getfield 13, 3) := by decide +kernel
theorem dX7_counted_78 : decode cX7_counted 78 = .ok (.iload_n 3, 1) := by decide +kernel
theorem dX7_counted_79 : decode cX7_counted 79 = .ok (.iaload, 1) := by decide +kernel
theorem dX7_counted_80 : decode cX7_counted 80 = .ok (.ifCond .lt 7, 3) := by decide +kernel
theorem dX7_counted_83 : decode cX7_counted 83 = .ok (.iconst 1, 1) := by decide +kernel
theorem dX7_counted_84 : decode cX7_counted 84 = .ok (.goto 4, 3) := by decide +kernel
theorem dX7_counted_87 : decode cX7_counted 87 = .ok (.iconst 0, 1) := by decide +kernel
theorem dX7_counted_88 : decode cX7_counted 88 = .ok (.iadd, 1) := by decide +kernel
theorem dX7_counted_89 : decode cX7_counted 89 = .ok (.istore_n 2, 1) := by decide +kernel
theorem dX7_counted_90 : decode cX7_counted 90 = .ok (.iinc 3 1, 3) := by decide +kernel
theorem dX7_counted_93 : decode cX7_counted 93 = .ok (.goto (-31), 3) := by decide +kernel
theorem dX7_counted_96 : decode cX7_counted 96 = .ok (.iconst 0, 1) := by decide +kernel
theorem dX7_counted_97 : decode cX7_counted 97 = .ok (.istore_n 3, 1) := by decide +kernel
theorem dX7_counted_98 : decode cX7_counted 98 = .ok (.iload_n 3, 1) := by decide +kernel
theorem dX7_counted_99 : decode cX7_counted 99 = .ok (.iconst 4, 1) := by decide +kernel
theorem dX7_counted_100 : decode cX7_counted 100 = .ok (.if_icmp .ge 32, 3) := by decide +kernel
theorem dX7_counted_103 : decode cX7_counted 103 = .ok (.iload_n 2, 1) := by decide +kernel
theorem dX7_counted_104 : decode cX7_counted 104 = .ok (.iload_n 1, 1) := by decide +kernel
theorem dX7_counted_105 : decode cX7_counted 105 = .ok (.bipush 6, 2) := by decide +kernel
theorem dX7_counted_107 : decode cX7_counted 107 = .ok (.if_icmp .ne 16, 3) := by decide +kernel
theorem dX7_counted_110 : decode cX7_counted 110 = .ok (.aload_n 0, 1) := by decide +kernel
theorem dX7_counted_111 : decode cX7_counted 111 = .ok (.getfield 22, 3) := by decide +kernel
theorem dX7_counted_114 : decode cX7_counted 114 = .ok (.iload_n 3, 1) := by decide +kernel
theorem dX7_counted_115 : decode cX7_counted 115 = .ok (.iaload, 1) := by decide +kernel
theorem dX7_counted_116 : decode cX7_counted 116 = .ok (.ifCond .lt 7, 3) := by decide +kernel
theorem dX7_counted_119 : decode cX7_counted 119 = .ok (.iconst 1, 1) := by decide +kernel
theorem dX7_counted_120 : decode cX7_counted 120 = .ok (.goto 4, 3) := by decide +kernel
theorem dX7_counted_123 : decode cX7_counted 123 = .ok (.iconst 0, 1) := by decide +kernel
theorem dX7_counted_124 : decode cX7_counted 124 = .ok (.iadd, 1) := by decide +kernel
theorem dX7_counted_125 : decode cX7_counted 125 = .ok (.istore_n 2, 1) := by decide +kernel
theorem dX7_counted_126 : decode cX7_counted 126 = .ok (.iinc 3 1, 3) := by decide +kernel
theorem dX7_counted_129 : decode cX7_counted 129 = .ok (.goto (-31), 3) := by decide +kernel
theorem dX7_counted_132 : decode cX7_counted 132 = .ok (.iload_n 1, 1) := by decide +kernel
theorem dX7_counted_133 : decode cX7_counted 133 = .ok (.ifCond .ne 10, 3) := by decide +kernel
theorem dX7_counted_136 : decode cX7_counted 136 = .ok (.aload_n 0, 1) := by decide +kernel
theorem dX7_counted_137 : decode cX7_counted 137 = .ok (.getfield 157, 3) := by decide +kernel
theorem dX7_counted_140 : decode cX7_counted 140 = .ok (.goto 28, 3) := by decide +kernel
theorem dX7_counted_143 : decode cX7_counted 143 = .ok (.iload_n 1, 1) := by decide +kernel
theorem dX7_counted_144 : decode cX7_counted 144 = .ok (.iconst 1, 1) := by decide +kernel
theorem dX7_counted_145 : decode cX7_counted 145 = .ok (.if_icmp .ne 10, 3) := by decide +kernel
theorem dX7_counted_148 : decode cX7_counted 148 = .ok (.aload_n 0, 1) := by decide +kernel
theorem dX7_counted_149 : decode cX7_counted 149 = .ok (.invokevirtual 391, 3) := by decide +kernel
theorem dX7_counted_152 : decode cX7_counted 152 = .ok (.goto 16, 3) := by decide +kernel
theorem dX7_counted_155 : decode cX7_counted 155 = .ok (.iload_n 1, 1) := by decide +kernel
theorem dX7_counted_156 : decode cX7_counted 156 = .ok (.iconst 2, 1) := by decide +kernel
theorem dX7_counted_157 : decode cX7_counted 157 = .ok (.if_icmp .ne 10, 3) := by decide +kernel
theorem dX7_counted_160 : decode cX7_counted 160 = .ok (.aload_n 0, 1) := by decide +kernel
theorem dX7_counted_161 : decode cX7_counted 161 = .ok (.getfield 160, 3) := by decide +kernel
theorem dX7_counted_164 : decode cX7_counted 164 = .ok (.goto 4, 3) := by decide +kernel
theorem dX7_counted_167 : decode cX7_counted 167 = .ok (.iload_n 2, 1) := by decide +kernel
theorem dX7_counted_168 : decode cX7_counted 168 = .ok (.ireturn, 1) := by decide +kernel
theorem dX7_count_0 : decode cX7_count 0 = .ok (.iload_n 1, 1) := by decide +kernel
theorem dX7_count_1 : decode cX7_count 1 = .ok (.iconst 0, 1) := by decide +kernel
theorem dX7_count_2 : decode cX7_count 2 = .ok (.bipush 6, 2) := by decide +kernel
theorem dX7_count_4 : decode cX7_count 4 = .ok (.invokestatic 92, 3) := by decide +kernel
theorem dX7_count_7 : decode cX7_count 7 = .ok (.ifCond .eq 11, 3) := by decide +kernel
theorem dX7_count_10 : decode cX7_count 10 = .ok (.aload_n 0, 1) := by decide +kernel
theorem dX7_count_11 : decode cX7_count 11 = .ok (.iload_n 1, 1) := by decide +kernel
theorem dX7_count_12 : decode cX7_count 12 = .ok (.invokevirtual 394, 3) := by decide +kernel
theorem dX7_count_15 : decode cX7_count 15 = .ok (.goto 4, 3) := by decide +kernel
theorem dX7_count_18 : decode cX7_count 18 = .ok (.iconst (-1), 1) := by decide +kernel
theorem dX7_count_19 : decode cX7_count 19 = .ok (.ireturn, 1) := by decide +kernel
theorem dX7_mix_0 : decode cX7_mix 0 = .ok (.aload_n 0, 1) := by decide +kernel
theorem dX7_mix_1 : decode cX7_mix 1 = .ok (.ldc2_w 397, 3) := by decide +kernel
theorem dX7_mix_4 : decode cX7_mix 4 = .ok (.aload_n 0, 1) := by decide +kernel
theorem dX7_mix_5 : decode cX7_mix 5 = .ok (.getfield 399, 3) := by decide +kernel
theorem dX7_mix_8 : decode cX7_mix 8 = .ok (.lmul, 1) := by decide +kernel
theorem dX7_mix_9 : decode cX7_mix 9 = .ok (.lload_n 1, 1) := by decide +kernel
theorem dX7_mix_10 : decode cX7_mix 10 = .ok (.ladd, 1) := by decide +kernel
theorem dX7_mix_11 : decode cX7_mix 11 = .ok (.putfield 399, 3) := by decide +kernel
theorem dX7_mix_14 : decode cX7_mix 14 = .ok (.return_, 1) := by decide +kernel
theorem dX7_digest_0 : decode cX7_digest 0 = .ok (.aload_n 0, 1) := by decide +kernel
theorem dX7_digest_1 : decode cX7_digest 1 = .ok (.ldc2_w 402, 3) := by decide +kernel
theorem dX7_digest_4 : decode cX7_digest 4 = .ok (.putfield 399, 3) := by decide +kernel
theorem dX7_digest_7 : decode cX7_digest 7 = .ok (.iconst 0, 1) := by decide +kernel
theorem dX7_digest_8 : decode cX7_digest 8 = .ok (.istore_n 1, 1) := by decide +kernel
theorem dX7_digest_9 : decode cX7_digest 9 = .ok (.iload_n 1, 1) := by decide +kernel
theorem dX7_digest_10 : decode cX7_digest 10 = .ok (.bipush 7, 2) := by decide +kernel
theorem dX7_digest_12 : decode cX7_digest 12 = .ok (.if_icmp .ge 19, 3) := by decide +kernel
theorem dX7_digest_15 : decode cX7_digest 15 = .ok (.aload_n 0, 1) := by decide +kernel
theorem dX7_digest_16 : decode cX7_digest 16 = .ok (.aload_n 0, 1) := by decide +kernel
theorem dX7_digest_17 : decode cX7_digest 17 = .ok (.iload_n 1, 1) := by decide +kernel
theorem dX7_digest_18 : decode cX7_digest 18 = .ok (.invokevirtual 394, 3) := by decide +kernel
theorem dX7_digest_21 : decode cX7_digest 21 = .ok (.i2l, 1) := by decide +kernel
theorem dX7_digest_22 : decode cX7_digest 22 = .ok (.invokevirtual 404, 3) := by decide +kernel
theorem dX7_digest_25 : decode cX7_digest 25 = .ok (.iinc 1 1, 3) := by decide +kernel
theorem dX7_digest_28 : decode cX7_digest 28 = .ok (.goto (-19), 3) := by decide +kernel
theorem dX7_digest_31 : decode cX7_digest 31 = .ok (.iconst 0, 1) := by decide +kernel
theorem dX7_digest_32 : decode cX7_digest 32 = .ok (.istore_n 1, 1) := by decide +kernel
theorem dX7_digest_33 : decode cX7_digest 33 = .ok (.iload_n 1, 1) := by decide +kernel
theorem dX7_digest_34 : decode cX7_digest 34 = .ok (.aload_n 0, 1) := by decide +kernel
theorem dX7_digest_35 : decode cX7_digest 35 = .ok (.getfield 157, 3) := by decide +kernel
theorem dX7_digest_38 : decode cX7_digest 38 = .ok (.if_icmp .ge 38, 3) := by decide +kernel
theorem dX7_digest_41 : decode cX7_digest 41 = .ok (.iload_n 1, 1) := by decide +kernel
theorem dX7_digest_42 : decode cX7_digest 42 = .ok (.iconst 1, 1) := by decide +kernel
theorem dX7_digest_43 : decode cX7_digest 43 = .ok (.iadd, 1) := by decide +kernel
theorem dX7_digest_44 : decode cX7_digest 44 = .ok (.istore_n 2, 1) := by decide +kernel
theorem dX7_digest_45 : decode cX7_digest 45 = .ok (.iload_n 2, 1) := by decide +kernel
theorem dX7_digest_46 : decode cX7_digest 46 = .ok (.aload_n 0, 1) := by decide +kernel
theorem dX7_digest_47 : decode cX7_digest 47 = .ok (.getfield 157, 3) := by decide +kernel
theorem dX7_digest_50 : decode cX7_digest 50 = .ok (.if_icmp .ge 20, 3) := by decide +kernel
theorem dX7_digest_53 : decode cX7_digest 53 = .ok (.aload_n 0, 1) := by decide +kernel
theorem dX7_digest_54 : decode cX7_digest 54 = .ok (.aload_n 0, 1) := by decide +kernel
theorem dX7_digest_55 : decode cX7_digest 55 = .ok (.iload_n 1, 1) := by decide +kernel
theorem dX7_digest_56 : decode cX7_digest 56 = .ok (.iload_n 2, 1) := by decide +kernel
theorem dX7_digest_57 : decode cX7_digest 57 = .ok (.invokevirtual 166, 3) := by decide +kernel
theorem dX7_digest_60 : decode cX7_digest 60 = .ok (.i2l, 1) := by decide +kernel
theorem dX7_digest_61 : decode cX7_digest 61 = .ok (.invokevirtual 404, 3) := by decide +kernel
theorem dX7_digest_64 : decode cX7_digest 64 = .ok (.iinc 2 1, 3) := by decide +kernel
theorem dX7_digest_67 : decode cX7_digest 67 = .ok (.goto (-22), 3) := by decide +kernel
theorem dX7_digest_70 : decode cX7_digest 70 = .ok (.iinc 1 1, 3) := by decide +kernel
theorem dX7_digest_73 : decode cX7_digest 73 = .ok (.goto (-40), 3) := by decide +kernel
theorem dX7_digest_76 : decode cX7_digest 76 = .ok (.iconst 0, 1) := by decide +kernel
theorem dX7_digest_77 : decode cX7_digest 77 = .ok (.istore_n 1, 1) := by decide +kernel
theorem dX7_digest_78 : decode cX7_digest 78 = .ok (.iload_n 1, 1) := by decide +kernel
theorem dX7_digest_79 : decode cX7_digest 79 = .ok (.iconst 5, 1) := by decide +kernel
theorem dX7_digest_80 : decode cX7_digest 80 = .ok (.aload_n 0, 1) := by decide +kernel
theorem dX7_digest_81 : decode cX7_digest 81 = .ok (.getfield 160, 3) := by decide +kernel
theorem dX7_digest_84 : decode cX7_digest 84 = .ok (.imul, 1) := by decide +kernel
theorem dX7_digest_85 : decode cX7_digest 85 = .ok (.if_icmp .ge 20, 3) := by decide +kernel
theorem dX7_digest_88 : decode cX7_digest 88 = .ok (.aload_n 0, 1) := by decide +kernel
theorem dX7_digest_89 : decode cX7_digest 89 = .ok (.aload_n 0, 1) := by decide +kernel
theorem dX7_digest_90 : decode cX7_digest 90 = .ok (.getfield 32, 3) := by decide +kernel
theorem dX7_digest_93 : decode cX7_digest 93 = .ok (.iload_n 1, 1) := by decide +kernel
theorem dX7_digest_94 : decode cX7_digest 94 = .ok (.iaload, 1) := by decide +kernel
theorem dX7_digest_95 : decode cX7_digest 95 = .ok (.i2l, 1) := by decide +kernel
theorem dX7_digest_96 : decode cX7_digest 96 = .ok (.invokevirtual 404, 3) := by decide +kernel
theorem dX7_digest_99 : decode cX7_digest 99 = .ok (.iinc 1 1, 3) := by decide +kernel
theorem dX7_digest_102 : decode cX7_digest 102 = .ok (.goto (-24), 3) := by decide +kernel
theorem dX7_digest_105 : decode cX7_digest 105 = .ok (.iconst 0, 1) := by decide +kernel
theorem dX7_digest_106 : decode cX7_digest 106 = .ok (.istore_n 1, 1) := by decide +kernel
theorem dX7_digest_107 : decode cX7_digest 107 = .ok (.iload_n 1, 1) := by decide +kernel
theorem dX7_digest_108 : decode cX7_digest 108 = .ok (.bipush 6, 2) := by decide +kernel
theorem dX7_digest_110 : decode cX7_digest 110 = .ok (.if_icmp .ge 49, 3) := by decide +kernel
theorem dX7_digest_113 : decode cX7_digest 113 = .ok (.aload_n 0, 1) := by decide +kernel
theorem dX7_digest_114 : decode cX7_digest 114 = .ok (.aload_n 0, 1) := by decide +kernel
theorem dX7_digest_115 : decode cX7_digest 115 = .ok (.getfield 13, 3) := by decide +kernel
theorem dX7_digest_118 : decode cX7_digest 118 = .ok (.iload_n 1, 1) := by decide +kernel
theorem dX7_digest_119 : decode cX7_digest 119 = .ok (.iaload, 1) := by decide +kernel
theorem dX7_digest_120 : decode cX7_digest 120 = .ok (.i2l, 1) := by decide +kernel
theorem dX7_digest_121 : decode cX7_digest 121 = .ok (.invokevirtual 404, 3) := by decide +kernel
theorem dX7_digest_124 : decode cX7_digest 124 = .ok (.iconst 0, 1) := by decide +kernel
theorem dX7_digest_125 : decode cX7_digest 125 = .ok (.istore_n 2, 1) := by decide +kernel
theorem dX7_digest_126 : decode cX7_digest 126 = .ok (.iload_n 2, 1) := by decide +kernel
theorem dX7_digest_127 : decode cX7_digest 127 = .ok (.aload_n 0, 1) := by decide +kernel
theorem dX7_digest_128 : decode cX7_digest 128 = .ok (.getfield 13, 3) := by decide +kernel
theorem dX7_digest_131 : decode cX7_digest 131 = .ok (.iload_n 1, 1) := by decide +kernel
theorem dX7_digest_132 : decode cX7_digest 132 = .ok (.iaload, 1) := by decide +kernel
theorem dX7_digest_133 : decode cX7_digest 133 = .ok (.if_icmp .ge 20, 3) := by decide +kernel
theorem dX7_digest_136 : decode cX7_digest 136 = .ok (.aload_n 0, 1) := by decide +kernel
theorem dX7_digest_137 : decode cX7_digest 137 = .ok (.aload_n 0, 1) := by decide +kernel
theorem dX7_digest_138 : decode cX7_digest 138 = .ok (.iload_n 1, 1) := by decide +kernel
theorem dX7_digest_139 : decode cX7_digest 139 = .ok (.iload_n 2, 1) := by decide +kernel
theorem dX7_digest_140 : decode cX7_digest 140 = .ok (.invokevirtual 110, 3) := by decide +kernel
theorem dX7_digest_143 : decode cX7_digest 143 = .ok (.i2l, 1) := by decide +kernel
theorem dX7_digest_144 : decode cX7_digest 144 = .ok (.invokevirtual 404, 3) := by decide +kernel
theorem dX7_digest_147 : decode cX7_digest 147 = .ok (.iinc 2 1, 3) := by decide +kernel
theorem dX7_digest_150 : decode cX7_digest 150 = .ok (.goto (-24), 3) := by decide +kernel
theorem dX7_digest_153 : decode cX7_digest 153 = .ok (.iinc 1 1, 3) := by decide +kernel
theorem dX7_digest_156 : decode cX7_digest 156 = .ok (.goto (-49), 3) := by decide +kernel
theorem dX7_digest_159 : decode cX7_digest 159 = .ok (.iconst 0, 1) := by decide +kernel
theorem dX7_digest_160 : decode cX7_digest 160 = .ok (.istore_n 1, 1) := by decide +kernel
theorem dX7_digest_161 : decode cX7_digest 161 = .ok (.iload_n 1, 1) := by decide +kernel
theorem dX7_digest_162 : decode cX7_digest 162 = .ok (.iconst 4, 1) := by decide +kernel
theorem dX7_digest_163 : decode cX7_digest 163 = .ok (.if_icmp .ge 49, 3) := by decide +kernel
theorem dX7_digest_166 : decode cX7_digest 166 = .ok (.aload_n 0, 1) := by decide +kernel
theorem dX7_digest_167 : decode cX7_digest 167 = .ok (.aload_n 0, 1) := by decide +kernel
theorem dX7_digest_168 : decode cX7_digest 168 = .ok (.getfield 22, 3) := by decide +kernel
theorem dX7_digest_171 : decode cX7_digest 171 = .ok (.iload_n 1, 1) := by decide +kernel
theorem dX7_digest_172 : decode cX7_digest 172 = .ok (.iaload, 1) := by decide +kernel
theorem dX7_digest_173 : decode cX7_digest 173 = .ok (.i2l, 1) := by decide +kernel
theorem dX7_digest_174 : decode cX7_digest 174 = .ok (.invokevirtual 404, 3) := by decide +kernel
theorem dX7_digest_177 : decode cX7_digest 177 = .ok (.iconst 0, 1) := by decide +kernel
theorem dX7_digest_178 : decode cX7_digest 178 = .ok (.istore_n 2, 1) := by decide +kernel
theorem dX7_digest_179 : decode cX7_digest 179 = .ok (.iload_n 2, 1) := by decide +kernel
theorem dX7_digest_180 : decode cX7_digest 180 = .ok (.aload_n 0, 1) := by decide +kernel
theorem dX7_digest_181 : decode cX7_digest 181 = .ok (.getfield 22, 3) := by decide +kernel
theorem dX7_digest_184 : decode cX7_digest 184 = .ok (.iload_n 1, 1) := by decide +kernel
theorem dX7_digest_185 : decode cX7_digest 185 = .ok (.iaload, 1) := by decide +kernel
theorem dX7_digest_186 : decode cX7_digest 186 = .ok (.if_icmp .ge 20, 3) := by decide +kernel
theorem dX7_digest_189 : decode cX7_digest 189 = .ok (.aload_n 0, 1) := by decide +kernel
theorem dX7_digest_190 : decode cX7_digest 190 = .ok (.aload_n 0, 1) := by decide +kernel
theorem dX7_digest_191 : decode cX7_digest 191 = .ok (.iload_n 1, 1) := by decide +kernel
theorem dX7_digest_192 : decode cX7_digest 192 = .ok (.iload_n 2, 1) := by decide +kernel
theorem dX7_digest_193 : decode cX7_digest 193 = .ok (.invokevirtual 123, 3) := by decide +kernel
theorem dX7_digest_196 : decode cX7_digest 196 = .ok (.i2l, 1) := by decide +kernel
theorem dX7_digest_197 : decode cX7_digest 197 = .ok (.invokevirtual 404, 3) := by decide +kernel
theorem dX7_digest_200 : decode cX7_digest 200 = .ok (.iinc 2 1, 3) := by decide +kernel
theorem dX7_digest_203 : decode cX7_digest 203 = .ok (.goto (-24), 3) := by decide +kernel
theorem dX7_digest_206 : decode cX7_digest 206 = .ok (.iinc 1 1, 3) := by decide +kernel
theorem dX7_digest_209 : decode cX7_digest 209 = .ok (.goto (-48), 3) := by decide +kernel
theorem dX7_digest_212 : decode cX7_digest 212 = .ok (.aload_n 0, 1) := by decide +kernel
theorem dX7_digest_213 : decode cX7_digest 213 = .ok (.getfield 399, 3) := by decide +kernel
theorem dX7_digest_216 : decode cX7_digest 216 = .ok (.lreturn, 1) := by decide +kernel
theorem dJ6_bitCount_0f7a4_0 : decode cJ6_bitCount_0f7a4 0 = .ok (.iload_n 0, 1) := by decide +kernel
theorem dJ6_bitCount_0f7a4_1 : decode cJ6_bitCount_0f7a4 1 = .ok (.iload_n 0, 1) := by decide +kernel
theorem dJ6_bitCount_0f7a4_2 : decode cJ6_bitCount_0f7a4 2 = .ok (.iconst 1, 1) := by decide +kernel
theorem dJ6_bitCount_0f7a4_3 : decode cJ6_bitCount_0f7a4 3 = .ok (.iushr, 1) := by decide +kernel
theorem dJ6_bitCount_0f7a4_4 : decode cJ6_bitCount_0f7a4 4 = .ok (.ldc_w 265, 3) := by decide +kernel
theorem dJ6_bitCount_0f7a4_7 : decode cJ6_bitCount_0f7a4 7 = .ok (.iand, 1) := by decide +kernel
theorem dJ6_bitCount_0f7a4_8 : decode cJ6_bitCount_0f7a4 8 = .ok (.isub, 1) := by decide +kernel
theorem dJ6_bitCount_0f7a4_9 : decode cJ6_bitCount_0f7a4 9 = .ok (.istore_n 0, 1) := by decide +kernel
theorem dJ6_bitCount_0f7a4_10 : decode cJ6_bitCount_0f7a4 10 = .ok (.iload_n 0, 1) := by decide +kernel
theorem dJ6_bitCount_0f7a4_11 : decode cJ6_bitCount_0f7a4 11 = .ok (.ldc_w 266, 3) := by decide +kernel
theorem dJ6_bitCount_0f7a4_14 : decode cJ6_bitCount_0f7a4 14 = .ok (.iand, 1) := by decide +kernel
theorem dJ6_bitCount_0f7a4_15 : decode cJ6_bitCount_0f7a4 15 = .ok (.iload_n 0, 1) := by decide +kernel
theorem dJ6_bitCount_0f7a4_16 : decode cJ6_bitCount_0f7a4 16 = .ok (.iconst 2, 1) := by decide +kernel
theorem dJ6_bitCount_0f7a4_17 : decode cJ6_bitCount_0f7a4 17 = .ok (.iushr, 1) := by decide +kernel
theorem dJ6_bitCount_0f7a4_18 : decode cJ6_bitCount_0f7a4 18 = .ok (.ldc_w 266, 3) := by decide +kernel
theorem dJ6_bitCount_0f7a4_21 : decode cJ6_bitCount_0f7a4 21 = .ok (.iand, 1) := by decide +kernel
theorem dJ6_bitCount_0f7a4_22 : decode cJ6_bitCount_0f7a4 22 = .ok (.iadd, 1) := by decide +kernel
theorem dJ6_bitCount_0f7a4_23 : decode cJ6_bitCount_0f7a4 23 = .ok (.istore_n 0, 1) := by decide +kernel
theorem dJ6_bitCount_0f7a4_24 : decode cJ6_bitCount_0f7a4 24 = .ok (.iload_n 0, 1) := by decide +kernel
theorem dJ6_bitCount_0f7a4_25 : decode cJ6_bitCount_0f7a4 25 = .ok (.iload_n 0, 1) := by decide +kernel
theorem dJ6_bitCount_0f7a4_26 : decode cJ6_bitCount_0f7a4 26 = .ok (.iconst 4, 1) := by decide +kernel
theorem dJ6_bitCount_0f7a4_27 : decode cJ6_bitCount_0f7a4 27 = .ok (.iushr, 1) := by decide +kernel
theorem dJ6_bitCount_0f7a4_28 : decode cJ6_bitCount_0f7a4 28 = .ok (.iadd, 1) := by decide +kernel
theorem dJ6_bitCount_0f7a4_29 : decode cJ6_bitCount_0f7a4 29 = .ok (.ldc_w 267, 3) := by decide +kernel
theorem dJ6_bitCount_0f7a4_32 : decode cJ6_bitCount_0f7a4 32 = .ok (.iand, 1) := by decide +kernel
theorem dJ6_bitCount_0f7a4_33 : decode cJ6_bitCount_0f7a4 33 = .ok (.istore_n 0, 1) := by decide +kernel
theorem dJ6_bitCount_0f7a4_34 : decode cJ6_bitCount_0f7a4 34 = .ok (.iload_n 0, 1) := by decide +kernel
theorem dJ6_bitCount_0f7a4_35 : decode cJ6_bitCount_0f7a4 35 = .ok (.iload_n 0, 1) := by decide +kernel
theorem dJ6_bitCount_0f7a4_36 : decode cJ6_bitCount_0f7a4 36 = .ok (.bipush 8, 2) := by decide +kernel
theorem dJ6_bitCount_0f7a4_38 : decode cJ6_bitCount_0f7a4 38 = .ok (.iushr, 1) := by decide +kernel
theorem dJ6_bitCount_0f7a4_39 : decode cJ6_bitCount_0f7a4 39 = .ok (.iadd, 1) := by decide +kernel
theorem dJ6_bitCount_0f7a4_40 : decode cJ6_bitCount_0f7a4 40 = .ok (.istore_n 0, 1) := by decide +kernel
theorem dJ6_bitCount_0f7a4_41 : decode cJ6_bitCount_0f7a4 41 = .ok (.iload_n 0, 1) := by decide +kernel
theorem dJ6_bitCount_0f7a4_42 : decode cJ6_bitCount_0f7a4 42 = .ok (.iload_n 0, 1) := by decide +kernel
theorem dJ6_bitCount_0f7a4_43 : decode cJ6_bitCount_0f7a4 43 = .ok (.bipush 16, 2) := by decide +kernel
theorem dJ6_bitCount_0f7a4_45 : decode cJ6_bitCount_0f7a4 45 = .ok (.iushr, 1) := by decide +kernel
theorem dJ6_bitCount_0f7a4_46 : decode cJ6_bitCount_0f7a4 46 = .ok (.iadd, 1) := by decide +kernel
theorem dJ6_bitCount_0f7a4_47 : decode cJ6_bitCount_0f7a4 47 = .ok (.istore_n 0, 1) := by decide +kernel
theorem dJ6_bitCount_0f7a4_48 : decode cJ6_bitCount_0f7a4 48 = .ok (.iload_n 0, 1) := by decide +kernel
theorem dJ6_bitCount_0f7a4_49 : decode cJ6_bitCount_0f7a4 49 = .ok (.bipush 63, 2) := by decide +kernel
theorem dJ6_bitCount_0f7a4_51 : decode cJ6_bitCount_0f7a4 51 = .ok (.iand, 1) := by decide +kernel
theorem dJ6_bitCount_0f7a4_52 : decode cJ6_bitCount_0f7a4 52 = .ok (.ireturn, 1) := by decide +kernel
theorem dJ9_abs_0f7a4_0 : decode cJ9_abs_0f7a4 0 = .ok (.iload_n 0, 1) := by decide +kernel
theorem dJ9_abs_0f7a4_1 : decode cJ9_abs_0f7a4 1 = .ok (.ifCond .ge 8, 3) := by decide +kernel
theorem dJ9_abs_0f7a4_4 : decode cJ9_abs_0f7a4 4 = .ok (.iload_n 0, 1) := by decide +kernel
theorem dJ9_abs_0f7a4_5 : decode cJ9_abs_0f7a4 5 = .ok (.ineg, 1) := by decide +kernel
theorem dJ9_abs_0f7a4_6 : decode cJ9_abs_0f7a4 6 = .ok (.goto 4, 3) := by decide +kernel
theorem dJ9_abs_0f7a4_9 : decode cJ9_abs_0f7a4 9 = .ok (.iload_n 0, 1) := by decide +kernel
theorem dJ9_abs_0f7a4_10 : decode cJ9_abs_0f7a4 10 = .ok (.ireturn, 1) := by decide +kernel
theorem dJ9_max_7cf53_0 : decode cJ9_max_7cf53 0 = .ok (.iload_n 0, 1) := by decide +kernel
theorem dJ9_max_7cf53_1 : decode cJ9_max_7cf53 1 = .ok (.iload_n 1, 1) := by decide +kernel
theorem dJ9_max_7cf53_2 : decode cJ9_max_7cf53 2 = .ok (.if_icmp .lt 7, 3) := by decide +kernel
theorem dJ9_max_7cf53_5 : decode cJ9_max_7cf53 5 = .ok (.iload_n 0, 1) := by decide +kernel
theorem dJ9_max_7cf53_6 : decode cJ9_max_7cf53 6 = .ok (.goto 4, 3) := by decide +kernel
theorem dJ9_max_7cf53_9 : decode cJ9_max_7cf53 9 = .ok (.iload_n 1, 1) := by decide +kernel
theorem dJ9_max_7cf53_10 : decode cJ9_max_7cf53 10 = .ok (.ireturn, 1) := by decide +kernel
theorem dJ9_min_7cf53_0 : decode cJ9_min_7cf53 0 = .ok (.iload_n 0, 1) := by decide +kernel
theorem dJ9_min_7cf53_1 : decode cJ9_min_7cf53 1 = .ok (.iload_n 1, 1) := by decide +kernel
theorem dJ9_min_7cf53_2 : decode cJ9_min_7cf53 2 = .ok (.if_icmp .gt 7, 3) := by decide +kernel
theorem dJ9_min_7cf53_5 : decode cJ9_min_7cf53 5 = .ok (.iload_n 0, 1) := by decide +kernel
theorem dJ9_min_7cf53_6 : decode cJ9_min_7cf53 6 = .ok (.goto 4, 3) := by decide +kernel
theorem dJ9_min_7cf53_9 : decode cJ9_min_7cf53 9 = .ok (.iload_n 1, 1) := by decide +kernel
theorem dJ9_min_7cf53_10 : decode cJ9_min_7cf53 10 = .ok (.ireturn, 1) := by decide +kernel
theorem dJ7_rangeCheck_23922_0 : decode cJ7_rangeCheck_23922 0 = .ok (.iload_n 1, 1) := by decide +kernel
theorem dJ7_rangeCheck_23922_1 : decode cJ7_rangeCheck_23922 1 = .ok (.iload_n 2, 1) := by decide +kernel
theorem dJ7_rangeCheck_23922_2 : decode cJ7_rangeCheck_23922 2 = .ok (.if_icmp .le 44, 3) := by decide +kernel
theorem dJ7_rangeCheck_23922_5 : decode cJ7_rangeCheck_23922 5 = .ok (.new 43, 3) := by decide +kernel
theorem dJ7_rangeCheck_23922_8 : decode cJ7_rangeCheck_23922 8 = .ok (.dup, 1) := by decide +kernel
theorem dJ7_rangeCheck_23922_9 : decode cJ7_rangeCheck_23922 9 = .ok (.new 45, 3) := by decide +kernel
theorem dJ7_rangeCheck_23922_12 : decode cJ7_rangeCheck_23922 12 = .ok (.dup, 1) := by decide +kernel
theorem dJ7_rangeCheck_23922_13 : decode cJ7_rangeCheck_23922 13 = .ok (.invokespecial 47, 3) := by decide +kernel
theorem dJ7_rangeCheck_23922_16 : decode cJ7_rangeCheck_23922 16 = .ok (.ldc 48, 2) := by decide +kernel
theorem dJ7_rangeCheck_23922_18 : decode cJ7_rangeCheck_23922 18 = .ok (.invokevirtual 50, 3) := by decide +kernel
theorem dJ7_rangeCheck_23922_21 : decode cJ7_rangeCheck_23922 21 = .ok (.iload_n 1, 1) := by decide +kernel
theorem dJ7_rangeCheck_23922_22 : decode cJ7_rangeCheck_23922 22 = .ok (.invokevirtual 54, 3) := by decide +kernel
theorem dJ7_rangeCheck_23922_25 : decode cJ7_rangeCheck_23922 25 = .ok (.ldc 57, 2) := by decide +kernel
theorem dJ7_rangeCheck_23922_27 : decode cJ7_rangeCheck_23922 27 = .ok (.invokevirtual 50, 3) := by decide +kernel
theorem dJ7_rangeCheck_23922_30 : decode cJ7_rangeCheck_23922 30 = .ok (.iload_n 2, 1) := by decide +kernel
theorem dJ7_rangeCheck_23922_31 : decode cJ7_rangeCheck_23922 31 = .ok (.invokevirtual 54, 3) := by decide +kernel
theorem dJ7_rangeCheck_23922_34 : decode cJ7_rangeCheck_23922 34 = .ok (.ldc 59, 2) := by decide +kernel
theorem dJ7_rangeCheck_23922_36 : decode cJ7_rangeCheck_23922 36 = .ok (.invokevirtual 50, 3) := by decide +kernel
theorem dJ7_rangeCheck_23922_39 : decode cJ7_rangeCheck_23922 39 = .ok (.invokevirtual 61, 3) := by decide +kernel
theorem dJ7_rangeCheck_23922_42 : decode cJ7_rangeCheck_23922 42 = .ok (.invokespecial 65, 3) := by decide +kernel
theorem dJ7_rangeCheck_23922_45 : decode cJ7_rangeCheck_23922 45 = .ok (.athrow, 1) := by decide +kernel
theorem dJ7_rangeCheck_23922_46 : decode cJ7_rangeCheck_23922 46 = .ok (.iload_n 1, 1) := by decide +kernel
theorem dJ7_rangeCheck_23922_47 : decode cJ7_rangeCheck_23922 47 = .ok (.ifCond .ge 12, 3) := by decide +kernel
theorem dJ7_rangeCheck_23922_50 : decode cJ7_rangeCheck_23922 50 = .ok (.new 68, 3) := by decide +kernel
theorem dJ7_rangeCheck_23922_53 : decode cJ7_rangeCheck_23922 53 = .ok (.dup, 1) := by decide +kernel
theorem dJ7_rangeCheck_23922_54 : decode cJ7_rangeCheck_23922 54 = .ok (.iload_n 1, 1) := by decide +kernel
theorem dJ7_rangeCheck_23922_55 : decode cJ7_rangeCheck_23922 55 = .ok (.invokespecial 70, 3) := by decide +kernel
theorem dJ7_rangeCheck_23922_58 : decode cJ7_rangeCheck_23922 58 = .ok (.athrow, 1) := by decide +kernel
theorem dJ7_rangeCheck_23922_59 : decode cJ7_rangeCheck_23922 59 = .ok (.iload_n 2, 1) := by decide +kernel
theorem dJ7_rangeCheck_23922_60 : decode cJ7_rangeCheck_23922 60 = .ok (.iload_n 0, 1) := by decide +kernel
theorem dJ7_rangeCheck_23922_61 : decode cJ7_rangeCheck_23922 61 = .ok (.if_icmp .le 12, 3) := by decide +kernel
theorem dJ7_rangeCheck_23922_64 : decode cJ7_rangeCheck_23922 64 = .ok (.new 68, 3) := by decide +kernel
theorem dJ7_rangeCheck_23922_67 : decode cJ7_rangeCheck_23922 67 = .ok (.dup, 1) := by decide +kernel
theorem dJ7_rangeCheck_23922_68 : decode cJ7_rangeCheck_23922 68 = .ok (.iload_n 2, 1) := by decide +kernel
theorem dJ7_rangeCheck_23922_69 : decode cJ7_rangeCheck_23922 69 = .ok (.invokespecial 70, 3) := by decide +kernel
theorem dJ7_rangeCheck_23922_72 : decode cJ7_rangeCheck_23922 72 = .ok (.athrow, 1) := by decide +kernel
theorem dJ7_rangeCheck_23922_73 : decode cJ7_rangeCheck_23922 73 = .ok (.return_, 1) := by decide +kernel
theorem dJ7_fill_53178_0 : decode cJ7_fill_53178 0 = .ok (.iconst 0, 1) := by decide +kernel
theorem dJ7_fill_53178_1 : decode cJ7_fill_53178 1 = .ok (.istore_n 2, 1) := by decide +kernel
theorem dJ7_fill_53178_2 : decode cJ7_fill_53178 2 = .ok (.aload_n 0, 1) := by decide +kernel
theorem dJ7_fill_53178_3 : decode cJ7_fill_53178 3 = .ok (.arraylength, 1) := by decide +kernel
theorem dJ7_fill_53178_4 : decode cJ7_fill_53178 4 = .ok (.istore_n 3, 1) := by decide +kernel
theorem dJ7_fill_53178_5 : decode cJ7_fill_53178 5 = .ok (.iload_n 2, 1) := by decide +kernel
theorem dJ7_fill_53178_6 : decode cJ7_fill_53178 6 = .ok (.iload_n 3, 1) := by decide +kernel
theorem dJ7_fill_53178_7 : decode cJ7_fill_53178 7 = .ok (.if_icmp .ge 13, 3) := by decide +kernel
theorem dJ7_fill_53178_10 : decode cJ7_fill_53178 10 = .ok (.aload_n 0, 1) := by decide +kernel
theorem dJ7_fill_53178_11 : decode cJ7_fill_53178 11 = .ok (.iload_n 2, 1) := by decide +kernel
theorem dJ7_fill_53178_12 : decode cJ7_fill_53178 12 = .ok (.iload_n 1, 1) := by decide +kernel
theorem dJ7_fill_53178_13 : decode cJ7_fill_53178 13 = .ok (.iastore, 1) := by decide +kernel
theorem dJ7_fill_53178_14 : decode cJ7_fill_53178 14 = .ok (.iinc 2 1, 3) := by decide +kernel
theorem dJ7_fill_53178_17 : decode cJ7_fill_53178 17 = .ok (.goto (-12), 3) := by decide +kernel
theorem dJ7_fill_53178_20 : decode cJ7_fill_53178 20 = .ok (.return_, 1) := by decide +kernel
theorem dJ7_fill_fda19_0 : decode cJ7_fill_fda19 0 = .ok (.aload_n 0, 1) := by decide +kernel
theorem dJ7_fill_fda19_1 : decode cJ7_fill_fda19 1 = .ok (.arraylength, 1) := by decide +kernel
theorem dJ7_fill_fda19_2 : decode cJ7_fill_fda19 2 = .ok (.iload_n 1, 1) := by decide +kernel
theorem dJ7_fill_fda19_3 : decode cJ7_fill_fda19 3 = .ok (.iload_n 2, 1) := by decide +kernel
theorem dJ7_fill_fda19_4 : decode cJ7_fill_fda19 4 = .ok (.invokestatic 13, 3) := by decide +kernel
theorem dJ7_fill_fda19_7 : decode cJ7_fill_fda19 7 = .ok (.iload_n 1, 1) := by decide +kernel
theorem dJ7_fill_fda19_8 : decode cJ7_fill_fda19 8 = .ok (.istore 4, 2) := by decide +kernel
theorem dJ7_fill_fda19_10 : decode cJ7_fill_fda19 10 = .ok (.iload 4, 2) := by decide +kernel
theorem dJ7_fill_fda19_12 : decode cJ7_fill_fda19 12 = .ok (.iload_n 2, 1) := by decide +kernel
theorem dJ7_fill_fda19_13 : decode cJ7_fill_fda19 13 = .ok (.if_icmp .ge 14, 3) := by decide +kernel
theorem dJ7_fill_fda19_16 : decode cJ7_fill_fda19 16 = .ok (.aload_n 0, 1) := by decide +kernel
theorem dJ7_fill_fda19_17 : decode cJ7_fill_fda19 17 = .ok (.iload 4, 2) := by decide +kernel
theorem dJ7_fill_fda19_19 : decode cJ7_fill_fda19 19 = .ok (.iload_n 3, 1) := by decide +kernel
theorem dJ7_fill_fda19_20 : decode cJ7_fill_fda19 20 = .ok (.iastore, 1) := by decide +kernel
theorem dJ7_fill_fda19_21 : decode cJ7_fill_fda19 21 = .ok (.iinc 4 1, 3) := by decide +kernel
theorem dJ7_fill_fda19_24 : decode cJ7_fill_fda19 24 = .ok (.goto (-14), 3) := by decide +kernel
theorem dJ7_fill_fda19_27 : decode cJ7_fill_fda19 27 = .ok (.return_, 1) := by decide +kernel
