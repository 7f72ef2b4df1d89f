theorem dX12_lotsNow_189 : decode cX12_lotsNow 189 = .ok (.iconst 0, 1) := by decide +kernel
theorem dX12_lotsNow_190 : decode cX12_lotsNow 190 = .ok (.ior, 1) := by decide +kernel
theorem dX12_lotsNow_191 : decode cX12_lotsNow 191 = .ok (.istore_n 2, 1) := by decide +kernel
theorem dX12_lotsNow_192 : decode cX12_lotsNow 192 = .ok (.iinc 5 1, 3) := by decide +kernel
theorem dX12_lotsNow_195 : decode cX12_lotsNow 195 = .ok (.goto (-45), 3) := by decide +kernel
theorem dX12_lotsNow_198 : decode cX12_lotsNow 198 = .ok (.iload_n 2, 1) := by decide +kernel
theorem dX12_lotsNow_199 : decode cX12_lotsNow 199 = .ok (.ireturn, 1) := by decide +kernel
theorem dX12_lots_0 : decode cX12_lots 0 = .ok (.iload_n 1, 1) := by decide +kernel
theorem dX12_lots_1 : decode cX12_lots 1 = .ok (.invokestatic 147, 3) := by decide +kernel
theorem dX12_lots_4 : decode cX12_lots 4 = .ok (.ifCond .ne 6, 3) := by decide +kernel
theorem dX12_lots_7 : decode cX12_lots 7 = .ok (.bipush (-2), 2) := by decide +kernel
theorem dX12_lots_9 : decode cX12_lots 9 = .ok (.ireturn, 1) := by decide +kernel
theorem dX12_lots_10 : decode cX12_lots 10 = .ok (.aload_n 0, 1) := by decide +kernel
theorem dX12_lots_11 : decode cX12_lots 11 = .ok (.iload_n 1, 1) := by decide +kernel
theorem dX12_lots_12 : decode cX12_lots 12 = .ok (.invokevirtual 188, 3) := by decide +kernel
theorem dX12_lots_15 : decode cX12_lots 15 = .ok (.ifCond .eq 11, 3) := by decide +kernel
theorem dX12_lots_18 : decode cX12_lots 18 = .ok (.aload_n 0, 1) := by decide +kernel
theorem dX12_lots_19 : decode cX12_lots 19 = .ok (.iload_n 2, 1) := by decide +kernel
theorem dX12_lots_20 : decode cX12_lots 20 = .ok (.invokevirtual 263, 3) := by decide +kernel
theorem dX12_lots_23 : decode cX12_lots 23 = .ok (.goto 5, 3) := by decide +kernel
theorem dX12_lots_26 : decode cX12_lots 26 = .ok (.bipush (-3), 2) := by decide +kernel
theorem dX12_lots_28 : decode cX12_lots 28 = .ok (.ireturn, 1) := by decide +kernel
theorem dX12_isDraw_0 : decode cX12_isDraw 0 = .ok (.iload_n 1, 1) := by decide +kernel
theorem dX12_isDraw_1 : decode cX12_isDraw 1 = .ok (.i2l, 1) := by decide +kernel
theorem dX12_isDraw_2 : decode cX12_isDraw 2 = .ok (.lconst 0, 1) := by decide +kernel
theorem dX12_isDraw_3 : decode cX12_isDraw 3 = .ok (.aload_n 0, 1) := by decide +kernel
theorem dX12_isDraw_4 : decode cX12_isDraw 4 = .ok (.invokevirtual 254, 3) := by decide +kernel
theorem dX12_isDraw_7 : decode cX12_isDraw 7 = .ok (.i2l, 1) := by decide +kernel
theorem dX12_isDraw_8 : decode cX12_isDraw 8 = .ok (.invokestatic 92, 3) := by decide +kernel
theorem dX12_isDraw_11 : decode cX12_isDraw 11 = .ok (.ireturn, 1) := by decide +kernel
theorem dX12_makesIt_0 : decode cX12_makesIt 0 = .ok (.aload_n 0, 1) := by decide +kernel
theorem dX12_makesIt_1 : decode cX12_makesIt 1 = .ok (.getfield 166, 3) := by decide +kernel
theorem dX12_makesIt_4 : decode cX12_makesIt 4 = .ok (.bipush 97, 2) := by decide +kernel
theorem dX12_makesIt_6 : decode cX12_makesIt 6 = .ok (.if_icmp .ne 22, 3) := by decide +kernel
theorem dX12_makesIt_9 : decode cX12_makesIt 9 = .ok (.iload_n 1, 1) := by decide +kernel
theorem dX12_makesIt_10 : decode cX12_makesIt 10 = .ok (.invokestatic 244, 3) := by decide +kernel
theorem dX12_makesIt_13 : decode cX12_makesIt 13 = .ok (.aload_n 0, 1) := by decide +kernel
theorem dX12_makesIt_14 : decode cX12_makesIt 14 = .ok (.getfield 53, 3) := by decide +kernel
theorem dX12_makesIt_17 : decode cX12_makesIt 17 = .ok (.iconst 0, 1) := by decide +kernel
theorem dX12_makesIt_18 : decode cX12_makesIt 18 = .ok (.iaload, 1) := by decide +kernel
theorem dX12_makesIt_19 : decode cX12_makesIt 19 = .ok (.if_icmp .ne 7, 3) := by decide +kernel
theorem dX12_makesIt_22 : decode cX12_makesIt 22 = .ok (.iconst 1, 1) := by decide +kernel
theorem dX12_makesIt_23 : decode cX12_makesIt 23 = .ok (.goto 4, 3) := by decide +kernel
theorem dX12_makesIt_26 : decode cX12_makesIt 26 = .ok (.iconst 0, 1) := by decide +kernel
theorem dX12_makesIt_27 : decode cX12_makesIt 27 = .ok (.ireturn, 1) := by decide +kernel
theorem dX12_makesIt_28 : decode cX12_makesIt 28 = .ok (.iconst 0, 1) := by decide +kernel
theorem dX12_makesIt_29 : decode cX12_makesIt 29 = .ok (.istore_n 2, 1) := by decide +kernel
theorem dX12_makesIt_30 : decode cX12_makesIt 30 = .ok (.aload_n 0, 1) := by decide +kernel
theorem dX12_makesIt_31 : decode cX12_makesIt 31 = .ok (.invokevirtual 220, 3) := by decide +kernel
theorem dX12_makesIt_34 : decode cX12_makesIt 34 = .ok (.ifCond .eq 46, 3) := by decide +kernel
theorem dX12_makesIt_37 : decode cX12_makesIt 37 = .ok (.aload_n 0, 1) := by decide +kernel
theorem dX12_makesIt_38 : decode cX12_makesIt 38 = .ok (.invokevirtual 202, 3) := by decide +kernel
theorem dX12_makesIt_41 : decode cX12_makesIt 41 = .ok (.l2i, 1) := by decide +kernel
theorem dX12_makesIt_42 : decode cX12_makesIt 42 = .ok (.istore_n 3, 1) := by decide +kernel
theorem dX12_makesIt_43 : decode cX12_makesIt 43 = .ok (.iconst 0, 1) := by decide +kernel
theorem dX12_makesIt_44 : decode cX12_makesIt 44 = .ok (.istore 4, 2) := by decide +kernel
theorem dX12_makesIt_46 : decode cX12_makesIt 46 = .ok (.iload 4, 2) := by decide +kernel
theorem dX12_makesIt_48 : decode cX12_makesIt 48 = .ok (.iload_n 3, 1) := by decide +kernel
theorem dX12_makesIt_49 : decode cX12_makesIt 49 = .ok (.if_icmp .ge 29, 3) := by decide +kernel
theorem dX12_makesIt_52 : decode cX12_makesIt 52 = .ok (.iload_n 2, 1) := by decide +kernel
theorem dX12_makesIt_53 : decode cX12_makesIt 53 = .ok (.ifCond .ne 25, 3) := by decide +kernel
theorem dX12_makesIt_56 : decode cX12_makesIt 56 = .ok (.aload_n 0, 1) := by decide +kernel
theorem dX12_makesIt_57 : decode cX12_makesIt 57 = .ok (.iload 4, 2) := by decide +kernel
theorem dX12_makesIt_59 : decode cX12_makesIt 59 = .ok (.invokevirtual 217, 3) := by decide +kernel
theorem dX12_makesIt_62 : decode cX12_makesIt 62 = .ok (.iload_n 1, 1) := by decide +kernel
theorem dX12_makesIt_63 : decode cX12_makesIt 63 = .ok (.if_icmp .ne 7, 3) := by decide +kernel
theorem dX12_makesIt_66 : decode cX12_makesIt 66 = .ok (.iconst 1, 1) := by decide +kernel
theorem dX12_makesIt_67 : decode cX12_makesIt 67 = .ok (.goto 4, 3) := by decide +kernel
theorem dX12_makesIt_70 : decode cX12_makesIt 70 = .ok (.iconst 0, 1) := by decide +kernel
theorem dX12_makesIt_71 : decode cX12_makesIt 71 = .ok (.istore_n 2, 1) := by decide +kernel
theorem dX12_makesIt_72 : decode cX12_makesIt 72 = .ok (.iinc 4 1, 3) := by decide +kernel
theorem dX12_makesIt_75 : decode cX12_makesIt 75 = .ok (.goto (-29), 3) := by decide +kernel
theorem dX12_makesIt_78 : decode cX12_makesIt 78 = .ok (.iload_n 2, 1) := by decide +kernel
theorem dX12_makesIt_79 : decode cX12_makesIt 79 = .ok (.ireturn, 1) := by decide +kernel
theorem dX12_makesIt_80 : decode cX12_makesIt 80 = .ok (.iconst 1, 1) := by decide +kernel
theorem dX12_makesIt_81 : decode cX12_makesIt 81 = .ok (.istore_n 2, 1) := by decide +kernel
theorem dX12_makesIt_82 : decode cX12_makesIt 82 = .ok (.iconst 0, 1) := by decide +kernel
theorem dX12_makesIt_83 : decode cX12_makesIt 83 = .ok (.istore_n 3, 1) := by decide +kernel
theorem dX12_makesIt_84 : decode cX12_makesIt 84 = .ok (.iconst 0, 1) := by decide +kernel
theorem dX12_makesIt_85 : decode cX12_makesIt 85 = .ok (.istore 4, 2) := by decide +kernel
theorem dX12_makesIt_87 : decode cX12_makesIt 87 = .ok (.iload 4, 2) := by decide +kernel
theorem dX12_makesIt_89 : decode cX12_makesIt 89 = .ok (.aload_n 0, 1) := by decide +kernel
theorem dX12_makesIt_90 : decode cX12_makesIt 90 = .ok (.getfield 166, 3) := by decide +kernel
theorem dX12_makesIt_93 : decode cX12_makesIt 93 = .ok (.bipush 108, 2) := by decide +kernel
theorem dX12_makesIt_95 : decode cX12_makesIt 95 = .ok (.if_icmp .ne 7, 3) := by decide +kernel
theorem dX12_makesIt_98 : decode cX12_makesIt 98 = .ok (.iconst 4, 1) := by decide +kernel
theorem dX12_makesIt_99 : decode cX12_makesIt 99 = .ok (.goto 5, 3) := by decide +kernel
theorem dX12_makesIt_102 : decode cX12_makesIt 102 = .ok (.bipush 8, 2) := by decide +kernel
theorem dX12_makesIt_104 : decode cX12_makesIt 104 = .ok (.if_icmp .ge 99, 3) := by decide +kernel
theorem dX12_makesIt_107 : decode cX12_makesIt 107 = .ok (.iload_n 1, 1) := by decide +kernel
theorem dX12_makesIt_108 : decode cX12_makesIt 108 = .ok (.aload_n 0, 1) := by decide +kernel
theorem dX12_makesIt_109 : decode cX12_makesIt 109 = .ok (.aload_n 0, 1) := by decide +kernel
theorem dX12_makesIt_110 : decode cX12_makesIt 110 = .ok (.getfield 166, 3) := by decide +kernel
theorem dX12_makesIt_113 : decode cX12_makesIt 113 = .ok (.bipush 108, 2) := by decide +kernel
theorem dX12_makesIt_115 : decode cX12_makesIt 115 = .ok (.if_icmp .ne 7, 3) := by decide +kernel
theorem dX12_makesIt_118 : decode cX12_makesIt 118 = .ok (.iconst 0, 1) := by decide +kernel
theorem dX12_makesIt_119 : decode cX12_makesIt 119 = .ok (.goto 4, 3) := by decide +kernel
theorem dX12_makesIt_122 : decode cX12_makesIt 122 = .ok (.iconst 1, 1) := by decide +kernel
theorem dX12_makesIt_123 : decode cX12_makesIt 123 = .ok (.iload 4, 2) := by decide +kernel
theorem dX12_makesIt_125 : decode cX12_makesIt 125 = .ok (.invokevirtual 260, 3) := by decide +kernel
theorem dX12_makesIt_128 : decode cX12_makesIt 128 = .ok (.iand, 1) := by decide +kernel
theorem dX12_makesIt_129 : decode cX12_makesIt 129 = .ok (.invokestatic 244, 3) := by decide +kernel
theorem dX12_makesIt_132 : decode cX12_makesIt 132 = .ok (.istore 5, 2) := by decide +kernel
theorem dX12_makesIt_134 : decode cX12_makesIt 134 = .ok (.aload_n 0, 1) := by decide +kernel
theorem dX12_makesIt_135 : decode cX12_makesIt 135 = .ok (.getfield 166, 3) := by decide +kernel
theorem dX12_makesIt_138 : decode cX12_makesIt 138 = .ok (.bipush 108, 2) := by decide +kernel
theorem dX12_makesIt_140 : decode cX12_makesIt 140 = .ok (.if_icmp .ne 28, 3) := by decide +kernel
theorem dX12_makesIt_143 : decode cX12_makesIt 143 = .ok (.iload_n 2, 1) := by decide +kernel
theorem dX12_makesIt_144 : decode cX12_makesIt 144 = .ok (.ifCond .eq 19, 3) := by decide +kernel
theorem dX12_makesIt_147 : decode cX12_makesIt 147 = .ok (.iload 5, 2) := by decide +kernel
theorem dX12_makesIt_149 : decode cX12_makesIt 149 = .ok (.aload_n 0, 1) := by decide +kernel
theorem dX12_makesIt_150 : decode cX12_makesIt 150 = .ok (.getfield 53, 3) := by decide +kernel
theorem dX12_makesIt_153 : decode cX12_makesIt 153 = .ok (.iload 4, 2) := by decide +kernel
theorem dX12_makesIt_155 : decode cX12_makesIt 155 = .ok (.iaload, 1) := by decide +kernel
theorem dX12_makesIt_156 : decode cX12_makesIt 156 = .ok (.if_icmp .ne 7, 3) := by decide +kernel
theorem dX12_makesIt_159 : decode cX12_makesIt 159 = .ok (.iconst 1, 1) := by decide +kernel
theorem dX12_makesIt_160 : decode cX12_makesIt 160 = .ok (.goto 4, 3) := by decide +kernel
theorem dX12_makesIt_163 : decode cX12_makesIt 163 = .ok (.iconst 0, 1) := by decide +kernel
theorem dX12_makesIt_164 : decode cX12_makesIt 164 = .ok (.istore_n 2, 1) := by decide +kernel
theorem dX12_makesIt_165 : decode cX12_makesIt 165 = .ok (.goto 32, 3) := by decide +kernel
theorem dX12_makesIt_168 : decode cX12_makesIt 168 = .ok (.iload 5, 2) := by decide +kernel
theorem dX12_makesIt_170 : decode cX12_makesIt 170 = .ok (.ifCond .le 27, 3) := by decide +kernel
theorem dX12_makesIt_173 : decode cX12_makesIt 173 = .ok (.iload_n 2, 1) := by decide +kernel
theorem dX12_makesIt_174 : decode cX12_makesIt 174 = .ok (.ifCond .eq 18, 3) := by decide +kernel
theorem dX12_makesIt_177 : decode cX12_makesIt 177 = .ok (.iload 5, 2) := by decide +kernel
theorem dX12_makesIt_179 : decode cX12_makesIt 179 = .ok (.aload_n 0, 1) := by decide +kernel
theorem dX12_makesIt_180 : decode cX12_makesIt 180 = .ok (.iload 4, 2) := by decide +kernel
theorem dX12_makesIt_182 : decode cX12_makesIt 182 = .ok (.invokevirtual 195, 3) := by decide +kernel
theorem dX12_makesIt_185 : decode cX12_makesIt 185 = .ok (.if_icmp .ne 7, 3) := by decide +kernel
theorem dX12_makesIt_188 : decode cX12_makesIt 188 = .ok (.iconst 1, 1) := by decide +kernel
theorem dX12_makesIt_189 : decode cX12_makesIt 189 = .ok (.goto 4, 3) := by decide +kernel
theorem dX12_makesIt_192 : decode cX12_makesIt 192 = .ok (.iconst 0, 1) := by decide +kernel
theorem dX12_makesIt_193 : decode cX12_makesIt 193 = .ok (.istore_n 2, 1) := by decide +kernel
theorem dX12_makesIt_194 : decode cX12_makesIt 194 = .ok (.iinc 3 1, 3) := by decide +kernel
theorem dX12_makesIt_197 : decode cX12_makesIt 197 = .ok (.iinc 4 1, 3) := by decide +kernel
theorem dX12_makesIt_200 : decode cX12_makesIt 200 = .ok (.goto (-113), 3) := by decide +kernel
theorem dX12_makesIt_203 : decode cX12_makesIt 203 = .ok (.iload_n 2, 1) := by decide +kernel
theorem dX12_makesIt_204 : decode cX12_makesIt 204 = .ok (.ifCond .eq 26, 3) := by decide +kernel
theorem dX12_makesIt_207 : decode cX12_makesIt 207 = .ok (.aload_n 0, 1) := by decide +kernel
theorem dX12_makesIt_208 : decode cX12_makesIt 208 = .ok (.getfield 166, 3) := by decide +kernel
theorem dX12_makesIt_211 : decode cX12_makesIt 211 = .ok (.bipush 108, 2) := by decide +kernel
theorem dX12_makesIt_213 : decode cX12_makesIt 213 = .ok (.if_icmp .eq 13, 3) := by decide +kernel
theorem dX12_makesIt_216 : decode cX12_makesIt 216 = .ok (.iload_n 3, 1) := by decide +kernel
theorem dX12_makesIt_217 : decode cX12_makesIt 217 = .ok (.aload_n 0, 1) := by decide +kernel
theorem dX12_makesIt_218 : decode cX12_makesIt 218 = .ok (.getfield 53, 3) := by decide +kernel
theorem dX12_makesIt_221 : decode cX12_makesIt 221 = .ok (.iconst 0, 1) := by decide +kernel
theorem dX12_makesIt_222 : decode cX12_makesIt 222 = .ok (.iaload, 1) := by decide +kernel
theorem dX12_makesIt_223 : decode cX12_makesIt 223 = .ok (.if_icmp .ne 7, 3) := by decide +kernel
theorem dX12_makesIt_226 : decode cX12_makesIt 226 = .ok (.iconst 1, 1) := by decide +kernel
theorem dX12_makesIt_227 : decode cX12_makesIt 227 = .ok (.goto 4, 3) := by decide +kernel
theorem dX12_makesIt_230 : decode cX12_makesIt 230 = .ok (.iconst 0, 1) := by decide +kernel
theorem dX12_makesIt_231 : decode cX12_makesIt 231 = .ok (.ireturn, 1) := by decide +kernel
theorem dX12_makes_0 : decode cX12_makes 0 = .ok (.iload_n 1, 1) := by decide +kernel
theorem dX12_makes_1 : decode cX12_makes 1 = .ok (.invokestatic 147, 3) := by decide +kernel
theorem dX12_makes_4 : decode cX12_makes 4 = .ok (.ifCond .eq 11, 3) := by decide +kernel
theorem dX12_makes_7 : decode cX12_makes 7 = .ok (.aload_n 0, 1) := by decide +kernel
theorem dX12_makes_8 : decode cX12_makes 8 = .ok (.iload_n 2, 1) := by decide +kernel
theorem dX12_makes_9 : decode cX12_makes 9 = .ok (.invokevirtual 266, 3) := by decide +kernel
theorem dX12_makes_12 : decode cX12_makes 12 = .ok (.ifCond .ne 6, 3) := by decide +kernel
theorem dX12_makes_15 : decode cX12_makes 15 = .ok (.bipush (-2), 2) := by decide +kernel
theorem dX12_makes_17 : decode cX12_makes 17 = .ok (.ireturn, 1) := by decide +kernel
theorem dX12_makes_18 : decode cX12_makes 18 = .ok (.aload_n 0, 1) := by decide +kernel
theorem dX12_makes_19 : decode cX12_makes 19 = .ok (.iload_n 1, 1) := by decide +kernel
theorem dX12_makes_20 : decode cX12_makes 20 = .ok (.invokevirtual 188, 3) := by decide +kernel
theorem dX12_makes_23 : decode cX12_makes 23 = .ok (.ifCond .eq 19, 3) := by decide +kernel
theorem dX12_makes_26 : decode cX12_makes 26 = .ok (.aload_n 0, 1) := by decide +kernel
theorem dX12_makes_27 : decode cX12_makes 27 = .ok (.iload_n 2, 1) := by decide +kernel
theorem dX12_makes_28 : decode cX12_makes 28 = .ok (.invokevirtual 269, 3) := by decide +kernel
theorem dX12_makes_31 : decode cX12_makes 31 = .ok (.ifCond .eq 7, 3) := by decide +kernel
theorem dX12_makes_34 : decode cX12_makes 34 = .ok (.iconst 1, 1) := by decide +kernel
theorem dX12_makes_35 : decode cX12_makes 35 = .ok (.goto 9, 3) := by decide +kernel
theorem dX12_makes_38 : decode cX12_makes 38 = .ok (.iconst 0, 1) := by decide +kernel
theorem dX12_makes_39 : decode cX12_makes 39 = .ok (.goto 5, 3) := by decide +kernel
theorem dX12_makes_42 : decode cX12_makes 42 = .ok (.bipush (-3), 2) := by decide +kernel
theorem dX12_makes_44 : decode cX12_makes 44 = .ok (.ireturn, 1) := by decide +kernel
theorem dX12_findSum_0 : decode cX12_findSum 0 = .ok (.aload_n 0, 1) := by decide +kernel
theorem dX12_findSum_1 : decode cX12_findSum 1 = .ok (.lconst 0, 1) := by decide +kernel
theorem dX12_findSum_2 : decode cX12_findSum 2 = .ok (.putfield 272, 3) := by decide +kernel
theorem dX12_findSum_5 : decode cX12_findSum 5 = .ok (.aload_n 0, 1) := by decide +kernel
theorem dX12_findSum_6 : decode cX12_findSum 6 = .ok (.lconst 1, 1) := by decide +kernel
theorem dX12_findSum_7 : decode cX12_findSum 7 = .ok (.putfield 275, 3) := by decide +kernel
theorem dX12_findSum_10 : decode cX12_findSum 10 = .ok (.iconst 0, 1) := by decide +kernel
theorem dX12_findSum_11 : decode cX12_findSum 11 = .ok (.istore_n 2, 1) := by decide +kernel
theorem dX12_findSum_12 : decode cX12_findSum 12 = .ok (.iload_n 2, 1) := by decide +kernel
theorem dX12_findSum_13 : decode cX12_findSum 13 = .ok (.aload_n 0, 1) := by decide +kernel
theorem dX12_findSum_14 : decode cX12_findSum 14 = .ok (.getfield 115, 3) := by decide +kernel
theorem dX12_findSum_17 : decode cX12_findSum 17 = .ok (.if_icmp .ge 97, 3) := by decide +kernel
theorem dX12_findSum_20 : decode cX12_findSum 20 = .ok (.aload_n 0, 1) := by decide +kernel
theorem dX12_findSum_21 : decode cX12_findSum 21 = .ok (.iload_n 2, 1) := by decide +kernel
theorem dX12_findSum_22 : decode cX12_findSum 22 = .ok (.invokevirtual 134, 3) := by decide +kernel
theorem dX12_findSum_25 : decode cX12_findSum 25 = .ok (.istore_n 3, 1) := by decide +kernel
theorem dX12_findSum_26 : decode cX12_findSum 26 = .ok (.iload_n 1, 1) := by decide +kernel
theorem dX12_findSum_27 : decode cX12_findSum 27 = .ok (.iload_n 2, 1) := by decide +kernel
theorem dX12_findSum_28 : decode cX12_findSum 28 = .ok (.ishr, 1) := by decide +kernel
theorem dX12_findSum_29 : decode cX12_findSum 29 = .ok (.iconst 1, 1) := by decide +kernel
theorem dX12_findSum_30 : decode cX12_findSum 30 = .ok (.iand, 1) := by decide +kernel
theorem dX12_findSum_31 : decode cX12_findSum 31 = .ok (.iconst 1, 1) := by decide +kernel
theorem dX12_findSum_32 : decode cX12_findSum 32 = .ok (.if_icmp .ne 76, 3) := by decide +kernel
theorem dX12_findSum_35 : decode cX12_findSum 35 = .ok (.iload_n 3, 1) := by decide +kernel
theorem dX12_findSum_36 : decode cX12_findSum 36 = .ok (.iconst (-1), 1) := by decide +kernel
theorem dX12_findSum_37 : decode cX12_findSum 37 = .ok (.if_icmp .eq 71, 3) := by decide +kernel
theorem dX12_findSum_40 : decode cX12_findSum 40 = .ok (.aload_n 0, 1) := by decide +kernel
theorem dX12_findSum_41 : decode cX12_findSum 41 = .ok (.iload_n 2, 1) := by decide +kernel
theorem dX12_findSum_42 : decode cX12_findSum 42 = .ok (.invokevirtual 230, 3) := by decide +kernel
theorem dX12_findSum_45 : decode cX12_findSum 45 = .ok (.aload_n 0, 1) := by decide +kernel
theorem dX12_findSum_46 : decode cX12_findSum 46 = .ok (.iload_n 3, 1) := by decide +kernel
theorem dX12_findSum_47 : decode cX12_findSum 47 = .ok (.i2l, 1) := by decide +kernel
theorem dX12_findSum_48 : decode cX12_findSum 48 = .ok (.aload_n 0, 1) := by decide +kernel
theorem dX12_findSum_49 : decode cX12_findSum 49 = .ok (.getfield 214, 3) := by decide +kernel
theorem dX12_findSum_52 : decode cX12_findSum 52 = .ok (.lmul, 1) := by decide +kernel
theorem dX12_findSum_53 : decode cX12_findSum 53 = .ok (.aload_n 0, 1) := by decide +kernel
theorem dX12_findSum_54 : decode cX12_findSum 54 = .ok (.getfield 210, 3) := by decide +kernel
theorem dX12_findSum_57 : decode cX12_findSum 57 = .ok (.invokevirtual 226, 3) := by decide +kernel
theorem dX12_findSum_60 : decode cX12_findSum 60 = .ok (.aload_n 0, 1) := by decide +kernel
theorem dX12_findSum_61 : decode cX12_findSum 61 = .ok (.aload_n 0, 1) := by decide +kernel
theorem dX12_findSum_62 : decode cX12_findSum 62 = .ok (.getfield 272, 3) := by decide +kernel
theorem dX12_findSum_65 : decode cX12_findSum 65 = .ok (.aload_n 0, 1) := by decide +kernel
theorem dX12_findSum_66 : decode cX12_findSum 66 = .ok (.getfield 214, 3) := by decide +kernel
theorem dX12_findSum_69 : decode cX12_findSum 69 = .ok (.lmul, 1) := by decide +kernel
theorem dX12_findSum_70 : decode cX12_findSum 70 = .ok (.aload_n 0, 1) := by decide +kernel
theorem dX12_findSum_71 : decode cX12_findSum 71 = .ok (.getfield 210, 3) := by decide +kernel
theorem dX12_findSum_74 : decode cX12_findSum 74 = .ok (.aload_n 0, 1) := by decide +kernel
theorem dX12_findSum_75 : decode cX12_findSum 75 = .ok (.getfield 275, 3) := by decide +kernel
theorem dX12_findSum_78 : decode cX12_findSum 78 = .ok (.lmul, 1) := by decide +kernel
theorem dX12_findSum_79 : decode cX12_findSum 79 = .ok (.ladd, 1) := by decide +kernel
theorem dX12_findSum_80 : decode cX12_findSum 80 = .ok (.aload_n 0, 1) := by decide +kernel
theorem dX12_findSum_81 : decode cX12_findSum 81 = .ok (.getfield 275, 3) := by decide +kernel
theorem dX12_findSum_84 : decode cX12_findSum 84 = .ok (.aload_n 0, 1) := by decide +kernel
theorem dX12_findSum_85 : decode cX12_findSum 85 = .ok (.getfield 214, 3) := by decide +kernel
theorem dX12_findSum_88 : decode cX12_findSum 88 = .ok (.lmul, 1) := by decide +kernel
theorem dX12_findSum_89 : decode cX12_findSum 89 = .ok (.invokevirtual 226, 3) := by decide +kernel
theorem dX12_findSum_92 : decode cX12_findSum 92 = .ok (.aload_n 0, 1) := by decide +kernel
theorem dX12_findSum_93 : decode cX12_findSum 93 = .ok (.aload_n 0, 1) := by decide +kernel
theorem dX12_findSum_94 : decode cX12_findSum 94 = .ok (.getfield 210, 3) := by decide +kernel
theorem dX12_findSum_97 : decode cX12_findSum 97 = .ok (.putfield 272, 3) := by decide +kernel
theorem dX12_findSum_100 : decode cX12_findSum 100 = .ok (.aload_n 0, 1) := by decide +kernel
theorem dX12_findSum_101 : decode cX12_findSum 101 = .ok (.aload_n 0, 1) := by decide +kernel
theorem dX12_findSum_102 : decode cX12_findSum 102 = .ok (.getfield 214, 3) := by decide +kernel
theorem dX12_findSum_105 : decode cX12_findSum 105 = .ok (.putfield 275, 3) := by decide +kernel
theorem dX12_findSum_108 : decode cX12_findSum 108 = .ok (.iinc 2 1, 3) := by decide +kernel
theorem dX12_findSum_111 : decode cX12_findSum 111 = .ok (.goto (-99), 3) := by decide +kernel
theorem dX12_findSum_114 : decode cX12_findSum 114 = .ok (.return_, 1) := by decide +kernel
theorem dX12_without_0 : decode cX12_without 0 = .ok (.iload_n 1, 1) := by decide +kernel
theorem dX12_without_1 : decode cX12_without 1 = .ok (.invokestatic 147, 3) := by decide +kernel
theorem dX12_without_4 : decode cX12_without 4 = .ok (.ifCond .eq 11, 3) := by decide +kernel
theorem dX12_without_7 : decode cX12_without 7 = .ok (.aload_n 0, 1) := by decide +kernel
theorem dX12_without_8 : decode cX12_without 8 = .ok (.iload_n 2, 1) := by decide +kernel
theorem dX12_without_9 : decode cX12_without 9 = .ok (.invokevirtual 266, 3) := by decide +kernel
theorem dX12_without_12 : decode cX12_without 12 = .ok (.ifCond .ne 6, 3) := by decide +kernel
theorem dX12_without_15 : decode cX12_without 15 = .ok (.bipush (-2), 2) := by decide +kernel
theorem dX12_without_17 : decode cX12_without 17 = .ok (.ireturn, 1) := by decide +kernel
theorem dX12_without_18 : decode cX12_without 18 = .ok (.aload_n 0, 1) := by decide +kernel
theorem dX12_without_19 : decode cX12_without 19 = .ok (.iload_n 1, 1) := by decide +kernel
theorem dX12_without_20 : decode cX12_without 20 = .ok (.invokevirtual 188, 3) := by decide +kernel
theorem dX12_without_23 : decode cX12_without 23 = .ok (.ifCond .ne 6, 3) := by decide +kernel
theorem dX12_without_26 : decode cX12_without 26 = .ok (.bipush (-3), 2) := by decide +kernel
theorem dX12_without_28 : decode cX12_without 28 = .ok (.ireturn, 1) := by decide +kernel
theorem dX12_without_29 : decode cX12_without 29 = .ok (.aload_n 0, 1) := by decide +kernel
theorem dX12_without_30 : decode cX12_without 30 = .ok (.iload_n 2, 1) := by decide +kernel
theorem dX12_without_31 : decode cX12_without 31 = .ok (.invokevirtual 269, 3) := by decide +kernel
theorem dX12_without_34 : decode cX12_without 34 = .ok (.ifCond .eq 7, 3) := by decide +kernel
theorem dX12_without_37 : decode cX12_without 37 = .ok (.iconst 0, 1) := by decide +kernel
theorem dX12_without_38 : decode cX12_without 38 = .ok (.goto 5, 3) := by decide +kernel
theorem dX12_without_41 : decode cX12_without 41 = .ok (.bipush (-2), 2) := by decide +kernel
theorem dX12_without_43 : decode cX12_without 43 = .ok (.ireturn, 1) := by decide +kernel
theorem dX12_sum_0 : decode cX12_sum 0 = .ok (.iload_n 3, 1) := by decide +kernel
theorem dX12_sum_1 : decode cX12_sum 1 = .ok (.i2l, 1) := by decide +kernel
theorem dX12_sum_2 : decode cX12_sum 2 = .ok (.lconst 0, 1) := by decide +kernel
theorem dX12_sum_3 : decode cX12_sum 3 = .ok (.lconst 1, 1) := by decide +kernel
theorem dX12_sum_4 : decode cX12_sum 4 = .ok (.invokestatic 92, 3) := by decide +kernel
theorem dX12_sum_7 : decode cX12_sum 7 = .ok (.ifCond .ne 9, 3) := by decide +kernel
theorem dX12_sum_10 : decode cX12_sum 10 = .ok (.bipush (-2), 2) := by decide +kernel
theorem dX12_sum_12 : decode cX12_sum 12 = .ok (.invokestatic 198, 3) := by decide +kernel
theorem dX12_sum_15 : decode cX12_sum 15 = .ok (.lreturn, 1) := by decide +kernel
theorem dX12_sum_16 : decode cX12_sum 16 = .ok (.aload_n 0, 1) := by decide +kernel
theorem dX12_sum_17 : decode cX12_sum 17 = .ok (.iload_n 1, 1) := by decide +kernel
theorem dX12_sum_18 : decode cX12_sum 18 = .ok (.iload_n 2, 1) := by decide +kernel
theorem dX12_sum_19 : decode cX12_sum 19 = .ok (.invokevirtual 278, 3) := by decide +kernel
theorem dX12_sum_22 : decode cX12_sum 22 = .ok (.istore 4, 2) := by decide +kernel
theorem dX12_sum_24 : decode cX12_sum 24 = .ok (.iload 4, 2) := by decide +kernel
theorem dX12_sum_26 : decode cX12_sum 26 = .ok (.ifCond .eq 9, 3) := by decide +kernel
theorem dX12_sum_29 : decode cX12_sum 29 = .ok (.iload 4, 2) := by decide +kernel
theorem dX12_sum_31 : decode cX12_sum 31 = .ok (.invokestatic 198, 3) := by decide +kernel
theorem dX12_sum_34 : decode cX12_sum 34 = .ok (.lreturn, 1) := by decide +kernel
theorem dX12_sum_35 : decode cX12_sum 35 = .ok (.aload_n 0, 1) := by decide +kernel
theorem dX12_sum_36 : decode cX12_sum 36 = .ok (.iload_n 2, 1) := by decide +kernel
theorem dX12_sum_37 : decode cX12_sum 37 = .ok (.invokevirtual 281, 3) := by decide +kernel
theorem dX12_sum_40 : decode cX12_sum 40 = .ok (.iload_n 3, 1) := by decide +kernel
theorem dX12_sum_41 : decode cX12_sum 41 = .ok (.ifCond .ne 10, 3) := by decide +kernel
theorem dX12_sum_44 : decode cX12_sum 44 = .ok (.aload_n 0, 1) := by decide +kernel
theorem dX12_sum_45 : decode cX12_sum 45 = .ok (.getfield 272, 3) := by decide +kernel
theorem dX12_sum_48 : decode cX12_sum 48 = .ok (.goto 7, 3) := by decide +kernel
theorem dX12_sum_51 : decode cX12_sum 51 = .ok (.aload_n 0, 1) := by decide +kernel
theorem dX12_sum_52 : decode cX12_sum 52 = .ok (.getfield 275, 3) := by decide +kernel
theorem dX12_sum_55 : decode cX12_sum 55 = .ok (.lreturn, 1) := by decide +kernel
theorem dX12_silent_0 : decode cX12_silent 0 = .ok (.aload_n 0, 1) := by decide +kernel
theorem dX12_silent_1 : decode cX12_silent 1 = .ok (.iload_n 1, 1) := by decide +kernel
theorem dX12_silent_2 : decode cX12_silent 2 = .ok (.invokevirtual 266, 3) := by decide +kernel
theorem dX12_silent_5 : decode cX12_silent 5 = .ok (.ifCond .ne 6, 3) := by decide +kernel
theorem dX12_silent_8 : decode cX12_silent 8 = .ok (.bipush (-2), 2) := by decide +kernel
theorem dX12_silent_10 : decode cX12_silent 10 = .ok (.ireturn, 1) := by decide +kernel
theorem dX12_silent_11 : decode cX12_silent 11 = .ok (.iconst 0, 1) := by decide +kernel
theorem dX12_silent_12 : decode cX12_silent 12 = .ok (.istore_n 2, 1) := by decide +kernel
theorem dX12_silent_13 : decode cX12_silent 13 = .ok (.iconst 0, 1) := by decide +kernel
theorem dX12_silent_14 : decode cX12_silent 14 = .ok (.istore_n 3, 1) := by decide +kernel
theorem dX12_silent_15 : decode cX12_silent 15 = .ok (.iload_n 3, 1) := by decide +kernel
theorem dX12_silent_16 : decode cX12_silent 16 = .ok (.aload_n 0, 1) := by decide +kernel
theorem dX12_silent_17 : decode cX12_silent 17 = .ok (.getfield 115, 3) := by decide +kernel
theorem dX12_silent_20 : decode cX12_silent 20 = .ok (.if_icmp .ge 35, 3) := by decide +kernel
theorem dX12_silent_23 : decode cX12_silent 23 = .ok (.iload_n 2, 1) := by decide +kernel
theorem dX12_silent_24 : decode cX12_silent 24 = .ok (.iload_n 1, 1) := by decide +kernel
theorem dX12_silent_25 : decode cX12_silent 25 = .ok (.iload_n 3, 1) := by decide +kernel
theorem dX12_silent_26 : decode cX12_silent 26 = .ok (.ishr, 1) := by decide +kernel
theorem dX12_silent_27 : decode cX12_silent 27 = .ok (.iconst 1, 1) := by decide +kernel
theorem dX12_silent_28 : decode cX12_silent 28 = .ok (.iand, 1) := by decide +kernel
theorem dX12_silent_29 : decode cX12_silent 29 = .ok (.iconst 1, 1) := by decide +kernel
theorem dX12_silent_30 : decode cX12_silent 30 = .ok (.if_icmp .ne 16, 3) := by decide +kernel
theorem dX12_silent_33 : decode cX12_silent 33 = .ok (.aload_n 0, 1) := by decide +kernel
theorem dX12_silent_34 : decode cX12_silent 34 = .ok (.iload_n 3, 1) := by decide +kernel
theorem dX12_silent_35 : decode cX12_silent 35 = .ok (.invokevirtual 134, 3) := by decide +kernel
theorem dX12_silent_38 : decode cX12_silent 38 = .ok (.iconst (-1), 1) := by decide +kernel
theorem dX12_silent_39 : decode cX12_silent 39 = .ok (.if_icmp .ne 7, 3) := by decide +kernel
theorem dX12_silent_42 : decode cX12_silent 42 = .ok (.iconst 1, 1) := by decide +kernel
theorem dX12_silent_43 : decode cX12_silent 43 = .ok (.goto 4, 3) := by decide +kernel
theorem dX12_silent_46 : decode cX12_silent 46 = .ok (.iconst 0, 1) := by decide +kernel
theorem dX12_silent_47 : decode cX12_silent 47 = .ok (.iadd, 1) := by decide +kernel
theorem dX12_silent_48 : decode cX12_silent 48 = .ok (.istore_n 2, 1) := by decide +kernel
theorem dX12_silent_49 : decode cX12_silent 49 = .ok (.iinc 3 1, 3) := by decide +kernel
theorem dX12_silent_52 : decode cX12_silent 52 = .ok (.goto (-37), 3) := by decide +kernel
theorem dX12_silent_55 : decode cX12_silent 55 = .ok (.iload_n 2, 1) := by decide +kernel
theorem dX12_silent_56 : decode cX12_silent 56 = .ok (.ireturn, 1) := by decide +kernel
theorem dX12_spreads_0 : decode cX12_spreads 0 = .ok (.lconst 0, 1) := by decide +kernel
theorem dX12_spreads_1 : decode cX12_spreads 1 = .ok (.lstore_n 3, 1) := by decide +kernel
theorem dX12_spreads_2 : decode cX12_spreads 2 = .ok (.lconst 0, 1) := by decide +kernel
theorem dX12_spreads_3 : decode cX12_spreads 3 = .ok (.lstore 5, 2) := by decide +kernel
theorem dX12_spreads_5 : decode cX12_spreads 5 = .ok (.iconst 0, 1) := by decide +kernel
theorem dX12_spreads_6 : decode cX12_spreads 6 = .ok (.istore 7, 2) := by decide +kernel
theorem dX12_spreads_8 : decode cX12_spreads 8 = .ok (.iload 7, 2) := by decide +kernel
theorem dX12_spreads_10 : decode cX12_spreads 10 = .ok (.aload_n 0, 1) := by decide +kernel
theorem dX12_spreads_11 : decode cX12_spreads 11 = .ok (.getfield 115, 3) := by decide +kernel
theorem dX12_spreads_14 : decode cX12_spreads 14 = .ok (.if_icmp .ge 52, 3) := by decide +kernel
theorem dX12_spreads_17 : decode cX12_spreads 17 = .ok (.iload_n 1, 1) := by decide +kernel
theorem dX12_spreads_18 : decode cX12_spreads 18 = .ok (.iload 7, 2) := by decide +kernel
theorem dX12_spreads_20 : decode cX12_spreads 20 = .ok (.ishr, 1) := by decide +kernel
theorem dX12_spreads_21 : decode cX12_spreads 21 = .ok (.iconst 1, 1) := by decide +kernel
theorem dX12_spreads_22 : decode cX12_spreads 22 = .ok (.iand, 1) := by decide +kernel
theorem dX12_spreads_23 : decode cX12_spreads 23 = .ok (.iconst 1, 1) := by decide +kernel
theorem dX12_spreads_24 : decode cX12_spreads 24 = .ok (.if_icmp .ne 36, 3) := by decide +kernel
theorem dX12_spreads_27 : decode cX12_spreads 27 = .ok (.aload_n 0, 1) := by decide +kernel
theorem dX12_spreads_28 : decode cX12_spreads 28 = .ok (.iload 7, 2) := by decide +kernel
theorem dX12_spreads_30 : decode cX12_spreads 30 = .ok (.invokevirtual 134, 3) := by decide +kernel
theorem dX12_spreads_33 : decode cX12_spreads 33 = .ok (.i2l, 1) := by decide +kernel
theorem dX12_spreads_34 : decode cX12_spreads 34 = .ok (.lstore 8, 2) := by decide +kernel
theorem dX12_spreads_36 : decode cX12_spreads 36 = .ok (.lload 8, 2) := by decide +kernel
theorem dX12_spreads_38 : decode cX12_spreads 38 = .ok (.lconst 0, 1) := by decide +kernel
theorem dX12_spreads_39 : decode cX12_spreads 39 = .ok (.lcmp, 1) := by decide +kernel
theorem dX12_spreads_40 : decode cX12_spreads 40 = .ok (.ifCond .ge 5, 3) := by decide +kernel
theorem dX12_spreads_43 : decode cX12_spreads 43 = .ok (.iconst 0, 1) := by decide +kernel
theorem dX12_spreads_44 : decode cX12_spreads 44 = .ok (.ireturn, 1) := by decide +kernel
theorem dX12_spreads_45 : decode cX12_spreads 45 = .ok (.lload_n 3, 1) := by decide +kernel
theorem dX12_spreads_46 : decode cX12_spreads 46 = .ok (.lload 8, 2) := by decide +kernel
theorem dX12_spreads_48 : decode cX12_spreads 48 = .ok (.ladd, 1) := by decide +kernel
theorem dX12_spreads_49 : decode cX12_spreads 49 = .ok (.lstore_n 3, 1) := by decide +kernel
theorem dX12_spreads_50 : decode cX12_spreads 50 = .ok (.lload 5, 2) := by decide +kernel
theorem dX12_spreads_52 : decode cX12_spreads 52 = .ok (.lload 8, 2) := by decide +kernel
theorem dX12_spreads_54 : decode cX12_spreads 54 = .ok (.lload 8, 2) := by decide +kernel
theorem dX12_spreads_56 : decode cX12_spreads 56 = .ok (.lmul, 1) := by decide +kernel
theorem dX12_spreads_57 : decode cX12_spreads 57 = .ok (.ladd, 1) := by decide +kernel
theorem dX12_spreads_58 : decode cX12_spreads 58 = .ok (.lstore 5, 2) := by decide +kernel
theorem dX12_spreads_60 : decode cX12_spreads 60 = .ok (.iinc 7 1, 3) := by decide +kernel
theorem dX12_spreads_63 : decode cX12_spreads 63 = .ok (.goto (-55), 3) := by decide +kernel
theorem dX12_spreads_66 : decode cX12_spreads 66 = .ok (.iload_n 1, 1) := by decide +kernel
theorem dX12_spreads_67 : decode cX12_spreads 67 = .ok (.invokestatic 244, 3) := by decide +kernel
theorem dX12_spreads_70 : decode cX12_spreads 70 = .ok (.istore 7, 2) := by decide +kernel
theorem dX12_spreads_72 : decode cX12_spreads 72 = .ok (.iload 7, 2) := by decide +kernel
theorem dX12_spreads_74 : decode cX12_spreads 74 = .ok (.iload_n 2, 1) := by decide +kernel
theorem dX12_spreads_75 : decode cX12_spreads 75 = .ok (.if_icmp .le 79, 3) := by decide +kernel
theorem dX12_spreads_78 : decode cX12_spreads 78 = .ok (.aload_n 0, 1) := by decide +kernel
theorem dX12_spreads_79 : decode cX12_spreads 79 = .ok (.iload 7, 2) := by decide +kernel
theorem dX12_spreads_81 : decode cX12_spreads 81 = .ok (.iload_n 2, 1) := by decide +kernel
theorem dX12_spreads_82 : decode cX12_spreads 82 = .ok (.isub, 1) := by decide +kernel
theorem dX12_spreads_83 : decode cX12_spreads 83 = .ok (.i2l, 1) := by decide +kernel
theorem dX12_spreads_84 : decode cX12_spreads 84 = .ok (.iload 7, 2) := by decide +kernel
theorem dX12_spreads_86 : decode cX12_spreads 86 = .ok (.i2l, 1) := by decide +kernel
theorem dX12_spreads_87 : decode cX12_spreads 87 = .ok (.lload 5, 2) := by decide +kernel
theorem dX12_spreads_89 : decode cX12_spreads 89 = .ok (.lmul, 1) := by decide +kernel
theorem dX12_spreads_90 : decode cX12_spreads 90 = .ok (.lload_n 3, 1) := by decide +kernel
theorem dX12_spreads_91 : decode cX12_spreads 91 = .ok (.lload_n 3, 1) := by decide +kernel
theorem dX12_spreads_92 : decode cX12_spreads 92 = .ok (.lmul, 1) := by decide +kernel
theorem dX12_spreads_93 : decode cX12_spreads 93 = .ok (.lsub, 1) := by decide +kernel
theorem dX12_spreads_94 : decode cX12_spreads 94 = .ok (.lmul, 1) := by decide +kernel
theorem dX12_spreads_95 : decode cX12_spreads 95 = .ok (.iload_n 2, 1) := by decide +kernel
theorem dX12_spreads_96 : decode cX12_spreads 96 = .ok (.i2l, 1) := by decide +kernel
theorem dX12_spreads_97 : decode cX12_spreads 97 = .ok (.iload 7, 2) := by decide +kernel
theorem dX12_spreads_99 : decode cX12_spreads 99 = .ok (.iconst 1, 1) := by decide +kernel
theorem dX12_spreads_100 : decode cX12_spreads 100 = .ok (.isub, 1) := by decide +kernel
theorem dX12_spreads_101 : decode cX12_spreads 101 = .ok (.i2l, 1) := by decide +kernel
theorem dX12_spreads_102 : decode cX12_spreads 102 = .ok (.lmul, 1) := by decide +kernel
theorem dX12_spreads_103 : decode cX12_spreads 103 = .ok (.invokevirtual 226, 3) := by decide +kernel
theorem dX12_spreads_106 : decode cX12_spreads 106 = .ok (.aload_n 0, 1) := by decide +kernel
theorem dX12_spreads_107 : decode cX12_spreads 107 = .ok (.aload_n 0, 1) := by decide +kernel
theorem dX12_spreads_108 : decode cX12_spreads 108 = .ok (.getfield 272, 3) := by decide +kernel
theorem dX12_spreads_111 : decode cX12_spreads 111 = .ok (.aload_n 0, 1) := by decide +kernel
theorem dX12_spreads_112 : decode cX12_spreads 112 = .ok (.getfield 214, 3) := by decide +kernel
theorem dX12_spreads_115 : decode cX12_spreads 115 = .ok (.lmul, 1) := by decide +kernel
theorem dX12_spreads_116 : decode cX12_spreads 116 = .ok (.aload_n 0, 1) := by decide +kernel
theorem dX12_spreads_117 : decode cX12_spreads 117 = .ok (.getfield 210, 3) := by decide +kernel
theorem dX12_spreads_120 : decode cX12_spreads 120 = .ok (.aload_n 0, 1) := by decide +kernel
theorem dX12_spreads_121 : decode cX12_spreads 121 = .ok (.getfield 275, 3) := by decide +kernel
theorem dX12_spreads_124 : decode cX12_spreads 124 = .ok (.lmul, 1) := by decide +kernel
theorem dX12_spreads_125 : decode cX12_spreads 125 = .ok (.ladd, 1) := by decide +kernel
theorem dX12_spreads_126 : decode cX12_spreads 126 = .ok (.aload_n 0, 1) := by decide +kernel
theorem dX12_spreads_127 : decode cX12_spreads 127 = .ok (.getfield 275, 3) := by decide +kernel
theorem dX12_spreads_130 : decode cX12_spreads 130 = .ok (.aload_n 0, 1) := by decide +kernel
theorem dX12_spreads_131 : decode cX12_spreads 131 = .ok (.getfield 214, 3) := by decide +kernel
theorem dX12_spreads_134 : decode cX12_spreads 134 = .ok (.lmul, 1) := by decide +kernel
theorem dX12_spreads_135 : decode cX12_spreads 135 = .ok (.invokevirtual 226, 3) := by decide +kernel
theorem dX12_spreads_138 : decode cX12_spreads 138 = .ok (.aload_n 0, 1) := by decide +kernel
theorem dX12_spreads_139 : decode cX12_spreads 139 = .ok (.aload_n 0, 1) := by decide +kernel
theorem dX12_spreads_140 : decode cX12_spreads 140 = .ok (.getfield 210, 3) := by decide +kernel
theorem dX12_spreads_143 : decode cX12_spreads 143 = .ok (.putfield 272, 3) := by decide +kernel
theorem dX12_spreads_146 : decode cX12_spreads 146 = .ok (.aload_n 0, 1) := by decide +kernel
theorem dX12_spreads_147 : decode cX12_spreads 147 = .ok (.aload_n 0, 1) := by decide +kernel
theorem dX12_spreads_148 : decode cX12_spreads 148 = .ok (.getfield 214, 3) := by decide +kernel
theorem dX12_spreads_151 : decode cX12_spreads 151 = .ok (.putfield 275, 3) := by decide +kernel
theorem dX12_spreads_154 : decode cX12_spreads 154 = .ok (.iconst 1, 1) := by decide +kernel
theorem dX12_spreads_155 : decode cX12_spreads 155 = .ok (.ireturn, 1) := by decide +kernel
theorem dX12_findSpread_0 : decode cX12_findSpread 0 = .ok (.aload_n 0, 1) := by decide +kernel
theorem dX12_findSpread_1 : decode cX12_findSpread 1 = .ok (.lconst 0, 1) := by decide +kernel
theorem dX12_findSpread_2 : decode cX12_findSpread 2 = .ok (.putfield 272, 3) := by decide +kernel
theorem dX12_findSpread_5 : decode cX12_findSpread 5 = .ok (.aload_n 0, 1) := by decide +kernel
theorem dX12_findSpread_6 : decode cX12_findSpread 6 = .ok (.lconst 1, 1) := by decide +kernel
theorem dX12_findSpread_7 : decode cX12_findSpread 7 = .ok (.putfield 275, 3) := by decide +kernel
theorem dX12_findSpread_10 : decode cX12_findSpread 10 = .ok (.aload_n 0, 1) := by decide +kernel
theorem dX12_findSpread_11 : decode cX12_findSpread 11 = .ok (.iload_n 1, 1) := by decide +kernel
theorem dX12_findSpread_12 : decode cX12_findSpread 12 = .ok (.invokevirtual 188, 3) := by decide +kernel
theorem dX12_findSpread_15 : decode cX12_findSpread 15 = .ok (.ifCond .eq 21, 3) := by decide +kernel
theorem dX12_findSpread_18 : decode cX12_findSpread 18 = .ok (.aload_n 0, 1) := by decide +kernel
theorem dX12_findSpread_19 : decode cX12_findSpread 19 = .ok (.getfield 166, 3) := by decide +kernel
theorem dX12_findSpread_22 : decode cX12_findSpread 22 = .ok (.bipush 97, 2) := by decide +kernel
theorem dX12_findSpread_24 : decode cX12_findSpread 24 = .ok (.if_icmp .eq 14, 3) := by decide +kernel
theorem dX12_findSpread_27 : decode cX12_findSpread 27 = .ok (.aload_n 0, 1) := by decide +kernel
theorem dX12_findSpread_28 : decode cX12_findSpread 28 = .ok (.getfield 166, 3) := by decide +kernel
theorem dX12_findSpread_31 : decode cX12_findSpread 31 = .ok (.bipush 108, 2) := by decide +kernel
theorem dX12_findSpread_33 : decode cX12_findSpread 33 = .ok (.if_icmp .eq 5, 3) := by decide +kernel
theorem dX12_findSpread_36 : decode cX12_findSpread 36 = .ok (.iconst 0, 1) := by decide +kernel
theorem dX12_findSpread_37 : decode cX12_findSpread 37 = .ok (.ireturn, 1) := by decide +kernel
theorem dX12_findSpread_38 : decode cX12_findSpread 38 = .ok (.aload_n 0, 1) := by decide +kernel
theorem dX12_findSpread_39 : decode cX12_findSpread 39 = .ok (.getfield 166, 3) := by decide +kernel
theorem dX12_findSpread_42 : decode cX12_findSpread 42 = .ok (.bipush 97, 2) := by decide +kernel
theorem dX12_findSpread_44 : decode cX12_findSpread 44 = .ok (.if_icmp .ne 18, 3) := by decide +kernel
theorem dX12_findSpread_47 : decode cX12_findSpread 47 = .ok (.aload_n 0, 1) := by decide +kernel
theorem dX12_findSpread_48 : decode cX12_findSpread 48 = .ok (.aload_n 0, 1) := by decide +kernel
theorem dX12_findSpread_49 : decode cX12_findSpread 49 = .ok (.invokevirtual 254, 3) := by decide +kernel
theorem dX12_findSpread_52 : decode cX12_findSpread 52 = .ok (.aload_n 0, 1) := by decide +kernel
theorem dX12_findSpread_53 : decode cX12_findSpread 53 = .ok (.getfield 53, 3) := by decide +kernel
theorem dX12_findSpread_56 : decode cX12_findSpread 56 = .ok (.iconst 0, 1) := by decide +kernel
theorem dX12_findSpread_57 : decode cX12_findSpread 57 = .ok (.iaload, 1) := by decide +kernel
theorem dX12_findSpread_58 : decode cX12_findSpread 58 = .ok (.invokevirtual 284, 3) := by decide +kernel
theorem dX12_findSpread_61 : decode cX12_findSpread 61 = .ok (.ireturn, 1) := by decide +kernel
theorem dX12_findSpread_62 : decode cX12_findSpread 62 = .ok (.iconst 1, 1) := by decide +kernel
theorem dX12_findSpread_63 : decode cX12_findSpread 63 = .ok (.istore_n 2, 1) := by decide +kernel
theorem dX12_findSpread_64 : decode cX12_findSpread 64 = .ok (.iconst 0, 1) := by decide +kernel
theorem dX12_findSpread_65 : decode cX12_findSpread 65 = .ok (.istore_n 3, 1) := by decide +kernel
theorem dX12_findSpread_66 : decode cX12_findSpread 66 = .ok (.iload_n 3, 1) := by decide +kernel
theorem dX12_findSpread_67 : decode cX12_findSpread 67 = .ok (.iconst 4, 1) := by decide +kernel
theorem dX12_findSpread_68 : decode cX12_findSpread 68 = .ok (.if_icmp .ge 47, 3) := by decide +kernel
theorem dX12_findSpread_71 : decode cX12_findSpread 71 = .ok (.iload_n 2, 1) := by decide +kernel
theorem dX12_findSpread_72 : decode cX12_findSpread 72 = .ok (.ifCond .eq 35, 3) := by decide +kernel
theorem dX12_findSpread_75 : decode cX12_findSpread 75 = .ok (.aload_n 0, 1) := by decide +kernel
theorem dX12_findSpread_76 : decode cX12_findSpread 76 = .ok (.getfield 53, 3) := by decide +kernel
theorem dX12_findSpread_79 : decode cX12_findSpread 79 = .ok (.iload_n 3, 1) := by decide +kernel
theorem dX12_findSpread_80 : decode cX12_findSpread 80 = .ok (.iaload, 1) := by decide +kernel
theorem dX12_findSpread_81 : decode cX12_findSpread 81 = .ok (.ifCond .eq 22, 3) := by decide +kernel
theorem dX12_findSpread_84 : decode cX12_findSpread 84 = .ok (.aload_n 0, 1) := by decide +kernel
theorem dX12_findSpread_85 : decode cX12_findSpread 85 = .ok (.aload_n 0, 1) := by decide +kernel
theorem dX12_findSpread_86 : decode cX12_findSpread 86 = .ok (.iconst 0, 1) := by decide +kernel
theorem dX12_findSpread_87 : decode cX12_findSpread 87 = .ok (.iload_n 3, 1) := by decide +kernel
theorem dX12_findSpread_88 : decode cX12_findSpread 88 = .ok (.invokevirtual 260, 3) := by decide +kernel
theorem dX12_findSpread_91 : decode cX12_findSpread 91 = .ok (.aload_n 0, 1) := by decide +kernel
theorem dX12_findSpread_92 : decode cX12_findSpread 92 = .ok (.getfield 53, 3) := by decide +kernel
theorem dX12_findSpread_95 : decode cX12_findSpread 95 = .ok (.iload_n 3, 1) := by decide +kernel
theorem dX12_findSpread_96 : decode cX12_findSpread 96 = .ok (.iaload, 1) := by decide +kernel
theorem dX12_findSpread_97 : decode cX12_findSpread 97 = .ok (.invokevirtual 284, 3) := by decide +kernel
theorem dX12_findSpread_100 : decode cX12_findSpread 100 = .ok (.ifCond .eq 7, 3) := by decide +kernel
theorem dX12_findSpread_103 : decode cX12_findSpread 103 = .ok (.iconst 1, 1) := by decide +kernel
theorem dX12_findSpread_104 : decode cX12_findSpread 104 = .ok (.goto 4, 3) := by decide +kernel
theorem dX12_findSpread_107 : decode cX12_findSpread 107 = .ok (.iconst 0, 1) := by decide +kernel
theorem dX12_findSpread_108 : decode cX12_findSpread 108 = .ok (.istore_n 2, 1) := by decide +kernel
theorem dX12_findSpread_109 : decode cX12_findSpread 109 = .ok (.iinc 3 1, 3) := by decide +kernel
theorem dX12_findSpread_112 : decode cX12_findSpread 112 = .ok (.goto (-46), 3) := by decide +kernel
theorem dX12_findSpread_115 : decode cX12_findSpread 115 = .ok (.iload_n 2, 1) := by decide +kernel
theorem dX12_findSpread_116 : decode cX12_findSpread 116 = .ok (.ireturn, 1) := by decide +kernel
theorem dX12_spread_0 : decode cX12_spread 0 = .ok (.iload_n 1, 1) := by decide +kernel
theorem dX12_spread_1 : decode cX12_spread 1 = .ok (.invokestatic 147, 3) := by decide +kernel
theorem dX12_spread_4 : decode cX12_spread 4 = .ok (.ifCond .eq 13, 3) := by decide +kernel
theorem dX12_spread_7 : decode cX12_spread 7 = .ok (.iload_n 2, 1) := by decide +kernel
theorem dX12_spread_8 : decode cX12_spread 8 = .ok (.i2l, 1) := by decide +kernel
theorem dX12_spread_9 : decode cX12_spread 9 = .ok (.lconst 0, 1) := by decide +kernel
theorem dX12_spread_10 : decode cX12_spread 10 = .ok (.lconst 1, 1) := by decide +kernel
theorem dX12_spread_11 : decode cX12_spread 11 = .ok (.invokestatic 92, 3) := by decide +kernel
theorem dX12_spread_14 : decode cX12_spread 14 = .ok (.ifCond .ne 9, 3) := by decide +kernel
theorem dX12_spread_17 : decode cX12_spread 17 = .ok (.bipush (-2), 2) := by decide +kernel
theorem dX12_spread_19 : decode cX12_spread 19 = .ok (.invokestatic 198, 3) := by decide +kernel
theorem dX12_spread_22 : decode cX12_spread 22 = .ok (.lreturn, 1) := by decide +kernel
theorem dX12_spread_23 : decode cX12_spread 23 = .ok (.aload_n 0, 1) := by decide +kernel
theorem dX12_spread_24 : decode cX12_spread 24 = .ok (.iload_n 1, 1) := by decide +kernel
theorem dX12_spread_25 : decode cX12_spread 25 = .ok (.invokevirtual 287, 3) := by decide +kernel
theorem dX12_spread_28 : decode cX12_spread 28 = .ok (.ifCond .eq 21, 3) := by decide +kernel
theorem dX12_spread_31 : decode cX12_spread 31 = .ok (.iload_n 2, 1) := by decide +kernel
theorem dX12_spread_32 : decode cX12_spread 32 = .ok (.ifCond .ne 10, 3) := by decide +kernel
theorem dX12_spread_35 : decode cX12_spread 35 = .ok (.aload_n 0, 1) := by decide +kernel
theorem dX12_spread_36 : decode cX12_spread 36 = .ok (.getfield 272, 3) := by decide +kernel
theorem dX12_spread_39 : decode cX12_spread 39 = .ok (.goto 15, 3) := by decide +kernel
theorem dX12_spread_42 : decode cX12_spread 42 = .ok (.aload_n 0, 1) := by decide +kernel
theorem dX12_spread_43 : decode cX12_spread 43 = .ok (.getfield 275, 3) := by decide +kernel
theorem dX12_spread_46 : decode cX12_spread 46 = .ok (.goto 8, 3) := by decide +kernel
theorem dX12_spread_49 : decode cX12_spread 49 = .ok (.bipush (-3), 2) := by decide +kernel
theorem dX12_spread_51 : decode cX12_spread 51 = .ok (.invokestatic 198, 3) := by decide +kernel
theorem dX12_spread_54 : decode cX12_spread 54 = .ok (.lreturn, 1) := by decide +kernel
theorem dX12_wider_0 : decode cX12_wider 0 = .ok (.iload_n 1, 1) := by decide +kernel
theorem dX12_wider_1 : decode cX12_wider 1 = .ok (.invokestatic 147, 3) := by decide +kernel
theorem dX12_wider_4 : decode cX12_wider 4 = .ok (.ifCond .eq 10, 3) := by decide +kernel
theorem dX12_wider_7 : decode cX12_wider 7 = .ok (.iload_n 2, 1) := by decide +kernel
theorem dX12_wider_8 : decode cX12_wider 8 = .ok (.invokestatic 147, 3) := by decide +kernel
theorem dX12_wider_11 : decode cX12_wider 11 = .ok (.ifCond .ne 6, 3) := by decide +kernel
theorem dX12_wider_14 : decode cX12_wider 14 = .ok (.bipush (-2), 2) := by decide +kernel
theorem dX12_wider_16 : decode cX12_wider 16 = .ok (.ireturn, 1) := by decide +kernel
theorem dX12_wider_17 : decode cX12_wider 17 = .ok (.aload_n 0, 1) := by decide +kernel
theorem dX12_wider_18 : decode cX12_wider 18 = .ok (.iload_n 1, 1) := by decide +kernel
theorem dX12_wider_19 : decode cX12_wider 19 = .ok (.invokevirtual 287, 3) := by decide +kernel
theorem dX12_wider_22 : decode cX12_wider 22 = .ok (.ifCond .ne 6, 3) := by decide +kernel
theorem dX12_wider_25 : decode cX12_wider 25 = .ok (.bipush (-3), 2) := by decide +kernel
theorem dX12_wider_27 : decode cX12_wider 27 = .ok (.ireturn, 1) := by decide +kernel
theorem dX12_wider_28 : decode cX12_wider 28 = .ok (.aload_n 0, 1) := by decide +kernel
theorem dX12_wider_29 : decode cX12_wider 29 = .ok (.getfield 272, 3) := by decide +kernel
theorem dX12_wider_32 : decode cX12_wider 32 = .ok (.lstore_n 3, 1) := by decide +kernel
theorem dX12_wider_33 : decode cX12_wider 33 = .ok (.aload_n 0, 1) := by decide +kernel
theorem dX12_wider_34 : decode cX12_wider 34 = .ok (.getfield 275, 3) := by decide +kernel
theorem dX12_wider_37 : decode cX12_wider 37 = .ok (.lstore 5, 2) := by decide +kernel
theorem dX12_wider_39 : decode cX12_wider 39 = .ok (.aload_n 0, 1) := by decide +kernel
theorem dX12_wider_40 : decode cX12_wider 40 = .ok (.iload_n 2, 1) := by decide +kernel
theorem dX12_wider_41 : decode cX12_wider 41 = .ok (.invokevirtual 287, 3) := by decide +kernel
theorem dX12_wider_44 : decode cX12_wider 44 = .ok (.ifCond .ne 6, 3) := by decide +kernel
theorem dX12_wider_47 : decode cX12_wider 47 = .ok (.bipush (-3), 2) := by decide +kernel
theorem dX12_wider_49 : decode cX12_wider 49 = .ok (.ireturn, 1) := by decide +kernel
theorem dX12_wider_50 : decode cX12_wider 50 = .ok (.aload_n 0, 1) := by decide +kernel
theorem dX12_wider_51 : decode cX12_wider 51 = .ok (.getfield 272, 3) := by decide +kernel
theorem dX12_wider_54 : decode cX12_wider 54 = .ok (.lstore 7, 2) := by decide +kernel
theorem dX12_wider_56 : decode cX12_wider 56 = .ok (.aload_n 0, 1) := by decide +kernel
theorem dX12_wider_57 : decode cX12_wider 57 = .ok (.getfield 275, 3) := by decide +kernel
theorem dX12_wider_60 : decode cX12_wider 60 = .ok (.lstore 9, 2) := by decide +kernel
theorem dX12_wider_62 : decode cX12_wider 62 = .ok (.iconst 1, 1) := by decide +kernel
theorem dX12_wider_63 : decode cX12_wider 63 = .ok (.istore 11, 2) := by decide +kernel
theorem dX12_wider_65 : decode cX12_wider 65 = .ok (.lload_n 3, 1) := by decide +kernel
theorem dX12_wider_66 : decode cX12_wider 66 = .ok (.lload 5, 2) := by decide +kernel
theorem dX12_wider_68 : decode cX12_wider 68 = .ok (.ldiv, 1) := by decide +kernel
theorem dX12_wider_69 : decode cX12_wider 69 = .ok (.lstore 12, 2) := by decide +kernel
theorem dX12_wider_71 : decode cX12_wider 71 = .ok (.lload 7, 2) := by decide +kernel
theorem dX12_wider_73 : decode cX12_wider 73 = .ok (.lload 9, 2) := by decide +kernel
theorem dX12_wider_75 : decode cX12_wider 75 = .ok (.ldiv, 1) := by decide +kernel
theorem dX12_wider_76 : decode cX12_wider 76 = .ok (.lstore 14, 2) := by decide +kernel
theorem dX12_wider_78 : decode cX12_wider 78 = .ok (.lload 12, 2) := by decide +kernel
theorem dX12_wider_80 : decode cX12_wider 80 = .ok (.lload 14, 2) := by decide +kernel
theorem dX12_wider_82 : decode cX12_wider 82 = .ok (.lcmp, 1) := by decide +kernel
theorem dX12_wider_83 : decode cX12_wider 83 = .ok (.ifCond .eq 20, 3) := by decide +kernel
theorem dX12_wider_86 : decode cX12_wider 86 = .ok (.lload 12, 2) := by decide +kernel
theorem dX12_wider_88 : decode cX12_wider 88 = .ok (.lload 14, 2) := by decide +kernel
theorem dX12_wider_90 : decode cX12_wider 90 = .ok (.lcmp, 1) := by decide +kernel
theorem dX12_wider_91 : decode cX12_wider 91 = .ok (.ifCond .le 8, 3) := by decide +kernel
theorem dX12_wider_94 : decode cX12_wider 94 = .ok (.iload 11, 2) := by decide +kernel
theorem dX12_wider_96 : decode cX12_wider 96 = .ok (.goto 6, 3) := by decide +kernel
theorem dX12_wider_99 : decode cX12_wider 99 = .ok (.iload 11, 2) := by decide +kernel
theorem dX12_wider_101 : decode cX12_wider 101 = .ok (.ineg, 1) := by decide +kernel
theorem dX12_wider_102 : decode cX12_wider 102 = .ok (.ireturn, 1) := by decide +kernel
theorem dX12_wider_103 : decode cX12_wider 103 = .ok (.lload_n 3, 1) := by decide +kernel
theorem dX12_wider_104 : decode cX12_wider 104 = .ok (.lload 5, 2) := by decide +kernel
theorem dX12_wider_106 : decode cX12_wider 106 = .ok (.lrem, 1) := by decide +kernel
theorem dX12_wider_107 : decode cX12_wider 107 = .ok (.lstore_n 3, 1) := by decide +kernel
theorem dX12_wider_108 : decode cX12_wider 108 = .ok (.lload 7, 2) := by decide +kernel
theorem dX12_wider_110 : decode cX12_wider 110 = .ok (.lload 9, 2) := by decide +kernel
theorem dX12_wider_112 : decode cX12_wider 112 = .ok (.lrem, 1) := by decide +kernel
theorem dX12_wider_113 : decode cX12_wider 113 = .ok (.lstore 7, 2) := by decide +kernel
theorem dX12_wider_115 : decode cX12_wider 115 = .ok (.lload_n 3, 1) := by decide +kernel
theorem dX12_wider_116 : decode cX12_wider 116 = .ok (.lconst 0, 1) := by decide +kernel
theorem dX12_wider_117 : decode cX12_wider 117 = .ok (.lcmp, 1) := by decide +kernel
theorem dX12_wider_118 : decode cX12_wider 118 = .ok (.ifCond .eq 10, 3) := by decide +kernel
theorem dX12_wider_121 : decode cX12_wider 121 = .ok (.lload 7, 2) := by decide +kernel
theorem dX12_wider_123 : decode cX12_wider 123 = .ok (.lconst 0, 1) := by decide +kernel
theorem dX12_wider_124 : decode cX12_wider 124 = .ok (.lcmp, 1) := by decide +kernel
theorem dX12_wider_125 : decode cX12_wider 125 = .ok (.ifCond .ne 30, 3) := by decide +kernel
theorem dX12_wider_128 : decode cX12_wider 128 = .ok (.lload_n 3, 1) := by decide +kernel
theorem dX12_wider_129 : decode cX12_wider 129 = .ok (.lload 7, 2) := by decide +kernel
theorem dX12_wider_131 : decode cX12_wider 131 = .ok (.lcmp, 1) := by decide +kernel
theorem dX12_wider_132 : decode cX12_wider 132 = .ok (.ifCond .ne 7, 3) := by decide +kernel
theorem dX12_wider_135 : decode cX12_wider 135 = .ok (.iconst 0, 1) := by decide +kernel
theorem dX12_wider_136 : decode cX12_wider 136 = .ok (.goto 18, 3) := by decide +kernel
theorem dX12_wider_139 : decode cX12_wider 139 = .ok (.lload_n 3, 1) := by decide +kernel
theorem dX12_wider_140 : decode cX12_wider 140 = .ok (.lload 7, 2) := by decide +kernel
theorem dX12_wider_142 : decode cX12_wider 142 = .ok (.lcmp, 1) := by decide +kernel
theorem dX12_wider_143 : decode cX12_wider 143 = .ok (.ifCond .le 8, 3) := by decide +kernel
theorem dX12_wider_146 : decode cX12_wider 146 = .ok (.iload 11, 2) := by decide +kernel
theorem dX12_wider_148 : decode cX12_wider 148 = .ok (.goto 6, 3) := by decide +kernel
theorem dX12_wider_151 : decode cX12_wider 151 = .ok (.iload 11, 2) := by decide +kernel
theorem dX12_wider_153 : decode cX12_wider 153 = .ok (.ineg, 1) := by decide +kernel
theorem dX12_wider_154 : decode cX12_wider 154 = .ok (.ireturn, 1) := by decide +kernel
theorem dX12_wider_155 : decode cX12_wider 155 = .ok (.lload_n 3, 1) := by decide +kernel
theorem dX12_wider_156 : decode cX12_wider 156 = .ok (.lstore 16, 2) := by decide +kernel
theorem dX12_wider_158 : decode cX12_wider 158 = .ok (.lload 5, 2) := by decide +kernel
theorem dX12_wider_160 : decode cX12_wider 160 = .ok (.lstore_n 3, 1) := by decide +kernel
theorem dX12_wider_161 : decode cX12_wider 161 = .ok (.lload 16, 2) := by decide +kernel
theorem dX12_wider_163 : decode cX12_wider 163 = .ok (.lstore 5, 2) := by decide +kernel
theorem dX12_wider_165 : decode cX12_wider 165 = .ok (.lload 7, 2) := by decide +kernel
theorem dX12_wider_167 : decode cX12_wider 167 = .ok (.lstore 16, 2) := by decide +kernel
theorem dX12_wider_169 : decode cX12_wider 169 = .ok (.lload 9, 2) := by decide +kernel
theorem dX12_wider_171 : decode cX12_wider 171 = .ok (.lstore 7, 2) := by decide +kernel
theorem dX12_wider_173 : decode cX12_wider 173 = .ok (.lload 16, 2) := by decide +kernel
theorem dX12_wider_175 : decode cX12_wider 175 = .ok (.lstore 9, 2) := by decide +kernel
theorem dX12_wider_177 : decode cX12_wider 177 = .ok (.iload 11, 2) := by decide +kernel
theorem dX12_wider_179 : decode cX12_wider 179 = .ok (.ineg, 1) := by decide +kernel
theorem dX12_wider_180 : decode cX12_wider 180 = .ok (.istore 11, 2) := by decide +kernel
theorem dX12_wider_182 : decode cX12_wider 182 = .ok (.goto (-117), 3) := by decide +kernel
theorem dX12_edge_0 : decode cX12_edge 0 = .ok (.iload_n 1, 1) := by decide +kernel
theorem dX12_edge_1 : decode cX12_edge 1 = .ok (.invokestatic 147, 3) := by decide +kernel
theorem dX12_edge_4 : decode cX12_edge 4 = .ok (.ifCond .eq 13, 3) := by decide +kernel
theorem dX12_edge_7 : decode cX12_edge 7 = .ok (.iload_n 2, 1) := by decide +kernel
theorem dX12_edge_8 : decode cX12_edge 8 = .ok (.i2l, 1) := by decide +kernel
theorem dX12_edge_9 : decode cX12_edge 9 = .ok (.lconst 0, 1) := by decide +kernel
theorem dX12_edge_10 : decode cX12_edge 10 = .ok (.lconst 1, 1) := by decide +kernel
theorem dX12_edge_11 : decode cX12_edge 11 = .ok (.invokestatic 92, 3) := by decide +kernel
theorem dX12_edge_14 : decode cX12_edge 14 = .ok (.ifCond .ne 9, 3) := by decide +kernel
theorem dX12_edge_17 : decode cX12_edge 17 = .ok (.bipush (-2), 2) := by decide +kernel
theorem dX12_edge_19 : decode cX12_edge 19 = .ok (.invokestatic 198, 3) := by decide +kernel
theorem dX12_edge_22 : decode cX12_edge 22 = .ok (.lreturn, 1) := by decide +kernel
theorem dX12_edge_23 : decode cX12_edge 23 = .ok (.aload_n 0, 1) := by decide +kernel
theorem dX12_edge_24 : decode cX12_edge 24 = .ok (.iload_n 1, 1) := by decide +kernel
theorem dX12_edge_25 : decode cX12_edge 25 = .ok (.invokevirtual 188, 3) := by decide +kernel
theorem dX12_edge_28 : decode cX12_edge 28 = .ok (.ifCond .eq 10, 3) := by decide +kernel
theorem dX12_edge_31 : decode cX12_edge 31 = .ok (.aload_n 0, 1) := by decide +kernel
theorem dX12_edge_32 : decode cX12_edge 32 = .ok (.invokevirtual 220, 3) := by decide +kernel
theorem dX12_edge_35 : decode cX12_edge 35 = .ok (.ifCond .ne 9, 3) := by decide +kernel
theorem dX12_edge_38 : decode cX12_edge 38 = .ok (.bipush (-3), 2) := by decide +kernel
theorem dX12_edge_40 : decode cX12_edge 40 = .ok (.invokestatic 198, 3) := by decide +kernel
theorem dX12_edge_43 : decode cX12_edge 43 = .ok (.lreturn, 1) := by decide +kernel
theorem dX12_edge_44 : decode cX12_edge 44 = .ok (.lconst 0, 1) := by decide +kernel
theorem dX12_edge_45 : decode cX12_edge 45 = .ok (.lstore_n 3, 1) := by decide +kernel
theorem dX12_edge_46 : decode cX12_edge 46 = .ok (.aload_n 0, 1) := by decide +kernel
theorem dX12_edge_47 : decode cX12_edge 47 = .ok (.invokevirtual 202, 3) := by decide +kernel
theorem dX12_edge_50 : decode cX12_edge 50 = .ok (.l2i, 1) := by decide +kernel
theorem dX12_edge_51 : decode cX12_edge 51 = .ok (.istore 5, 2) := by decide +kernel
theorem dX12_edge_53 : decode cX12_edge 53 = .ok (.iconst 0, 1) := by decide +kernel
theorem dX12_edge_54 : decode cX12_edge 54 = .ok (.istore 6, 2) := by decide +kernel
theorem dX12_edge_56 : decode cX12_edge 56 = .ok (.iload 6, 2) := by decide +kernel
theorem dX12_edge_58 : decode cX12_edge 58 = .ok (.iload 5, 2) := by decide +kernel
theorem dX12_edge_60 : decode cX12_edge 60 = .ok (.if_icmp .ge 63, 3) := by decide +kernel
theorem dX12_edge_63 : decode cX12_edge 63 = .ok (.aload_n 0, 1) := by decide +kernel
theorem dX12_edge_64 : decode cX12_edge 64 = .ok (.aload_n 0, 1) := by decide +kernel
theorem dX12_edge_65 : decode cX12_edge 65 = .ok (.iload 6, 2) := by decide +kernel
theorem dX12_edge_67 : decode cX12_edge 67 = .ok (.invokevirtual 217, 3) := by decide +kernel
theorem dX12_edge_70 : decode cX12_edge 70 = .ok (.invokevirtual 281, 3) := by decide +kernel
theorem dX12_edge_73 : decode cX12_edge 73 = .ok (.aload_n 0, 1) := by decide +kernel
theorem dX12_edge_74 : decode cX12_edge 74 = .ok (.getfield 272, 3) := by decide +kernel
theorem dX12_edge_77 : decode cX12_edge 77 = .ok (.aload_n 0, 1) := by decide +kernel
theorem dX12_edge_78 : decode cX12_edge 78 = .ok (.getfield 275, 3) := by decide +kernel
theorem dX12_edge_81 : decode cX12_edge 81 = .ok (.ldiv, 1) := by decide +kernel
theorem dX12_edge_82 : decode cX12_edge 82 = .ok (.lstore 7, 2) := by decide +kernel
theorem dX12_edge_84 : decode cX12_edge 84 = .ok (.iload 6, 2) := by decide +kernel
theorem dX12_edge_86 : decode cX12_edge 86 = .ok (.ifCond .eq 24, 3) := by decide +kernel
theorem dX12_edge_89 : decode cX12_edge 89 = .ok (.iload_n 2, 1) := by decide +kernel
theorem dX12_edge_90 : decode cX12_edge 90 = .ok (.ifCond .ne 13, 3) := by decide +kernel
theorem dX12_edge_93 : decode cX12_edge 93 = .ok (.lload 7, 2) := by decide +kernel
theorem dX12_edge_95 : decode cX12_edge 95 = .ok (.lload_n 3, 1) := by decide +kernel
theorem dX12_edge_96 : decode cX12_edge 96 = .ok (.lcmp, 1) := by decide +kernel
theorem dX12_edge_97 : decode cX12_edge 97 = .ok (.ifCond .ge 18, 3) := by decide +kernel
theorem dX12_edge_100 : decode cX12_edge 100 = .ok (.goto 10, 3) := by decide +kernel
theorem dX12_edge_103 : decode cX12_edge 103 = .ok (.lload 7, 2) := by decide +kernel
theorem dX12_edge_105 : decode cX12_edge 105 = .ok (.lload_n 3, 1) := by decide +kernel
theorem dX12_edge_106 : decode cX12_edge 106 = .ok (.lcmp, 1) := by decide +kernel
theorem dX12_edge_107 : decode cX12_edge 107 = .ok (.ifCond .le 8, 3) := by decide +kernel
theorem dX12_edge_110 : decode cX12_edge 110 = .ok (.lload 7, 2) := by decide +kernel
theorem dX12_edge_112 : decode cX12_edge 112 = .ok (.goto 4, 3) := by decide +kernel
theorem dX12_edge_115 : decode cX12_edge 115 = .ok (.lload_n 3, 1) := by decide +kernel
theorem dX12_edge_116 : decode cX12_edge 116 = .ok (.lstore_n 3, 1) := by decide +kernel
theorem dX12_edge_117 : decode cX12_edge 117 = .ok (.iinc 6 1, 3) := by decide +kernel
theorem dX12_edge_120 : decode cX12_edge 120 = .ok (.goto (-64), 3) := by decide +kernel
theorem dX12_edge_123 : decode cX12_edge 123 = .ok (.lload_n 3, 1) := by decide +kernel
theorem dX12_edge_124 : decode cX12_edge 124 = .ok (.lreturn, 1) := by decide +kernel
theorem dX12_known_0 : decode cX12_known 0 = .ok (.iload_n 1, 1) := by decide +kernel
theorem dX12_known_1 : decode cX12_known 1 = .ok (.i2l, 1) := by decide +kernel
theorem dX12_known_2 : decode cX12_known 2 = .ok (.lconst 0, 1) := by decide +kernel
theorem dX12_known_3 : decode cX12_known 3 = .ok (.lconst 1, 1) := by decide +kernel
theorem dX12_known_4 : decode cX12_known 4 = .ok (.invokestatic 92, 3) := by decide +kernel
theorem dX12_known_7 : decode cX12_known 7 = .ok (.ifCond .eq 37, 3) := by decide +kernel
theorem dX12_known_10 : decode cX12_known 10 = .ok (.iload_n 2, 1) := by decide +kernel
theorem dX12_known_11 : decode cX12_known 11 = .ok (.i2l, 1) := by decide +kernel
theorem dX12_known_12 : decode cX12_known 12 = .ok (.lconst 0, 1) := by decide +kernel
theorem dX12_known_13 : decode cX12_known 13 = .ok (.iload_n 1, 1) := by decide +kernel
theorem dX12_known_14 : decode cX12_known 14 = .ok (.ifCond .ne 9, 3) := by decide +kernel
theorem dX12_known_17 : decode cX12_known 17 = .ok (.ldc2_w 90, 3) := by decide +kernel
theorem dX12_known_20 : decode cX12_known 20 = .ok (.goto 6, 3) := by decide +kernel
theorem dX12_known_23 : decode cX12_known 23 = .ok (.ldc2_w 100, 3) := by decide +kernel
theorem dX12_known_26 : decode cX12_known 26 = .ok (.invokestatic 92, 3) := by decide +kernel
theorem dX12_known_29 : decode cX12_known 29 = .ok (.ifCond .eq 15, 3) := by decide +kernel
theorem dX12_known_32 : decode cX12_known 32 = .ok (.iload_n 3, 1) := by decide +kernel
theorem dX12_known_33 : decode cX12_known 33 = .ok (.i2l, 1) := by decide +kernel
theorem dX12_known_34 : decode cX12_known 34 = .ok (.lconst 0, 1) := by decide +kernel
theorem dX12_known_35 : decode cX12_known 35 = .ok (.ldc2_w 290, 3) := by decide +kernel
theorem dX12_known_38 : decode cX12_known 38 = .ok (.invokestatic 92, 3) := by decide +kernel
theorem dX12_known_41 : decode cX12_known 41 = .ok (.ifCond .ne 6, 3) := by decide +kernel
theorem dX12_known_44 : decode cX12_known 44 = .ok (.bipush (-2), 2) := by decide +kernel
theorem dX12_known_46 : decode cX12_known 46 = .ok (.ireturn, 1) := by decide +kernel
theorem dX12_known_47 : decode cX12_known 47 = .ok (.iload_n 1, 1) := by decide +kernel
theorem dX12_known_48 : decode cX12_known 48 = .ok (.ifCond .ne 12, 3) := by decide +kernel
theorem dX12_known_51 : decode cX12_known 51 = .ok (.aload_n 0, 1) := by decide +kernel
theorem dX12_known_52 : decode cX12_known 52 = .ok (.getfield 63, 3) := by decide +kernel
theorem dX12_known_55 : decode cX12_known 55 = .ok (.iload_n 2, 1) := by decide +kernel
theorem dX12_known_56 : decode cX12_known 56 = .ok (.iaload, 1) := by decide +kernel
theorem dX12_known_57 : decode cX12_known 57 = .ok (.goto 9, 3) := by decide +kernel
theorem dX12_known_60 : decode cX12_known 60 = .ok (.aload_n 0, 1) := by decide +kernel
theorem dX12_known_61 : decode cX12_known 61 = .ok (.getfield 66, 3) := by decide +kernel
theorem dX12_known_64 : decode cX12_known 64 = .ok (.iload_n 2, 1) := by decide +kernel
theorem dX12_known_65 : decode cX12_known 65 = .ok (.iaload, 1) := by decide +kernel
theorem dX12_known_66 : decode cX12_known 66 = .ok (.istore 4, 2) := by decide +kernel
theorem dX12_known_68 : decode cX12_known 68 = .ok (.iload_n 1, 1) := by decide +kernel
theorem dX12_known_69 : decode cX12_known 69 = .ok (.ifCond .ne 13, 3) := by decide +kernel
theorem dX12_known_72 : decode cX12_known 72 = .ok (.aload_n 0, 1) := by decide +kernel
theorem dX12_known_73 : decode cX12_known 73 = .ok (.getfield 63, 3) := by decide +kernel
theorem dX12_known_76 : decode cX12_known 76 = .ok (.iload_n 2, 1) := by decide +kernel
theorem dX12_known_77 : decode cX12_known 77 = .ok (.iload_n 3, 1) := by decide +kernel
theorem dX12_known_78 : decode cX12_known 78 = .ok (.iastore, 1) := by decide +kernel
theorem dX12_known_79 : decode cX12_known 79 = .ok (.goto 10, 3) := by decide +kernel
theorem dX12_known_82 : decode cX12_known 82 = .ok (.aload_n 0, 1) := by decide +kernel
theorem dX12_known_83 : decode cX12_known 83 = .ok (.getfield 66, 3) := by decide +kernel
theorem dX12_known_86 : decode cX12_known 86 = .ok (.iload_n 2, 1) := by decide +kernel
theorem dX12_known_87 : decode cX12_known 87 = .ok (.iload_n 3, 1) := by decide +kernel
theorem dX12_known_88 : decode cX12_known 88 = .ok (.iastore, 1) := by decide +kernel
theorem dX12_known_89 : decode cX12_known 89 = .ok (.iload 4, 2) := by decide +kernel
theorem dX12_known_91 : decode cX12_known 91 = .ok (.ireturn, 1) := by decide +kernel
theorem dX12_isOf_0 : decode cX12_isOf 0 = .ok (.aload_n 0, 1) := by decide +kernel
theorem dX12_isOf_1 : decode cX12_isOf 1 = .ok (.getfield 72, 3) := by decide +kernel
theorem dX12_isOf_4 : decode cX12_isOf 4 = .ok (.iload_n 1, 1) := by decide +kernel
theorem dX12_isOf_5 : decode cX12_isOf 5 = .ok (.baload, 1) := by decide +kernel
theorem dX12_isOf_6 : decode cX12_isOf 6 = .ok (.ifCond .eq 30, 3) := by decide +kernel
theorem dX12_isOf_9 : decode cX12_isOf 9 = .ok (.iload_n 2, 1) := by decide +kernel
theorem dX12_isOf_10 : decode cX12_isOf 10 = .ok (.ifCond .ne 12, 3) := by decide +kernel
theorem dX12_isOf_13 : decode cX12_isOf 13 = .ok (.aload_n 0, 1) := by decide +kernel
theorem dX12_isOf_14 : decode cX12_isOf 14 = .ok (.getfield 22, 3) := by decide +kernel
theorem dX12_isOf_17 : decode cX12_isOf 17 = .ok (.iload_n 1, 1) := by decide +kernel
theorem dX12_isOf_18 : decode cX12_isOf 18 = .ok (.iaload, 1) := by decide +kernel
theorem dX12_isOf_19 : decode cX12_isOf 19 = .ok (.goto 9, 3) := by decide +kernel
theorem dX12_isOf_22 : decode cX12_isOf 22 = .ok (.aload_n 0, 1) := by decide +kernel
theorem dX12_isOf_23 : decode cX12_isOf 23 = .ok (.getfield 31, 3) := by decide +kernel
theorem dX12_isOf_26 : decode cX12_isOf 26 = .ok (.iload_n 1, 1) := by decide +kernel
theorem dX12_isOf_27 : decode cX12_isOf 27 = .ok (.iaload, 1) := by decide +kernel
theorem dX12_isOf_28 : decode cX12_isOf 28 = .ok (.iload_n 3, 1) := by decide +kernel
theorem dX12_isOf_29 : decode cX12_isOf 29 = .ok (.if_icmp .ne 7, 3) := by decide +kernel
theorem dX12_isOf_32 : decode cX12_isOf 32 = .ok (.iconst 1, 1) := by decide +kernel
theorem dX12_isOf_33 : decode cX12_isOf 33 = .ok (.goto 4, 3) := by decide +kernel
theorem dX12_isOf_36 : decode cX12_isOf 36 = .ok (.iconst 0, 1) := by decide +kernel
theorem dX12_isOf_37 : decode cX12_isOf 37 = .ok (.ireturn, 1) := by decide +kernel
theorem dX12_weightOf_0 : decode cX12_weightOf 0 = .ok (.lconst 0, 1) := by decide +kernel
theorem dX12_weightOf_1 : decode cX12_weightOf 1 = .ok (.lstore_n 3, 1) := by decide +kernel
theorem dX12_weightOf_2 : decode cX12_weightOf 2 = .ok (.iconst 0, 1) := by decide +kernel
theorem dX12_weightOf_3 : decode cX12_weightOf 3 = .ok (.istore 5, 2) := by decide +kernel
theorem dX12_weightOf_5 : decode cX12_weightOf 5 = .ok (.iload 5, 2) := by decide +kernel
theorem dX12_weightOf_7 : decode cX12_weightOf 7 = .ok (.aload_n 0, 1) := by decide +kernel
theorem dX12_weightOf_8 : decode cX12_weightOf 8 = .ok (.getfield 115, 3) := by decide +kernel
theorem dX12_weightOf_11 : decode cX12_weightOf 11 = .ok (.if_icmp .ge 34, 3) := by decide +kernel
theorem dX12_weightOf_14 : decode cX12_weightOf 14 = .ok (.lload_n 3, 1) := by decide +kernel
theorem dX12_weightOf_15 : decode cX12_weightOf 15 = .ok (.aload_n 0, 1) := by decide +kernel
theorem dX12_weightOf_16 : decode cX12_weightOf 16 = .ok (.iload 5, 2) := by decide +kernel
theorem dX12_weightOf_18 : decode cX12_weightOf 18 = .ok (.iload_n 1, 1) := by decide +kernel
theorem dX12_weightOf_19 : decode cX12_weightOf 19 = .ok (.iload_n 2, 1) := by decide +kernel
theorem dX12_weightOf_20 : decode cX12_weightOf 20 = .ok (.invokevirtual 292, 3) := by decide +kernel
theorem dX12_weightOf_23 : decode cX12_weightOf 23 = .ok (.ifCond .eq 13, 3) := by decide +kernel
theorem dX12_weightOf_26 : decode cX12_weightOf 26 = .ok (.aload_n 0, 1) := by decide +kernel
theorem dX12_weightOf_27 : decode cX12_weightOf 27 = .ok (.getfield 69, 3) := by decide +kernel
theorem dX12_weightOf_30 : decode cX12_weightOf 30 = .ok (.iload 5, 2) := by decide +kernel
theorem dX12_weightOf_32 : decode cX12_weightOf 32 = .ok (.laload, 1) := by decide +kernel
theorem dX12_weightOf_33 : decode cX12_weightOf 33 = .ok (.goto 4, 3) := by decide +kernel
theorem dX12_weightOf_36 : decode cX12_weightOf 36 = .ok (.lconst 0, 1) := by decide +kernel
theorem dX12_weightOf_37 : decode cX12_weightOf 37 = .ok (.ladd, 1) := by decide +kernel
theorem dX12_weightOf_38 : decode cX12_weightOf 38 = .ok (.lstore_n 3, 1) := by decide +kernel
theorem dX12_weightOf_39 : decode cX12_weightOf 39 = .ok (.iinc 5 1, 3) := by decide +kernel
theorem dX12_weightOf_42 : decode cX12_weightOf 42 = .ok (.goto (-37), 3) := by decide +kernel
theorem dX12_weightOf_45 : decode cX12_weightOf 45 = .ok (.lload_n 3, 1) := by decide +kernel
theorem dX12_weightOf_46 : decode cX12_weightOf 46 = .ok (.lreturn, 1) := by decide +kernel
theorem dX12_parts_0 : decode cX12_parts 0 = .ok (.aload_n 0, 1) := by decide +kernel
theorem dX12_parts_1 : decode cX12_parts 1 = .ok (.iload_n 1, 1) := by decide +kernel
theorem dX12_parts_2 : decode cX12_parts 2 = .ok (.iload_n 2, 1) := by decide +kernel
theorem dX12_parts_3 : decode cX12_parts 3 = .ok (.invokevirtual 296, 3) := by decide +kernel
theorem dX12_parts_6 : decode cX12_parts 6 = .ok (.lstore_n 3, 1) := by decide +kernel
theorem dX12_parts_7 : decode cX12_parts 7 = .ok (.lload_n 3, 1) := by decide +kernel
theorem dX12_parts_8 : decode cX12_parts 8 = .ok (.lconst 0, 1) := by decide +kernel
theorem dX12_parts_9 : decode cX12_parts 9 = .ok (.lcmp, 1) := by decide +kernel
theorem dX12_parts_10 : decode cX12_parts 10 = .ok (.ifCond .ne 4, 3) := by decide +kernel
theorem dX12_parts_13 : decode cX12_parts 13 = .ok (.return_, 1) := by decide +kernel
theorem dX12_parts_14 : decode cX12_parts 14 = .ok (.iload_n 1, 1) := by decide +kernel
theorem dX12_parts_15 : decode cX12_parts 15 = .ok (.ifCond .ne 13, 3) := by decide +kernel
theorem dX12_parts_18 : decode cX12_parts 18 = .ok (.aload_n 0, 1) := by decide +kernel
theorem dX12_parts_19 : decode cX12_parts 19 = .ok (.getfield 63, 3) := by decide +kernel
theorem dX12_parts_22 : decode cX12_parts 22 = .ok (.iload_n 2, 1) := by decide +kernel
theorem dX12_parts_23 : decode cX12_parts 23 = .ok (.iaload, 1) := by decide +kernel
theorem dX12_parts_24 : decode cX12_parts 24 = .ok (.i2l, 1) := by decide +kernel
theorem dX12_parts_25 : decode cX12_parts 25 = .ok (.goto 10, 3) := by decide +kernel
theorem dX12_parts_28 : decode cX12_parts 28 = .ok (.aload_n 0, 1) := by decide +kernel
theorem dX12_parts_29 : decode cX12_parts 29 = .ok (.getfield 66, 3) := by decide +kernel
theorem dX12_parts_32 : decode cX12_parts 32 = .ok (.iload_n 2, 1) := by decide +kernel
theorem dX12_parts_33 : decode cX12_parts 33 = .ok (.iaload, 1) := by decide +kernel
theorem dX12_parts_34 : decode cX12_parts 34 = .ok (.i2l, 1) := by decide +kernel
theorem dX12_parts_35 : decode cX12_parts 35 = .ok (.lstore 5, 2) := by decide +kernel
theorem dX12_parts_37 : decode cX12_parts 37 = .ok (.lload 5, 2) := by decide +kernel
theorem dX12_parts_39 : decode cX12_parts 39 = .ok (.lstore 7, 2) := by decide +kernel
theorem dX12_parts_41 : decode cX12_parts 41 = .ok (.iconst 0, 1) := by decide +kernel
theorem dX12_parts_42 : decode cX12_parts 42 = .ok (.istore 9, 2) := by decide +kernel
theorem dX12_parts_44 : decode cX12_parts 44 = .ok (.iload 9, 2) := by decide +kernel
theorem dX12_parts_46 : decode cX12_parts 46 = .ok (.aload_n 0, 1) := by decide +kernel
theorem dX12_parts_47 : decode cX12_parts 47 = .ok (.getfield 115, 3) := by decide +kernel
theorem dX12_parts_50 : decode cX12_parts 50 = .ok (.if_icmp .ge 76, 3) := by decide +kernel
theorem dX12_parts_53 : decode cX12_parts 53 = .ok (.aload_n 0, 1) := by decide +kernel
theorem dX12_parts_54 : decode cX12_parts 54 = .ok (.getfield 76, 3) := by decide +kernel
theorem dX12_parts_57 : decode cX12_parts 57 = .ok (.iload 9, 2) := by decide +kernel
theorem dX12_parts_59 : decode cX12_parts 59 = .ok (.ldc2_w 299, 3) := by decide +kernel
theorem dX12_parts_62 : decode cX12_parts 62 = .ok (.lastore, 1) := by decide +kernel
theorem dX12_parts_63 : decode cX12_parts 63 = .ok (.aload_n 0, 1) := by decide +kernel
theorem dX12_parts_64 : decode cX12_parts 64 = .ok (.iload 9, 2) := by decide +kernel
theorem dX12_parts_66 : decode cX12_parts 66 = .ok (.iload_n 1, 1) := by decide +kernel
theorem dX12_parts_67 : decode cX12_parts 67 = .ok (.iload_n 2, 1) := by decide +kernel
theorem dX12_parts_68 : decode cX12_parts 68 = .ok (.invokevirtual 292, 3) := by decide +kernel
theorem dX12_parts_71 : decode cX12_parts 71 = .ok (.ifCond .eq 49, 3) := by decide +kernel
theorem dX12_parts_74 : decode cX12_parts 74 = .ok (.lload 5, 2) := by decide +kernel
theorem dX12_parts_76 : decode cX12_parts 76 = .ok (.aload_n 0, 1) := by decide +kernel
theorem dX12_parts_77 : decode cX12_parts 77 = .ok (.getfield 69, 3) := by decide +kernel
theorem dX12_parts_80 : decode cX12_parts 80 = .ok (.iload 9, 2) := by decide +kernel
theorem dX12_parts_82 : decode cX12_parts 82 = .ok (.laload, 1) := by decide +kernel
theorem dX12_parts_83 : decode cX12_parts 83 = .ok (.lmul, 1) := by decide +kernel
theorem dX12_parts_84 : decode cX12_parts 84 = .ok (.lstore 10, 2) := by decide +kernel
theorem dX12_parts_86 : decode cX12_parts 86 = .ok (.aload_n 0, 1) := by decide +kernel
theorem dX12_parts_87 : decode cX12_parts 87 = .ok (.getfield 69, 3) := by decide +kernel
theorem dX12_parts_90 : decode cX12_parts 90 = .ok (.iload 9, 2) := by decide +kernel
theorem dX12_parts_92 : decode cX12_parts 92 = .ok (.lload 10, 2) := by decide +kernel
theorem dX12_parts_94 : decode cX12_parts 94 = .ok (.lload_n 3, 1) := by decide +kernel
theorem dX12_parts_95 : decode cX12_parts 95 = .ok (.ldiv, 1) := by decide +kernel
theorem dX12_parts_96 : decode cX12_parts 96 = .ok (.lastore, 1) := by decide +kernel
theorem dX12_parts_97 : decode cX12_parts 97 = .ok (.aload_n 0, 1) := by decide +kernel
theorem dX12_parts_98 : decode cX12_parts 98 = .ok (.getfield 76, 3) := by decide +kernel
theorem dX12_parts_101 : decode cX12_parts 101 = .ok (.iload 9, 2) := by decide +kernel
theorem dX12_parts_103 : decode cX12_parts 103 = .ok (.lload 10, 2) := by decide +kernel
theorem dX12_parts_105 : decode cX12_parts 105 = .ok (.lload_n 3, 1) := by decide +kernel
theorem dX12_parts_106 : decode cX12_parts 106 = .ok (.lrem, 1) := by decide +kernel
theorem dX12_parts_107 : decode cX12_parts 107 = .ok (.lastore, 1) := by decide +kernel
theorem dX12_parts_108 : decode cX12_parts 108 = .ok (.lload 7, 2) := by decide +kernel
theorem dX12_parts_110 : decode cX12_parts 110 = .ok (.aload_n 0, 1) := by decide +kernel
theorem dX12_parts_111 : decode cX12_parts 111 = .ok (.getfield 69, 3) := by decide +kernel
theorem dX12_parts_114 : decode cX12_parts 114 = .ok (.iload 9, 2) := by decide +kernel
theorem dX12_parts_116 : decode cX12_parts 116 = .ok (.laload, 1) := by decide +kernel
theorem dX12_parts_117 : decode cX12_parts 117 = .ok (.lsub, 1) := by decide +kernel
theorem dX12_parts_118 : decode cX12_parts 118 = .ok (.lstore 7, 2) := by decide +kernel
theorem dX12_parts_120 : decode cX12_parts 120 = .ok (.iinc 9 1, 3) := by decide +kernel
theorem dX12_parts_123 : decode cX12_parts 123 = .ok (.goto (-79), 3) := by decide +kernel
theorem dX12_parts_126 : decode cX12_parts 126 = .ok (.lload 7, 2) := by decide +kernel
theorem dX12_parts_128 : decode cX12_parts 128 = .ok (.lconst 0, 1) := by decide +kernel
theorem dX12_parts_129 : decode cX12_parts 129 = .ok (.lcmp, 1) := by decide +kernel
theorem dX12_parts_130 : decode cX12_parts 130 = .ok (.ifCond .le 81, 3) := by decide +kernel
theorem dX12_parts_133 : decode cX12_parts 133 = .ok (.iconst 0, 1) := by decide +kernel
theorem dX12_parts_134 : decode cX12_parts 134 = .ok (.istore 9, 2) := by decide +kernel
theorem dX12_parts_136 : decode cX12_parts 136 = .ok (.iconst 1, 1) := by decide +kernel
theorem dX12_parts_137 : decode cX12_parts 137 = .ok (.istore 10, 2) := by decide +kernel
theorem dX12_parts_139 : decode cX12_parts 139 = .ok (.iload 10, 2) := by decide +kernel
theorem dX12_parts_141 : decode cX12_parts 141 = .ok (.aload_n 0, 1) := by decide +kernel
theorem dX12_parts_142 : decode cX12_parts 142 = .ok (.getfield 115, 3) := by decide +kernel
theorem dX12_parts_145 : decode cX12_parts 145 = .ok (.if_icmp .ge 36, 3) := by decide +kernel
theorem dX12_parts_148 : decode cX12_parts 148 = .ok (.aload_n 0, 1) := by decide +kernel
theorem dX12_parts_149 : decode cX12_parts 149 = .ok (.getfield 76, 3) := by decide +kernel
theorem dX12_parts_152 : decode cX12_parts 152 = .ok (.iload 10, 2) := by decide +kernel
theorem dX12_parts_154 : decode cX12_parts 154 = .ok (.laload, 1) := by decide +kernel
theorem dX12_parts_155 : decode cX12_parts 155 = .ok (.aload_n 0, 1) := by decide +kernel
theorem dX12_parts_156 : decode cX12_parts 156 = .ok (.getfield 76, 3) := by decide +kernel
theorem dX12_parts_159 : decode cX12_parts 159 = .ok (.iload 9, 2) := by decide +kernel
theorem dX12_parts_161 : decode cX12_parts 161 = .ok (.laload, 1) := by decide +kernel
theorem dX12_parts_162 : decode cX12_parts 162 = .ok (.lcmp, 1) := by decide +kernel
theorem dX12_parts_163 : decode cX12_parts 163 = .ok (.ifCond .le 8, 3) := by decide +kernel
theorem dX12_parts_166 : decode cX12_parts 166 = .ok (.iload 10, 2) := by decide +kernel
theorem dX12_parts_168 : decode cX12_parts 168 = .ok (.goto 5, 3) := by decide +kernel
theorem dX12_parts_171 : decode cX12_parts 171 = .ok (.iload 9, 2) := by decide +kernel
theorem dX12_parts_173 : decode cX12_parts 173 = .ok (.istore 9, 2) := by decide +kernel
theorem dX12_parts_175 : decode cX12_parts 175 = .ok (.iinc 10 1, 3) := by decide +kernel
theorem dX12_parts_178 : decode cX12_parts 178 = .ok (.goto (-39), 3) := by decide +kernel
theorem dX12_parts_181 : decode cX12_parts 181 = .ok (.aload_n 0, 1) := by decide +kernel
theorem dX12_parts_182 : decode cX12_parts 182 = .ok (.getfield 69, 3) := by decide +kernel
theorem dX12_parts_185 : decode cX12_parts 185 = .ok (.iload 9, 2) := by decide +kernel
theorem dX12_parts_187 : decode cX12_parts 187 = .ok (.dup2, 1) := by decide +kernel
theorem dX12_parts_188 : decode cX12_parts 188 = .ok (.laload, 1) := by decide +kernel
theorem dX12_parts_189 : decode cX12_parts 189 = .ok (.lconst 1, 1) := by decide +kernel
theorem dX12_parts_190 : decode cX12_parts 190 = .ok (.ladd, 1) := by decide +kernel
theorem dX12_parts_191 : decode cX12_parts 191 = .ok (.lastore, 1) := by decide +kernel
theorem dX12_parts_192 : decode cX12_parts 192 = .ok (.aload_n 0, 1) := by decide +kernel
theorem dX12_parts_193 : decode cX12_parts 193 = .ok (.getfield 76, 3) := by decide +kernel
theorem dX12_parts_196 : decode cX12_parts 196 = .ok (.iload 9, 2) := by decide +kernel
theorem dX12_parts_198 : decode cX12_parts 198 = .ok (.ldc2_w 137, 3) := by decide +kernel
theorem dX12_parts_201 : decode cX12_parts 201 = .ok (.lastore, 1) := by decide +kernel
theorem dX12_parts_202 : decode cX12_parts 202 = .ok (.lload 7, 2) := by decide +kernel
theorem dX12_parts_204 : decode cX12_parts 204 = .ok (.lconst 1, 1) := by decide +kernel
theorem dX12_parts_205 : decode cX12_parts 205 = .ok (.lsub, 1) := by decide +kernel
theorem dX12_parts_206 : decode cX12_parts 206 = .ok (.lstore 7, 2) := by decide +kernel
theorem dX12_parts_208 : decode cX12_parts 208 = .ok (.goto (-82), 3) := by decide +kernel
theorem dX12_parts_211 : decode cX12_parts 211 = .ok (.return_, 1) := by decide +kernel
theorem dX12_findWeights_0 : decode cX12_findWeights 0 = .ok (.iconst 0, 1) := by decide +kernel
theorem dX12_findWeights_1 : decode cX12_findWeights 1 = .ok (.istore_n 3, 1) := by decide +kernel
theorem dX12_findWeights_2 : decode cX12_findWeights 2 = .ok (.iload_n 3, 1) := by decide +kernel
theorem dX12_findWeights_3 : decode cX12_findWeights 3 = .ok (.aload_n 0, 1) := by decide +kernel
theorem dX12_findWeights_4 : decode cX12_findWeights 4 = .ok (.getfield 115, 3) := by decide +kernel
theorem dX12_findWeights_7 : decode cX12_findWeights 7 = .ok (.if_icmp .ge 78, 3) := by decide +kernel
theorem dX12_findWeights_10 : decode cX12_findWeights 10 = .ok (.aload_n 0, 1) := by decide +kernel
theorem dX12_findWeights_11 : decode cX12_findWeights 11 = .ok (.getfield 72, 3) := by decide +kernel
theorem dX12_findWeights_14 : decode cX12_findWeights 14 = .ok (.iload_n 3, 1) := by decide +kernel
theorem dX12_findWeights_15 : decode cX12_findWeights 15 = .ok (.iload_n 1, 1) := by decide +kernel
theorem dX12_findWeights_16 : decode cX12_findWeights 16 = .ok (.iload_n 3, 1) := by decide +kernel
theorem dX12_findWeights_17 : decode cX12_findWeights 17 = .ok (.ishr, 1) := by decide +kernel
theorem dX12_findWeights_18 : decode cX12_findWeights 18 = .ok (.iconst 1, 1) := by decide +kernel
theorem dX12_findWeights_19 : decode cX12_findWeights 19 = .ok (.iand, 1) := by decide +kernel
theorem dX12_findWeights_20 : decode cX12_findWeights 20 = .ok (.iconst 1, 1) := by decide +kernel
theorem dX12_findWeights_21 : decode cX12_findWeights 21 = .ok (.if_icmp .ne 16, 3) := by decide +kernel
theorem dX12_findWeights_24 : decode cX12_findWeights 24 = .ok (.aload_n 0, 1) := by decide +kernel
theorem dX12_findWeights_25 : decode cX12_findWeights 25 = .ok (.iload_n 3, 1) := by decide +kernel
theorem dX12_findWeights_26 : decode cX12_findWeights 26 = .ok (.invokevirtual 134, 3) := by decide +kernel
theorem dX12_findWeights_29 : decode cX12_findWeights 29 = .ok (.iconst (-1), 1) := by decide +kernel
theorem dX12_findWeights_30 : decode cX12_findWeights 30 = .ok (.if_icmp .eq 7, 3) := by decide +kernel
theorem dX12_findWeights_33 : decode cX12_findWeights 33 = .ok (.iconst 1, 1) := by decide +kernel
theorem dX12_findWeights_34 : decode cX12_findWeights 34 = .ok (.goto 4, 3) := by decide +kernel
theorem dX12_findWeights_37 : decode cX12_findWeights 37 = .ok (.iconst 0, 1) := by decide +kernel
theorem dX12_findWeights_38 : decode cX12_findWeights 38 = .ok (.bastore, 1) := by decide +kernel
theorem dX12_findWeights_39 : decode cX12_findWeights 39 = .ok (.aload_n 0, 1) := by decide +kernel
theorem dX12_findWeights_40 : decode cX12_findWeights 40 = .ok (.getfield 69, 3) := by decide +kernel
theorem dX12_findWeights_43 : decode cX12_findWeights 43 = .ok (.iload_n 3, 1) := by decide +kernel
theorem dX12_findWeights_44 : decode cX12_findWeights 44 = .ok (.lconst 0, 1) := by decide +kernel
theorem dX12_findWeights_45 : decode cX12_findWeights 45 = .ok (.lastore, 1) := by decide +kernel
theorem dX12_findWeights_46 : decode cX12_findWeights 46 = .ok (.aload_n 0, 1) := by decide +kernel
theorem dX12_findWeights_47 : decode cX12_findWeights 47 = .ok (.getfield 72, 3) := by decide +kernel
theorem dX12_findWeights_50 : decode cX12_findWeights 50 = .ok (.iload_n 3, 1) := by decide +kernel
theorem dX12_findWeights_51 : decode cX12_findWeights 51 = .ok (.baload, 1) := by decide +kernel
theorem dX12_findWeights_52 : decode cX12_findWeights 52 = .ok (.ifCond .eq 27, 3) := by decide +kernel
theorem dX12_findWeights_55 : decode cX12_findWeights 55 = .ok (.aload_n 0, 1) := by decide +kernel
theorem dX12_findWeights_56 : decode cX12_findWeights 56 = .ok (.iload_n 3, 1) := by decide +kernel
theorem dX12_findWeights_57 : decode cX12_findWeights 57 = .ok (.invokevirtual 230, 3) := by decide +kernel
theorem dX12_findWeights_60 : decode cX12_findWeights 60 = .ok (.aload_n 0, 1) := by decide +kernel
theorem dX12_findWeights_61 : decode cX12_findWeights 61 = .ok (.getfield 69, 3) := by decide +kernel
theorem dX12_findWeights_64 : decode cX12_findWeights 64 = .ok (.iload_n 3, 1) := by decide +kernel
theorem dX12_findWeights_65 : decode cX12_findWeights 65 = .ok (.ldc2_w 301, 3) := by decide +kernel
theorem dX12_findWeights_68 : decode cX12_findWeights 68 = .ok (.aload_n 0, 1) := by decide +kernel
theorem dX12_findWeights_69 : decode cX12_findWeights 69 = .ok (.getfield 214, 3) := by decide +kernel
theorem dX12_findWeights_72 : decode cX12_findWeights 72 = .ok (.lmul, 1) := by decide +kernel
theorem dX12_findWeights_73 : decode cX12_findWeights 73 = .ok (.aload_n 0, 1) := by decide +kernel
theorem dX12_findWeights_74 : decode cX12_findWeights 74 = .ok (.getfield 210, 3) := by decide +kernel
theorem dX12_findWeights_77 : decode cX12_findWeights 77 = .ok (.ldiv, 1) := by decide +kernel
theorem dX12_findWeights_78 : decode cX12_findWeights 78 = .ok (.lastore, 1) := by decide +kernel
theorem dX12_findWeights_79 : decode cX12_findWeights 79 = .ok (.iinc 3 1, 3) := by decide +kernel
theorem dX12_findWeights_82 : decode cX12_findWeights 82 = .ok (.goto (-80), 3) := by decide +kernel
theorem dX12_findWeights_85 : decode cX12_findWeights 85 = .ok (.iconst 0, 1) := by decide +kernel
theorem dX12_findWeights_86 : decode cX12_findWeights 86 = .ok (.istore_n 3, 1) := by decide +kernel
theorem dX12_findWeights_87 : decode cX12_findWeights 87 = .ok (.iload_n 3, 1) := by decide +kernel
theorem dX12_findWeights_88 : decode cX12_findWeights 88 = .ok (.iload_n 2, 1) := by decide +kernel
theorem dX12_findWeights_89 : decode cX12_findWeights 89 = .ok (.if_icmp .ge 53, 3) := by decide +kernel
theorem dX12_findWeights_92 : decode cX12_findWeights 92 = .ok (.iconst 0, 1) := by decide +kernel
theorem dX12_findWeights_93 : decode cX12_findWeights 93 = .ok (.istore 4, 2) := by decide +kernel
theorem dX12_findWeights_95 : decode cX12_findWeights 95 = .ok (.iload 4, 2) := by decide +kernel
theorem dX12_findWeights_97 : decode cX12_findWeights 97 = .ok (.iconst 4, 1) := by decide +kernel
theorem dX12_findWeights_98 : decode cX12_findWeights 98 = .ok (.if_icmp .ge 16, 3) := by decide +kernel
theorem dX12_findWeights_101 : decode cX12_findWeights 101 = .ok (.aload_n 0, 1) := by decide +kernel
theorem dX12_findWeights_102 : decode cX12_findWeights 102 = .ok (.iconst 0, 1) := by decide +kernel
theorem dX12_findWeights_103 : decode cX12_findWeights 103 = .ok (.iload 4, 2) := by decide +kernel
theorem dX12_findWeights_105 : decode cX12_findWeights 105 = .ok (.invokevirtual 303, 3) := by decide +kernel
theorem dX12_findWeights_108 : decode cX12_findWeights 108 = .ok (.iinc 4 1, 3) := by decide +kernel
theorem dX12_findWeights_111 : decode cX12_findWeights 111 = .ok (.goto (-16), 3) := by decide +kernel
theorem dX12_findWeights_114 : decode cX12_findWeights 114 = .ok (.iconst 0, 1) := by decide +kernel
theorem dX12_findWeights_115 : decode cX12_findWeights 115 = .ok (.istore 4, 2) := by decide +kernel
theorem dX12_findWeights_117 : decode cX12_findWeights 117 = .ok (.iload 4, 2) := by decide +kernel
theorem dX12_findWeights_119 : decode cX12_findWeights 119 = .ok (.iconst 3, 1) := by decide +kernel
theorem dX12_findWeights_120 : decode cX12_findWeights 120 = .ok (.if_icmp .ge 16, 3) := by decide +kernel
theorem dX12_findWeights_123 : decode cX12_findWeights 123 = .ok (.aload_n 0, 1) := by decide +kernel
theorem dX12_findWeights_124 : decode cX12_findWeights 124 = .ok (.iconst 1, 1) := by decide +kernel
theorem dX12_findWeights_125 : decode cX12_findWeights 125 = .ok (.iload 4, 2) := by decide +kernel
theorem dX12_findWeights_127 : decode cX12_findWeights 127 = .ok (.invokevirtual 303, 3) := by decide +kernel
theorem dX12_findWeights_130 : decode cX12_findWeights 130 = .ok (.iinc 4 1, 3) := by decide +kernel
theorem dX12_findWeights_133 : decode cX12_findWeights 133 = .ok (.goto (-16), 3) := by decide +kernel
theorem dX12_findWeights_136 : decode cX12_findWeights 136 = .ok (.iinc 3 1, 3) := by decide +kernel
theorem dX12_findWeights_139 : decode cX12_findWeights 139 = .ok (.goto (-52), 3) := by decide +kernel
theorem dX12_findWeights_142 : decode cX12_findWeights 142 = .ok (.return_, 1) := by decide +kernel
theorem dX12_weight_0 : decode cX12_weight 0 = .ok (.iload_n 3, 1) := by decide +kernel
theorem dX12_weight_1 : decode cX12_weight 1 = .ok (.i2l, 1) := by decide +kernel
theorem dX12_weight_2 : decode cX12_weight 2 = .ok (.lconst 0, 1) := by decide +kernel
theorem dX12_weight_3 : decode cX12_weight 3 = .ok (.ldc2_w 176, 3) := by decide +kernel
theorem dX12_weight_6 : decode cX12_weight 6 = .ok (.invokestatic 92, 3) := by decide +kernel
theorem dX12_weight_9 : decode cX12_weight 9 = .ok (.ifCond .eq 12, 3) := by decide +kernel
theorem dX12_weight_12 : decode cX12_weight 12 = .ok (.aload_n 0, 1) := by decide +kernel
theorem dX12_weight_13 : decode cX12_weight 13 = .ok (.iload 4, 2) := by decide +kernel
theorem dX12_weight_15 : decode cX12_weight 15 = .ok (.invokevirtual 131, 3) := by decide +kernel
theorem dX12_weight_18 : decode cX12_weight 18 = .ok (.ifCond .ne 6, 3) := by decide +kernel
theorem dX12_weight_21 : decode cX12_weight 21 = .ok (.bipush (-2), 2) := by decide +kernel
theorem dX12_weight_23 : decode cX12_weight 23 = .ok (.ireturn, 1) := by decide +kernel
theorem dX12_weight_24 : decode cX12_weight 24 = .ok (.aload_n 0, 1) := by decide +kernel
theorem dX12_weight_25 : decode cX12_weight 25 = .ok (.iload_n 1, 1) := by decide +kernel
theorem dX12_weight_26 : decode cX12_weight 26 = .ok (.iload_n 2, 1) := by decide +kernel
theorem dX12_weight_27 : decode cX12_weight 27 = .ok (.invokevirtual 278, 3) := by decide +kernel
theorem dX12_weight_30 : decode cX12_weight 30 = .ok (.istore 5, 2) := by decide +kernel
theorem dX12_weight_32 : decode cX12_weight 32 = .ok (.iload 5, 2) := by decide +kernel
theorem dX12_weight_34 : decode cX12_weight 34 = .ok (.ifCond .eq 6, 3) := by decide +kernel
theorem dX12_weight_37 : decode cX12_weight 37 = .ok (.iload 5, 2) := by decide +kernel
theorem dX12_weight_39 : decode cX12_weight 39 = .ok (.ireturn, 1) := by decide +kernel
theorem dX12_weight_40 : decode cX12_weight 40 = .ok (.aload_n 0, 1) := by decide +kernel
theorem dX12_weight_41 : decode cX12_weight 41 = .ok (.iload_n 2, 1) := by decide +kernel
theorem dX12_weight_42 : decode cX12_weight 42 = .ok (.iload_n 3, 1) := by decide +kernel
theorem dX12_weight_43 : decode cX12_weight 43 = .ok (.invokevirtual 306, 3) := by decide +kernel
theorem dX12_weight_46 : decode cX12_weight 46 = .ok (.aload_n 0, 1) := by decide +kernel
theorem dX12_weight_47 : decode cX12_weight 47 = .ok (.getfield 69, 3) := by decide +kernel
theorem dX12_weight_50 : decode cX12_weight 50 = .ok (.iload 4, 2) := by decide +kernel
theorem dX12_weight_52 : decode cX12_weight 52 = .ok (.laload, 1) := by decide +kernel
theorem dX12_weight_53 : decode cX12_weight 53 = .ok (.l2i, 1) := by decide +kernel
theorem dX12_weight_54 : decode cX12_weight 54 = .ok (.ireturn, 1) := by decide +kernel
theorem dX12_amount_0 : decode cX12_amount 0 = .ok (.lload_n 0, 1) := by decide +kernel
theorem dX12_amount_1 : decode cX12_amount 1 = .ok (.lconst 0, 1) := by decide +kernel
theorem dX12_amount_2 : decode cX12_amount 2 = .ok (.lcmp, 1) := by decide +kernel
theorem dX12_amount_3 : decode cX12_amount 3 = .ok (.ifCond .ge 8, 3) := by decide +kernel
theorem dX12_amount_6 : decode cX12_amount 6 = .ok (.lload_n 0, 1) := by decide +kernel
theorem dX12_amount_7 : decode cX12_amount 7 = .ok (.lneg, 1) := by decide +kernel
theorem dX12_amount_8 : decode cX12_amount 8 = .ok (.goto 4, 3) := by decide +kernel
theorem dX12_amount_11 : decode cX12_amount 11 = .ok (.lload_n 0, 1) := by decide +kernel
theorem dX12_amount_12 : decode cX12_amount 12 = .ok (.lreturn, 1) := by decide +kernel
theorem dX12_led_0 : decode cX12_led 0 = .ok (.iload_n 3, 1) := by decide +kernel
theorem dX12_led_1 : decode cX12_led 1 = .ok (.i2l, 1) := by decide +kernel
theorem dX12_led_2 : decode cX12_led 2 = .ok (.lconst 0, 1) := by decide +kernel
theorem dX12_led_3 : decode cX12_led 3 = .ok (.ldc2_w 176, 3) := by decide +kernel
theorem dX12_led_6 : decode cX12_led 6 = .ok (.invokestatic 92, 3) := by decide +kernel
theorem dX12_led_9 : decode cX12_led 9 = .ok (.ifCond .eq 14, 3) := by decide +kernel
theorem dX12_led_12 : decode cX12_led 12 = .ok (.iload 4, 2) := by decide +kernel
theorem dX12_led_14 : decode cX12_led 14 = .ok (.i2l, 1) := by decide +kernel
theorem dX12_led_15 : decode cX12_led 15 = .ok (.lconst 0, 1) := by decide +kernel
theorem dX12_led_16 : decode cX12_led 16 = .ok (.lconst 1, 1) := by decide +kernel
theorem dX12_led_17 : decode cX12_led 17 = .ok (.invokestatic 92, 3) := by decide +kernel
theorem dX12_led_20 : decode cX12_led 20 = .ok (.ifCond .ne 6, 3) := by decide +kernel
theorem dX12_led_23 : decode cX12_led 23 = .ok (.bipush (-2), 2) := by decide +kernel
theorem dX12_led_25 : decode cX12_led 25 = .ok (.ireturn, 1) := by decide +kernel
theorem dX12_led_26 : decode cX12_led 26 = .ok (.aload_n 0, 1) := by decide +kernel
theorem dX12_led_27 : decode cX12_led 27 = .ok (.iload_n 1, 1) := by decide +kernel
theorem dX12_led_28 : decode cX12_led 28 = .ok (.iload_n 2, 1) := by decide +kernel
theorem dX12_led_29 : decode cX12_led 29 = .ok (.invokevirtual 278, 3) := by decide +kernel
theorem dX12_led_32 : decode cX12_led 32 = .ok (.istore 5, 2) := by decide +kernel
theorem dX12_led_34 : decode cX12_led 34 = .ok (.iload 5, 2) := by decide +kernel
theorem dX12_led_36 : decode cX12_led 36 = .ok (.ifCond .eq 6, 3) := by decide +kernel
theorem dX12_led_39 : decode cX12_led 39 = .ok (.iload 5, 2) := by decide +kernel
theorem dX12_led_41 : decode cX12_led 41 = .ok (.ireturn, 1) := by decide +kernel
theorem dX12_led_42 : decode cX12_led 42 = .ok (.aload_n 0, 1) := by decide +kernel
theorem dX12_led_43 : decode cX12_led 43 = .ok (.iload_n 2, 1) := by decide +kernel
theorem dX12_led_44 : decode cX12_led 44 = .ok (.iload_n 3, 1) := by decide +kernel
theorem dX12_led_45 : decode cX12_led 45 = .ok (.invokevirtual 306, 3) := by decide +kernel
theorem dX12_led_48 : decode cX12_led 48 = .ok (.lconst 0, 1) := by decide +kernel
theorem dX12_led_49 : decode cX12_led 49 = .ok (.lstore 6, 2) := by decide +kernel
theorem dX12_led_51 : decode cX12_led 51 = .ok (.iload 4, 2) := by decide +kernel
theorem dX12_led_53 : decode cX12_led 53 = .ok (.iconst 1, 1) := by decide +kernel
theorem dX12_led_54 : decode cX12_led 54 = .ok (.if_icmp .ne 63, 3) := by decide +kernel
theorem dX12_led_57 : decode cX12_led 57 = .ok (.iconst 0, 1) := by decide +kernel
theorem dX12_led_58 : decode cX12_led 58 = .ok (.istore 8, 2) := by decide +kernel
theorem dX12_led_60 : decode cX12_led 60 = .ok (.iload 8, 2) := by decide +kernel
theorem dX12_led_62 : decode cX12_led 62 = .ok (.aload_n 0, 1) := by decide +kernel
theorem dX12_led_63 : decode cX12_led 63 = .ok (.getfield 115, 3) := by decide +kernel
theorem dX12_led_66 : decode cX12_led 66 = .ok (.if_icmp .ge 43, 3) := by decide +kernel
theorem dX12_led_69 : decode cX12_led 69 = .ok (.lload 6, 2) := by decide +kernel
theorem dX12_led_71 : decode cX12_led 71 = .ok (.aload_n 0, 1) := by decide +kernel
theorem dX12_led_72 : decode cX12_led 72 = .ok (.getfield 72, 3) := by decide +kernel
theorem dX12_led_75 : decode cX12_led 75 = .ok (.iload 8, 2) := by decide +kernel
theorem dX12_led_77 : decode cX12_led 77 = .ok (.baload, 1) := by decide +kernel
theorem dX12_led_78 : decode cX12_led 78 = .ok (.ifCond .eq 21, 3) := by decide +kernel
theorem dX12_led_81 : decode cX12_led 81 = .ok (.aload_n 0, 1) := by decide +kernel
theorem dX12_led_82 : decode cX12_led 82 = .ok (.getfield 69, 3) := by decide +kernel
theorem dX12_led_85 : decode cX12_led 85 = .ok (.iload 8, 2) := by decide +kernel
theorem dX12_led_87 : decode cX12_led 87 = .ok (.laload, 1) := by decide +kernel
theorem dX12_led_88 : decode cX12_led 88 = .ok (.aload_n 0, 1) := by decide +kernel
theorem dX12_led_89 : decode cX12_led 89 = .ok (.iload 8, 2) := by decide +kernel
theorem dX12_led_91 : decode cX12_led 91 = .ok (.invokevirtual 134, 3) := by decide +kernel
theorem dX12_led_94 : decode cX12_led 94 = .ok (.i2l, 1) := by decide +kernel
theorem dX12_led_95 : decode cX12_led 95 = .ok (.lmul, 1) := by decide +kernel
theorem dX12_led_96 : decode cX12_led 96 = .ok (.goto 4, 3) := by decide +kernel
theorem dX12_led_99 : decode cX12_led 99 = .ok (.lconst 0, 1) := by decide +kernel
theorem dX12_led_100 : decode cX12_led 100 = .ok (.ladd, 1) := by decide +kernel
theorem dX12_led_101 : decode cX12_led 101 = .ok (.lstore 6, 2) := by decide +kernel
theorem dX12_led_103 : decode cX12_led 103 = .ok (.iinc 8 1, 3) := by decide +kernel
theorem dX12_led_106 : decode cX12_led 106 = .ok (.goto (-46), 3) := by decide +kernel
theorem dX12_led_109 : decode cX12_led 109 = .ok (.lload 6, 2) := by decide +kernel
theorem dX12_led_111 : decode cX12_led 111 = .ok (.ldc2_w 301, 3) := by decide +kernel
theorem dX12_led_114 : decode cX12_led 114 = .ok (.ldiv, 1) := by decide +kernel
theorem dX12_led_115 : decode cX12_led 115 = .ok (.l2i, 1) := by decide +kernel
theorem dX12_led_116 : decode cX12_led 116 = .ok (.ireturn, 1) := by decide +kernel
theorem dX12_led_117 : decode cX12_led 117 = .ok (.iconst 0, 1) := by decide +kernel
theorem dX12_led_118 : decode cX12_led 118 = .ok (.istore 8, 2) := by decide +kernel
theorem dX12_led_120 : decode cX12_led 120 = .ok (.iload 8, 2) := by decide +kernel
theorem dX12_led_122 : decode cX12_led 122 = .ok (.iconst 4, 1) := by decide +kernel
theorem dX12_led_123 : decode cX12_led 123 = .ok (.if_icmp .ge 33, 3) := by decide +kernel
theorem dX12_led_126 : decode cX12_led 126 = .ok (.lload 6, 2) := by decide +kernel
theorem dX12_led_128 : decode cX12_led 128 = .ok (.aload_n 0, 1) := by decide +kernel
theorem dX12_led_129 : decode cX12_led 129 = .ok (.iconst 0, 1) := by decide +kernel
theorem dX12_led_130 : decode cX12_led 130 = .ok (.iload 8, 2) := by decide +kernel
theorem dX12_led_132 : decode cX12_led 132 = .ok (.invokevirtual 296, 3) := by decide +kernel
theorem dX12_led_135 : decode cX12_led 135 = .ok (.aload_n 0, 1) := by decide +kernel
theorem dX12_led_136 : decode cX12_led 136 = .ok (.getfield 63, 3) := by decide +kernel
theorem dX12_led_139 : decode cX12_led 139 = .ok (.iload 8, 2) := by decide +kernel
theorem dX12_led_141 : decode cX12_led 141 = .ok (.iaload, 1) := by decide +kernel
theorem dX12_led_142 : decode cX12_led 142 = .ok (.i2l, 1) := by decide +kernel
theorem dX12_led_143 : decode cX12_led 143 = .ok (.lsub, 1) := by decide +kernel
theorem dX12_led_144 : decode cX12_led 144 = .ok (.invokestatic 309, 3) := by decide +kernel
theorem dX12_led_147 : decode cX12_led 147 = .ok (.ladd, 1) := by decide +kernel
theorem dX12_led_148 : decode cX12_led 148 = .ok (.lstore 6, 2) := by decide +kernel
theorem dX12_led_150 : decode cX12_led 150 = .ok (.iinc 8 1, 3) := by decide +kernel
theorem dX12_led_153 : decode cX12_led 153 = .ok (.goto (-33), 3) := by decide +kernel
theorem dX12_led_156 : decode cX12_led 156 = .ok (.iconst 0, 1) := by decide +kernel
theorem dX12_led_157 : decode cX12_led 157 = .ok (.istore 8, 2) := by decide +kernel
theorem dX12_led_159 : decode cX12_led 159 = .ok (.iload 8, 2) := by decide +kernel
theorem dX12_led_161 : decode cX12_led 161 = .ok (.iconst 3, 1) := by decide +kernel
theorem dX12_led_162 : decode cX12_led 162 = .ok (.if_icmp .ge 33, 3) := by decide +kernel
theorem dX12_led_165 : decode cX12_led 165 = .ok (.lload 6, 2) := by decide +kernel
theorem dX12_led_167 : decode cX12_led 167 = .ok (.aload_n 0, 1) := by decide +kernel
theorem dX12_led_168 : decode cX12_led 168 = .ok (.iconst 1, 1) := by decide +kernel
theorem dX12_led_169 : decode cX12_led 169 = .ok (.iload 8, 2) := by decide +kernel
theorem dX12_led_171 : decode cX12_led 171 = .ok (.invokevirtual 296, 3) := by decide +kernel
theorem dX12_led_174 : decode cX12_led 174 = .ok (.aload_n 0, 1) := by decide +kernel
theorem dX12_led_175 : decode cX12_led 175 = .ok (.getfield 66, 3) := by decide +kernel
theorem dX12_led_178 : decode cX12_led 178 = .ok (.iload 8, 2) := by decide +kernel
theorem dX12_led_180 : decode cX12_led 180 = .ok (.iaload, 1) := by decide +kernel
theorem dX12_led_181 : decode cX12_led 181 = .ok (.i2l, 1) := by decide +kernel
theorem dX12_led_182 : decode cX12_led 182 = .ok (.lsub, 1) := by decide +kernel
theorem dX12_led_183 : decode cX12_led 183 = .ok (.invokestatic 309, 3) := by decide +kernel
theorem dX12_led_186 : decode cX12_led 186 = .ok (.ladd, 1) := by decide +kernel
theorem dX12_led_187 : decode cX12_led 187 = .ok (.lstore 6, 2) := by decide +kernel
theorem dX12_led_189 : decode cX12_led 189 = .ok (.iinc 8 1, 3) := by decide +kernel
theorem dX12_led_192 : decode cX12_led 192 = .ok (.goto (-33), 3) := by decide +kernel
theorem dX12_led_195 : decode cX12_led 195 = .ok (.lload 6, 2) := by decide +kernel
theorem dX12_led_197 : decode cX12_led 197 = .ok (.l2i, 1) := by decide +kernel
theorem dX12_led_198 : decode cX12_led 198 = .ok (.ireturn, 1) := by decide +kernel
theorem dX12_cost_0 : decode cX12_cost 0 = .ok (.iload_n 1, 1) := by decide +kernel
theorem dX12_cost_1 : decode cX12_cost 1 = .ok (.i2l, 1) := by decide +kernel
theorem dX12_cost_2 : decode cX12_cost 2 = .ok (.lconst 0, 1) := by decide +kernel
theorem dX12_cost_3 : decode cX12_cost 3 = .ok (.ldc2_w 120, 3) := by decide +kernel
theorem dX12_cost_6 : decode cX12_cost 6 = .ok (.invokestatic 92, 3) := by decide +kernel
theorem dX12_cost_9 : decode cX12_cost 9 = .ok (.ifCond .eq 15, 3) := by decide +kernel
theorem dX12_cost_12 : decode cX12_cost 12 = .ok (.iload_n 2, 1) := by decide +kernel
theorem dX12_cost_13 : decode cX12_cost 13 = .ok (.i2l, 1) := by decide +kernel
theorem dX12_cost_14 : decode cX12_cost 14 = .ok (.lconst 0, 1) := by decide +kernel
theorem dX12_cost_15 : decode cX12_cost 15 = .ok (.ldc2_w 313, 3) := by decide +kernel
theorem dX12_cost_18 : decode cX12_cost 18 = .ok (.invokestatic 92, 3) := by decide +kernel
theorem dX12_cost_21 : decode cX12_cost 21 = .ok (.ifCond .ne 6, 3) := by decide +kernel
theorem dX12_cost_24 : decode cX12_cost 24 = .ok (.bipush (-2), 2) := by decide +kernel
theorem dX12_cost_26 : decode cX12_cost 26 = .ok (.ireturn, 1) := by decide +kernel
theorem dX12_cost_27 : decode cX12_cost 27 = .ok (.aload_n 0, 1) := by decide +kernel
theorem dX12_cost_28 : decode cX12_cost 28 = .ok (.getfield 79, 3) := by decide +kernel
theorem dX12_cost_31 : decode cX12_cost 31 = .ok (.iload_n 1, 1) := by decide +kernel
theorem dX12_cost_32 : decode cX12_cost 32 = .ok (.iaload, 1) := by decide +kernel
theorem dX12_cost_33 : decode cX12_cost 33 = .ok (.istore_n 3, 1) := by decide +kernel
theorem dX12_cost_34 : decode cX12_cost 34 = .ok (.aload_n 0, 1) := by decide +kernel
theorem dX12_cost_35 : decode cX12_cost 35 = .ok (.getfield 79, 3) := by decide +kernel
theorem dX12_cost_38 : decode cX12_cost 38 = .ok (.iload_n 1, 1) := by decide +kernel
theorem dX12_cost_39 : decode cX12_cost 39 = .ok (.iload_n 2, 1) := by decide +kernel
theorem dX12_cost_40 : decode cX12_cost 40 = .ok (.iastore, 1) := by decide +kernel
theorem dX12_cost_41 : decode cX12_cost 41 = .ok (.iload_n 3, 1) := by decide +kernel
theorem dX12_cost_42 : decode cX12_cost 42 = .ok (.ireturn, 1) := by decide +kernel
theorem dX12_again_0 : decode cX12_again 0 = .ok (.iload_n 3, 1) := by decide +kernel
theorem dX12_again_1 : decode cX12_again 1 = .ok (.i2l, 1) := by decide +kernel
theorem dX12_again_2 : decode cX12_again 2 = .ok (.lconst 0, 1) := by decide +kernel
theorem dX12_again_3 : decode cX12_again 3 = .ok (.ldc2_w 315, 3) := by decide +kernel
theorem dX12_again_6 : decode cX12_again 6 = .ok (.invokestatic 92, 3) := by decide +kernel
theorem dX12_again_9 : decode cX12_again 9 = .ok (.ifCond .eq 16, 3) := by decide +kernel
theorem dX12_again_12 : decode cX12_again 12 = .ok (.iload 4, 2) := by decide +kernel
theorem dX12_again_14 : decode cX12_again 14 = .ok (.i2l, 1) := by decide +kernel
theorem dX12_again_15 : decode cX12_again 15 = .ok (.lconst 0, 1) := by decide +kernel
theorem dX12_again_16 : decode cX12_again 16 = .ok (.ldc2_w 100, 3) := by decide +kernel
theorem dX12_again_19 : decode cX12_again 19 = .ok (.invokestatic 92, 3) := by decide +kernel
theorem dX12_again_22 : decode cX12_again 22 = .ok (.ifCond .ne 6, 3) := by decide +kernel
theorem dX12_again_25 : decode cX12_again 25 = .ok (.bipush (-2), 2) := by decide +kernel
theorem dX12_again_27 : decode cX12_again 27 = .ok (.ireturn, 1) := by decide +kernel
theorem dX12_again_28 : decode cX12_again 28 = .ok (.aload_n 0, 1) := by decide +kernel
theorem dX12_again_29 : decode cX12_again 29 = .ok (.iload_n 1, 1) := by decide +kernel
theorem dX12_again_30 : decode cX12_again 30 = .ok (.iload_n 2, 1) := by decide +kernel
theorem dX12_again_31 : decode cX12_again 31 = .ok (.invokevirtual 278, 3) := by decide +kernel
theorem dX12_again_34 : decode cX12_again 34 = .ok (.istore 5, 2) := by decide +kernel
theorem dX12_again_36 : decode cX12_again 36 = .ok (.iload 5, 2) := by decide +kernel
theorem dX12_again_38 : decode cX12_again 38 = .ok (.ifCond .eq 6, 3) := by decide +kernel
theorem dX12_again_41 : decode cX12_again 41 = .ok (.iload 5, 2) := by decide +kernel
theorem dX12_again_43 : decode cX12_again 43 = .ok (.ireturn, 1) := by decide +kernel
theorem dX12_again_44 : decode cX12_again 44 = .ok (.iconst 0, 1) := by decide +kernel
theorem dX12_again_45 : decode cX12_again 45 = .ok (.istore 6, 2) := by decide +kernel
theorem dX12_again_47 : decode cX12_again 47 = .ok (.iconst 0, 1) := by decide +kernel
theorem dX12_again_48 : decode cX12_again 48 = .ok (.istore 7, 2) := by decide +kernel
theorem dX12_again_50 : decode cX12_again 50 = .ok (.iload 7, 2) := by decide +kernel
theorem dX12_again_52 : decode cX12_again 52 = .ok (.bipush 8, 2) := by decide +kernel
theorem dX12_again_54 : decode cX12_again 54 = .ok (.if_icmp .ge 17, 3) := by decide +kernel
theorem dX12_again_57 : decode cX12_again 57 = .ok (.aload_n 0, 1) := by decide +kernel
theorem dX12_again_58 : decode cX12_again 58 = .ok (.getfield 82, 3) := by decide +kernel
theorem dX12_again_61 : decode cX12_again 61 = .ok (.iload 7, 2) := by decide +kernel
theorem dX12_again_63 : decode cX12_again 63 = .ok (.lconst 0, 1) := by decide +kernel
theorem dX12_again_64 : decode cX12_again 64 = .ok (.lastore, 1) := by decide +kernel
theorem dX12_again_65 : decode cX12_again 65 = .ok (.iinc 7 1, 3) := by decide +kernel
theorem dX12_again_68 : decode cX12_again 68 = .ok (.goto (-18), 3) := by decide +kernel
theorem dX12_again_71 : decode cX12_again 71 = .ok (.iconst 0, 1) := by decide +kernel
theorem dX12_again_72 : decode cX12_again 72 = .ok (.istore 7, 2) := by decide +kernel
theorem dX12_again_74 : decode cX12_again 74 = .ok (.iload 7, 2) := by decide +kernel
theorem dX12_again_76 : decode cX12_again 76 = .ok (.aload_n 0, 1) := by decide +kernel
theorem dX12_again_77 : decode cX12_again 77 = .ok (.getfield 115, 3) := by decide +kernel
theorem dX12_again_80 : decode cX12_again 80 = .ok (.if_icmp .ge 77, 3) := by decide +kernel
theorem dX12_again_83 : decode cX12_again 83 = .ok (.iload_n 2, 1) := by decide +kernel
theorem dX12_again_84 : decode cX12_again 84 = .ok (.iload 7, 2) := by decide +kernel
theorem dX12_again_86 : decode cX12_again 86 = .ok (.ishr, 1) := by decide +kernel
theorem dX12_again_87 : decode cX12_again 87 = .ok (.iconst 1, 1) := by decide +kernel
theorem dX12_again_88 : decode cX12_again 88 = .ok (.iand, 1) := by decide +kernel
theorem dX12_again_89 : decode cX12_again 89 = .ok (.iconst 1, 1) := by decide +kernel
theorem dX12_again_90 : decode cX12_again 90 = .ok (.if_icmp .ne 61, 3) := by decide +kernel
theorem dX12_again_93 : decode cX12_again 93 = .ok (.aload_n 0, 1) := by decide +kernel
theorem dX12_again_94 : decode cX12_again 94 = .ok (.iload 7, 2) := by decide +kernel
theorem dX12_again_96 : decode cX12_again 96 = .ok (.invokevirtual 134, 3) := by decide +kernel
theorem dX12_again_99 : decode cX12_again 99 = .ok (.iconst (-1), 1) := by decide +kernel
theorem dX12_again_100 : decode cX12_again 100 = .ok (.if_icmp .ne 51, 3) := by decide +kernel
theorem dX12_again_103 : decode cX12_again 103 = .ok (.aload_n 0, 1) := by decide +kernel
theorem dX12_again_104 : decode cX12_again 104 = .ok (.iload 7, 2) := by decide +kernel
theorem dX12_again_106 : decode cX12_again 106 = .ok (.invokevirtual 230, 3) := by decide +kernel
theorem dX12_again_109 : decode cX12_again 109 = .ok (.aload_n 0, 1) := by decide +kernel
theorem dX12_again_110 : decode cX12_again 110 = .ok (.getfield 82, 3) := by decide +kernel
theorem dX12_again_113 : decode cX12_again 113 = .ok (.aload_n 0, 1) := by decide +kernel
theorem dX12_again_114 : decode cX12_again 114 = .ok (.getfield 25, 3) := by decide +kernel
theorem dX12_again_117 : decode cX12_again 117 = .ok (.iload 7, 2) := by decide +kernel
theorem dX12_again_119 : decode cX12_again 119 = .ok (.iaload, 1) := by decide +kernel
theorem dX12_again_120 : decode cX12_again 120 = .ok (.dup2, 1) := by decide +kernel
theorem dX12_again_121 : decode cX12_again 121 = .ok (.laload, 1) := by decide +kernel
theorem dX12_again_122 : decode cX12_again 122 = .ok (.ldc2_w 301, 3) := by decide +kernel
theorem dX12_again_125 : decode cX12_again 125 = .ok (.aload_n 0, 1) := by decide +kernel
theorem dX12_again_126 : decode cX12_again 126 = .ok (.getfield 214, 3) := by decide +kernel
theorem dX12_again_129 : decode cX12_again 129 = .ok (.lmul, 1) := by decide +kernel
theorem dX12_again_130 : decode cX12_again 130 = .ok (.aload_n 0, 1) := by decide +kernel
theorem dX12_again_131 : decode cX12_again 131 = .ok (.getfield 210, 3) := by decide +kernel
theorem dX12_again_134 : decode cX12_again 134 = .ok (.ldiv, 1) := by decide +kernel
theorem dX12_again_135 : decode cX12_again 135 = .ok (.ladd, 1) := by decide +kernel
theorem dX12_again_136 : decode cX12_again 136 = .ok (.lastore, 1) := by decide +kernel
theorem dX12_again_137 : decode cX12_again 137 = .ok (.iload 6, 2) := by decide +kernel
theorem dX12_again_139 : decode cX12_again 139 = .ok (.iconst 1, 1) := by decide +kernel
theorem dX12_again_140 : decode cX12_again 140 = .ok (.aload_n 0, 1) := by decide +kernel
theorem dX12_again_141 : decode cX12_again 141 = .ok (.getfield 25, 3) := by decide +kernel
theorem dX12_again_144 : decode cX12_again 144 = .ok (.iload 7, 2) := by decide +kernel
theorem dX12_again_146 : decode cX12_again 146 = .ok (.iaload, 1) := by decide +kernel
theorem dX12_again_147 : decode cX12_again 147 = .ok (.ishl, 1) := by decide +kernel
theorem dX12_again_148 : decode cX12_again 148 = .ok (.ior, 1) := by decide +kernel
theorem dX12_again_149 : decode cX12_again 149 = .ok (.istore 6, 2) := by decide +kernel
theorem dX12_again_151 : decode cX12_again 151 = .ok (.iinc 7 1, 3) := by decide +kernel
theorem dX12_again_154 : decode cX12_again 154 = .ok (.goto (-80), 3) := by decide +kernel
theorem dX12_again_157 : decode cX12_again 157 = .ok (.iconst 0, 1) := by decide +kernel
theorem dX12_again_158 : decode cX12_again 158 = .ok (.istore 7, 2) := by decide +kernel
theorem dX12_again_160 : decode cX12_again 160 = .ok (.lconst 0, 1) := by decide +kernel
theorem dX12_again_161 : decode cX12_again 161 = .ok (.lstore 8, 2) := by decide +kernel
theorem dX12_again_163 : decode cX12_again 163 = .ok (.iconst 0, 1) := by decide +kernel
theorem dX12_again_164 : decode cX12_again 164 = .ok (.istore 10, 2) := by decide +kernel
theorem dX12_again_166 : decode cX12_again 166 = .ok (.iconst 1, 1) := by decide +kernel
theorem dX12_again_167 : decode cX12_again 167 = .ok (.istore 11, 2) := by decide +kernel
theorem dX12_again_169 : decode cX12_again 169 = .ok (.iload 11, 2) := by decide +kernel
theorem dX12_again_171 : decode cX12_again 171 = .ok (.sipush 256, 3) := by decide +kernel
theorem dX12_again_174 : decode cX12_again 174 = .ok (.if_icmp .ge 136, 3) := by decide +kernel
theorem dX12_again_177 : decode cX12_again 177 = .ok (.iload 11, 2) := by decide +kernel
theorem dX12_again_179 : decode cX12_again 179 = .ok (.iload 6, 2) := by decide +kernel
theorem dX12_again_181 : decode cX12_again 181 = .ok (.iconst (-1), 1) := by decide +kernel
theorem dX12_again_182 : decode cX12_again 182 = .ok (.ixor, 1) := by decide +kernel
theorem dX12_again_183 : decode cX12_again 183 = .ok (.iand, 1) := by decide +kernel
theorem dX12_again_184 : decode cX12_again 184 = .ok (.ifCond .ne 120, 3) := by decide +kernel
theorem dX12_again_187 : decode cX12_again 187 = .ok (.lconst 0, 1) := by decide +kernel
theorem dX12_again_188 : decode cX12_again 188 = .ok (.lstore 12, 2) := by decide +kernel
theorem dX12_again_190 : decode cX12_again 190 = .ok (.iconst 0, 1) := by decide +kernel
theorem dX12_again_191 : decode cX12_again 191 = .ok (.istore 14, 2) := by decide +kernel
theorem dX12_again_193 : decode cX12_again 193 = .ok (.iconst 0, 1) := by decide +kernel
theorem dX12_again_194 : decode cX12_again 194 = .ok (.istore 15, 2) := by decide +kernel
theorem dX12_again_196 : decode cX12_again 196 = .ok (.iload 15, 2) := by decide +kernel
theorem dX12_again_198 : decode cX12_again 198 = .ok (.bipush 8, 2) := by decide +kernel
theorem dX12_again_200 : decode cX12_again 200 = .ok (.if_icmp .ge 63, 3) := by decide +kernel
theorem dX12_again_203 : decode cX12_again 203 = .ok (.lload 12, 2) := by decide +kernel
theorem dX12_again_205 : decode cX12_again 205 = .ok (.iload 11, 2) := by decide +kernel
theorem dX12_again_207 : decode cX12_again 207 = .ok (.iload 15, 2) := by decide +kernel
theorem dX12_again_209 : decode cX12_again 209 = .ok (.ishr, 1) := by decide +kernel
theorem dX12_again_210 : decode cX12_again 210 = .ok (.iconst 1, 1) := by decide +kernel
theorem dX12_again_211 : decode cX12_again 211 = .ok (.iand, 1) := by decide +kernel
theorem dX12_again_212 : decode cX12_again 212 = .ok (.iconst 1, 1) := by decide +kernel
theorem dX12_again_213 : decode cX12_again 213 = .ok (.if_icmp .ne 13, 3) := by decide +kernel
theorem dX12_again_216 : decode cX12_again 216 = .ok (.aload_n 0, 1) := by decide +kernel
theorem dX12_again_217 : decode cX12_again 217 = .ok (.getfield 82, 3) := by decide +kernel
theorem dX12_again_220 : decode cX12_again 220 = .ok (.iload 15, 2) := by decide +kernel
theorem dX12_again_222 : decode cX12_again 222 = .ok (.laload, 1) := by decide +kernel
theorem dX12_again_223 : decode cX12_again 223 = .ok (.goto 4, 3) := by decide +kernel
theorem dX12_again_226 : decode cX12_again 226 = .ok (.lconst 0, 1) := by decide +kernel
theorem dX12_again_227 : decode cX12_again 227 = .ok (.ladd, 1) := by decide +kernel
theorem dX12_again_228 : decode cX12_again 228 = .ok (.lstore 12, 2) := by decide +kernel
theorem dX12_again_230 : decode cX12_again 230 = .ok (.iload 14, 2) := by decide +kernel
theorem dX12_again_232 : decode cX12_again 232 = .ok (.iload 11, 2) := by decide +kernel
theorem dX12_again_234 : decode cX12_again 234 = .ok (.iload 15, 2) := by decide +kernel
theorem dX12_again_236 : decode cX12_again 236 = .ok (.ishr, 1) := by decide +kernel
theorem dX12_again_237 : decode cX12_again 237 = .ok (.iconst 1, 1) := by decide +kernel
theorem dX12_again_238 : decode cX12_again 238 = .ok (.iand, 1) := by decide +kernel
theorem dX12_again_239 : decode cX12_again 239 = .ok (.iconst 1, 1) := by decide +kernel
theorem dX12_again_240 : decode cX12_again 240 = .ok (.if_icmp .ne 13, 3) := by decide +kernel
theorem dX12_again_243 : decode cX12_again 243 = .ok (.aload_n 0, 1) := by decide +kernel
theorem dX12_again_244 : decode cX12_again 244 = .ok (.getfield 79, 3) := by decide +kernel
theorem dX12_again_247 : decode cX12_again 247 = .ok (.iload 15, 2) := by decide +kernel
theorem dX12_again_249 : decode cX12_again 249 = .ok (.iaload, 1) := by decide +kernel
theorem dX12_again_250 : decode cX12_again 250 = .ok (.goto 4, 3) := by decide +kernel
theorem dX12_again_253 : decode cX12_again 253 = .ok (.iconst 0, 1) := by decide +kernel
theorem dX12_again_254 : decode cX12_again 254 = .ok (.iadd, 1) := by decide +kernel
theorem dX12_again_255 : decode cX12_again 255 = .ok (.istore 14, 2) := by decide +kernel
theorem dX12_again_257 : decode cX12_again 257 = .ok (.iinc 15 1, 3) := by decide +kernel
theorem dX12_again_260 : decode cX12_again 260 = .ok (.goto (-64), 3) := by decide +kernel
theorem dX12_again_263 : decode cX12_again 263 = .ok (.iload 14, 2) := by decide +kernel
theorem dX12_again_265 : decode cX12_again 265 = .ok (.iload_n 3, 1) := by decide +kernel
theorem dX12_again_266 : decode cX12_again 266 = .ok (.if_icmp .gt 38, 3) := by decide +kernel
theorem dX12_again_269 : decode cX12_again 269 = .ok (.lload 12, 2) := by decide +kernel
theorem dX12_again_271 : decode cX12_again 271 = .ok (.lload 8, 2) := by decide +kernel
theorem dX12_again_273 : decode cX12_again 273 = .ok (.lcmp, 1) := by decide +kernel
theorem dX12_again_274 : decode cX12_again 274 = .ok (.ifCond .gt 18, 3) := by decide +kernel
theorem dX12_again_277 : decode cX12_again 277 = .ok (.lload 12, 2) := by decide +kernel
theorem dX12_again_279 : decode cX12_again 279 = .ok (.lload 8, 2) := by decide +kernel
theorem dX12_again_281 : decode cX12_again 281 = .ok (.lcmp, 1) := by decide +kernel
theorem dX12_again_282 : decode cX12_again 282 = .ok (.ifCond .ne 22, 3) := by decide +kernel
theorem dX12_again_285 : decode cX12_again 285 = .ok (.iload 14, 2) := by decide +kernel
theorem dX12_again_287 : decode cX12_again 287 = .ok (.iload 10, 2) := by decide +kernel
theorem dX12_again_289 : decode cX12_again 289 = .ok (.if_icmp .ge 15, 3) := by decide +kernel
theorem dX12_again_292 : decode cX12_again 292 = .ok (.iload 11, 2) := by decide +kernel
theorem dX12_again_294 : decode cX12_again 294 = .ok (.istore 7, 2) := by decide +kernel
theorem dX12_again_296 : decode cX12_again 296 = .ok (.lload 12, 2) := by decide +kernel
theorem dX12_again_298 : decode cX12_again 298 = .ok (.lstore 8, 2) := by decide +kernel
theorem dX12_again_300 : decode cX12_again 300 = .ok (.iload 14, 2) := by decide +kernel
theorem dX12_again_302 : decode cX12_again 302 = .ok (.istore 10, 2) := by decide +kernel
theorem dX12_again_304 : decode cX12_again 304 = .ok (.iinc 11 1, 3) := by decide +kernel
theorem dX12_again_307 : decode cX12_again 307 = .ok (.goto (-138), 3) := by decide +kernel
theorem dX12_again_310 : decode cX12_again 310 = .ok (.iload 4, 2) := by decide +kernel
theorem dX12_again_312 : decode cX12_again 312 = .ok (.ifCond .ne 8, 3) := by decide +kernel
theorem dX12_again_315 : decode cX12_again 315 = .ok (.iload 7, 2) := by decide +kernel
theorem dX12_again_317 : decode cX12_again 317 = .ok (.goto 17, 3) := by decide +kernel
theorem dX12_again_320 : decode cX12_again 320 = .ok (.iload 4, 2) := by decide +kernel
theorem dX12_again_322 : decode cX12_again 322 = .ok (.iconst 1, 1) := by decide +kernel
theorem dX12_again_323 : decode cX12_again 323 = .ok (.if_icmp .ne 9, 3) := by decide +kernel
theorem dX12_again_326 : decode cX12_again 326 = .ok (.lload 8, 2) := by decide +kernel
theorem dX12_again_328 : decode cX12_again 328 = .ok (.l2i, 1) := by decide +kernel
theorem dX12_again_329 : decode cX12_again 329 = .ok (.goto 5, 3) := by decide +kernel
theorem dX12_again_332 : decode cX12_again 332 = .ok (.iload 10, 2) := by decide +kernel
theorem dX12_again_334 : decode cX12_again 334 = .ok (.ireturn, 1) := by decide +kernel
theorem dX12_write_0 : decode cX12_write 0 = .ok (.iload_n 1, 1) := by decide +kernel
theorem dX12_write_1 : decode cX12_write 1 = .ok (.invokestatic 96, 3) := by decide +kernel
theorem dX12_write_4 : decode cX12_write 4 = .ok (.ifCond .eq 11, 3) := by decide +kernel
theorem dX12_write_7 : decode cX12_write 7 = .ok (.aload_n 0, 1) := by decide +kernel
theorem dX12_write_8 : decode cX12_write 8 = .ok (.iload_n 2, 1) := by decide +kernel
theorem dX12_write_9 : decode cX12_write 9 = .ok (.invokevirtual 266, 3) := by decide +kernel
theorem dX12_write_12 : decode cX12_write 12 = .ok (.ifCond .ne 6, 3) := by decide +kernel
theorem dX12_write_15 : decode cX12_write 15 = .ok (.bipush (-2), 2) := by decide +kernel
theorem dX12_write_17 : decode cX12_write 17 = .ok (.ireturn, 1) := by decide +kernel
theorem dX12_write_18 : decode cX12_write 18 = .ok (.aload_n 0, 1) := by decide +kernel
theorem dX12_write_19 : decode cX12_write 19 = .ok (.getfield 7, 3) := by decide +kernel
theorem dX12_write_22 : decode cX12_write 22 = .ok (.iload_n 1, 1) := by decide +kernel
theorem dX12_write_23 : decode cX12_write 23 = .ok (.iaload, 1) := by decide +kernel
theorem dX12_write_24 : decode cX12_write 24 = .ok (.ifCond .ge 9, 3) := by decide +kernel
theorem dX12_write_27 : decode cX12_write 27 = .ok (.aload_n 0, 1) := by decide +kernel
theorem dX12_write_28 : decode cX12_write 28 = .ok (.iconst 1, 1) := by decide +kernel
theorem dX12_write_29 : decode cX12_write 29 = .ok (.invokevirtual 102, 3) := by decide +kernel
theorem dX12_write_32 : decode cX12_write 32 = .ok (.ireturn, 1) := by decide +kernel
theorem dX12_write_33 : decode cX12_write 33 = .ok (.iconst 0, 1) := by decide +kernel
theorem dX12_write_34 : decode cX12_write 34 = .ok (.istore_n 3, 1) := by decide +kernel
theorem dX12_write_35 : decode cX12_write 35 = .ok (.iconst 0, 1) := by decide +kernel
theorem dX12_write_36 : decode cX12_write 36 = .ok (.istore 4, 2) := by decide +kernel
theorem dX12_write_38 : decode cX12_write 38 = .ok (.iload 4, 2) := by decide +kernel
theorem dX12_write_40 : decode cX12_write 40 = .ok (.aload_n 0, 1) := by decide +kernel
theorem dX12_write_41 : decode cX12_write 41 = .ok (.getfield 115, 3) := by decide +kernel
theorem dX12_write_44 : decode cX12_write 44 = .ok (.if_icmp .ge 54, 3) := by decide +kernel
theorem dX12_write_47 : decode cX12_write 47 = .ok (.iload_n 3, 1) := by decide +kernel
theorem dX12_write_48 : decode cX12_write 48 = .ok (.aload_n 0, 1) := by decide +kernel
theorem dX12_write_49 : decode cX12_write 49 = .ok (.getfield 13, 3) := by decide +kernel
theorem dX12_write_52 : decode cX12_write 52 = .ok (.iload_n 1, 1) := by decide +kernel
theorem dX12_write_53 : decode cX12_write 53 = .ok (.iaload, 1) := by decide +kernel
theorem dX12_write_54 : decode cX12_write 54 = .ok (.if_icmp .ge 44, 3) := by decide +kernel
theorem dX12_write_57 : decode cX12_write 57 = .ok (.iload_n 2, 1) := by decide +kernel
theorem dX12_write_58 : decode cX12_write 58 = .ok (.iload 4, 2) := by decide +kernel
theorem dX12_write_60 : decode cX12_write 60 = .ok (.ishr, 1) := by decide +kernel
theorem dX12_write_61 : decode cX12_write 61 = .ok (.iconst 1, 1) := by decide +kernel
theorem dX12_write_62 : decode cX12_write 62 = .ok (.iand, 1) := by decide +kernel
theorem dX12_write_63 : decode cX12_write 63 = .ok (.iconst 1, 1) := by decide +kernel
theorem dX12_write_64 : decode cX12_write 64 = .ok (.if_icmp .ne 28, 3) := by decide +kernel
theorem dX12_write_67 : decode cX12_write 67 = .ok (.aload_n 0, 1) := by decide +kernel
theorem dX12_write_68 : decode cX12_write 68 = .ok (.getfield 16, 3) := by decide +kernel
theorem dX12_write_71 : decode cX12_write 71 = .ok (.bipush 90, 2) := by decide +kernel
theorem dX12_write_73 : decode cX12_write 73 = .ok (.iload_n 1, 1) := by decide +kernel
theorem dX12_write_74 : decode cX12_write 74 = .ok (.imul, 1) := by decide +kernel
theorem dX12_write_75 : decode cX12_write 75 = .ok (.iload_n 3, 1) := by decide +kernel
theorem dX12_write_76 : decode cX12_write 76 = .ok (.iadd, 1) := by decide +kernel
theorem dX12_write_77 : decode cX12_write 77 = .ok (.aload_n 0, 1) := by decide +kernel
theorem dX12_write_78 : decode cX12_write 78 = .ok (.getfield 7, 3) := by decide +kernel
theorem dX12_write_81 : decode cX12_write 81 = .ok (.iload_n 1, 1) := by decide +kernel
theorem dX12_write_82 : decode cX12_write 82 = .ok (.iaload, 1) := by decide +kernel
theorem dX12_write_83 : decode cX12_write 83 = .ok (.iload 4, 2) := by decide +kernel
theorem dX12_write_85 : decode cX12_write 85 = .ok (.invokestatic 110, 3) := by decide +kernel
theorem dX12_write_88 : decode cX12_write 88 = .ok (.iastore, 1) := by decide +kernel
theorem dX12_write_89 : decode cX12_write 89 = .ok (.iinc 3 1, 3) := by decide +kernel
theorem dX12_write_92 : decode cX12_write 92 = .ok (.iinc 4 1, 3) := by decide +kernel
theorem dX12_write_95 : decode cX12_write 95 = .ok (.goto (-57), 3) := by decide +kernel
theorem dX12_write_98 : decode cX12_write 98 = .ok (.iload_n 3, 1) := by decide +kernel
theorem dX12_write_99 : decode cX12_write 99 = .ok (.ireturn, 1) := by decide +kernel
theorem dX12_count_0 : decode cX12_count 0 = .ok (.iconst 0, 1) := by decide +kernel
theorem dX12_count_1 : decode cX12_count 1 = .ok (.istore_n 2, 1) := by decide +kernel
theorem dX12_count_2 : decode cX12_count 2 = .ok (.iload_n 1, 1) := by decide +kernel
theorem dX12_count_3 : decode cX12_count 3 = .ok (.tableswitch 122 0 9 #[53, 58, 93, 98, 103, 103, 103, 103, 112, 117], 53) := by decide +kernel
theorem dX12_count_56 : decode cX12_count 56 = .ok (.aload_n 0, 1) := by decide +kernel
theorem dX12_count_57 : decode cX12_count 57 = .ok (.getfield 115, 3) := by decide +kernel
theorem dX12_count_60 : decode cX12_count 60 = .ok (.ireturn, 1) := by decide +kernel
theorem dX12_count_61 : decode cX12_count 61 = .ok (.iconst 0, 1) := by decide +kernel
theorem dX12_count_62 : decode cX12_count 62 = .ok (.istore_n 3, 1) := by decide +kernel
theorem dX12_count_63 : decode cX12_count 63 = .ok (.iload_n 3, 1) := by decide +kernel
theorem dX12_count_64 : decode cX12_count 64 = .ok (.aload_n 0, 1) := by decide +kernel
theorem dX12_count_65 : decode cX12_count 65 = .ok (.getfield 115, 3) := by decide +kernel
theorem dX12_count_68 : decode cX12_count 68 = .ok (.if_icmp .ge 26, 3) := by decide +kernel
theorem dX12_count_71 : decode cX12_count 71 = .ok (.iload_n 2, 1) := by decide +kernel
theorem dX12_count_72 : decode cX12_count 72 = .ok (.aload_n 0, 1) := by decide +kernel
theorem dX12_count_73 : decode cX12_count 73 = .ok (.iload_n 3, 1) := by decide +kernel
theorem dX12_count_74 : decode cX12_count 74 = .ok (.invokevirtual 134, 3) := by decide +kernel
theorem dX12_count_77 : decode cX12_count 77 = .ok (.iconst (-1), 1) := by decide +kernel
theorem dX12_count_78 : decode cX12_count 78 = .ok (.if_icmp .ne 7, 3) := by decide +kernel
theorem dX12_count_81 : decode cX12_count 81 = .ok (.iconst 0, 1) := by decide +kernel
theorem dX12_count_82 : decode cX12_count 82 = .ok (.goto 4, 3) := by decide +kernel
theorem dX12_count_85 : decode cX12_count 85 = .ok (.iconst 1, 1) := by decide +kernel
theorem dX12_count_86 : decode cX12_count 86 = .ok (.iadd, 1) := by decide +kernel
theorem dX12_count_87 : decode cX12_count 87 = .ok (.istore_n 2, 1) := by decide +kernel
theorem dX12_count_88 : decode cX12_count 88 = .ok (.iinc 3 1, 3) := by decide +kernel
theorem dX12_count_91 : decode cX12_count 91 = .ok (.goto (-28), 3) := by decide +kernel
theorem dX12_count_94 : decode cX12_count 94 = .ok (.iload_n 2, 1) := by decide +kernel
theorem dX12_count_95 : decode cX12_count 95 = .ok (.ireturn, 1) := by decide +kernel
theorem dX12_count_96 : decode cX12_count 96 = .ok (.aload_n 0, 1) := by decide +kernel
theorem dX12_count_97 : decode cX12_count 97 = .ok (.getfield 128, 3) := by decide +kernel
theorem dX12_count_100 : decode cX12_count 100 = .ok (.ireturn, 1) := by decide +kernel
theorem dX12_count_101 : decode cX12_count 101 = .ok (.aload_n 0, 1) := by decide +kernel
theorem dX12_count_102 : decode cX12_count 102 = .ok (.getfield 43, 3) := by decide +kernel
theorem dX12_count_105 : decode cX12_count 105 = .ok (.ireturn, 1) := by decide +kernel
theorem dX12_count_106 : decode cX12_count 106 = .ok (.aload_n 0, 1) := by decide +kernel
theorem dX12_count_107 : decode cX12_count 107 = .ok (.getfield 50, 3) := by decide +kernel
theorem dX12_count_110 : decode cX12_count 110 = .ok (.iload_n 1, 1) := by decide +kernel
theorem dX12_count_111 : decode cX12_count 111 = .ok (.iconst 4, 1) := by decide +kernel
theorem dX12_count_112 : decode cX12_count 112 = .ok (.isub, 1) := by decide +kernel
theorem dX12_count_113 : decode cX12_count 113 = .ok (.iaload, 1) := by decide +kernel
theorem dX12_count_114 : decode cX12_count 114 = .ok (.ireturn, 1) := by decide +kernel
theorem dX12_count_115 : decode cX12_count 115 = .ok (.aload_n 0, 1) := by decide +kernel
theorem dX12_count_116 : decode cX12_count 116 = .ok (.getfield 87, 3) := by decide +kernel
theorem dX12_count_119 : decode cX12_count 119 = .ok (.ireturn, 1) := by decide +kernel
theorem dX12_count_120 : decode cX12_count 120 = .ok (.aload_n 0, 1) := by decide +kernel
theorem dX12_count_121 : decode cX12_count 121 = .ok (.invokevirtual 185, 3) := by decide +kernel
theorem dX12_count_124 : decode cX12_count 124 = .ok (.ireturn, 1) := by decide +kernel
theorem dX12_count_125 : decode cX12_count 125 = .ok (.bipush (-2), 2) := by decide +kernel
theorem dX12_count_127 : decode cX12_count 127 = .ok (.ireturn, 1) := by decide +kernel
theorem dX12_digest_0 : decode cX12_digest 0 = .ok (.ldc2_w 317, 3) := by decide +kernel
theorem dX12_digest_3 : decode cX12_digest 3 = .ok (.lstore_n 1, 1) := by decide +kernel
theorem dX12_digest_4 : decode cX12_digest 4 = .ok (.iconst 0, 1) := by decide +kernel
theorem dX12_digest_5 : decode cX12_digest 5 = .ok (.istore_n 3, 1) := by decide +kernel
theorem dX12_digest_6 : decode cX12_digest 6 = .ok (.iload_n 3, 1) := by decide +kernel
theorem dX12_digest_7 : decode cX12_digest 7 = .ok (.bipush 10, 2) := by decide +kernel
theorem dX12_digest_9 : decode cX12_digest 9 = .ok (.if_icmp .ge 32, 3) := by decide +kernel
theorem dX12_digest_12 : decode cX12_digest 12 = .ok (.iload_n 3, 1) := by decide +kernel
theorem dX12_digest_13 : decode cX12_digest 13 = .ok (.bipush 8, 2) := by decide +kernel
theorem dX12_digest_15 : decode cX12_digest 15 = .ok (.if_icmp .ne 7, 3) := by decide +kernel
theorem dX12_digest_18 : decode cX12_digest 18 = .ok (.lload_n 1, 1) := by decide +kernel
theorem dX12_digest_19 : decode cX12_digest 19 = .ok (.goto 15, 3) := by decide +kernel
theorem dX12_digest_22 : decode cX12_digest 22 = .ok (.ldc2_w 319, 3) := by decide +kernel
theorem dX12_digest_25 : decode cX12_digest 25 = .ok (.lload_n 1, 1) := by decide +kernel
theorem dX12_digest_26 : decode cX12_digest 26 = .ok (.lmul, 1) := by decide +kernel
theorem dX12_digest_27 : decode cX12_digest 27 = .ok (.aload_n 0, 1) := by decide +kernel
theorem dX12_digest_28 : decode cX12_digest 28 = .ok (.iload_n 3, 1) := by decide +kernel
theorem dX12_digest_29 : decode cX12_digest 29 = .ok (.invokevirtual 321, 3) := by decide +kernel
theorem dX12_digest_32 : decode cX12_digest 32 = .ok (.i2l, 1) := by decide +kernel
theorem dX12_digest_33 : decode cX12_digest 33 = .ok (.ladd, 1) := by decide +kernel
theorem dX12_digest_34 : decode cX12_digest 34 = .ok (.lstore_n 1, 1) := by decide +kernel
theorem dX12_digest_35 : decode cX12_digest 35 = .ok (.iinc 3 1, 3) := by decide +kernel
theorem dX12_digest_38 : decode cX12_digest 38 = .ok (.goto (-32), 3) := by decide +kernel
theorem dX12_digest_41 : decode cX12_digest 41 = .ok (.iconst 0, 1) := by decide +kernel
theorem dX12_digest_42 : decode cX12_digest 42 = .ok (.istore_n 3, 1) := by decide +kernel
theorem dX12_digest_43 : decode cX12_digest 43 = .ok (.iload_n 3, 1) := by decide +kernel
theorem dX12_digest_44 : decode cX12_digest 44 = .ok (.aload_n 0, 1) := by decide +kernel
theorem dX12_digest_45 : decode cX12_digest 45 = .ok (.getfield 115, 3) := by decide +kernel
theorem dX12_digest_48 : decode cX12_digest 48 = .ok (.if_icmp .ge 39, 3) := by decide +kernel
theorem dX12_digest_51 : decode cX12_digest 51 = .ok (.iconst 0, 1) := by decide +kernel
theorem dX12_digest_52 : decode cX12_digest 52 = .ok (.istore 4, 2) := by decide +kernel
theorem dX12_digest_54 : decode cX12_digest 54 = .ok (.iload 4, 2) := by decide +kernel
theorem dX12_digest_56 : decode cX12_digest 56 = .ok (.iconst 5, 1) := by decide +kernel
theorem dX12_digest_57 : decode cX12_digest 57 = .ok (.if_icmp .ge 24, 3) := by decide +kernel
theorem dX12_digest_60 : decode cX12_digest 60 = .ok (.ldc2_w 319, 3) := by decide +kernel
theorem dX12_digest_63 : decode cX12_digest 63 = .ok (.lload_n 1, 1) := by decide +kernel
theorem dX12_digest_64 : decode cX12_digest 64 = .ok (.lmul, 1) := by decide +kernel
theorem dX12_digest_65 : decode cX12_digest 65 = .ok (.aload_n 0, 1) := by decide +kernel
theorem dX12_digest_66 : decode cX12_digest 66 = .ok (.iload_n 3, 1) := by decide +kernel
theorem dX12_digest_67 : decode cX12_digest 67 = .ok (.iload 4, 2) := by decide +kernel
theorem dX12_digest_69 : decode cX12_digest 69 = .ok (.invokevirtual 324, 3) := by decide +kernel
theorem dX12_digest_72 : decode cX12_digest 72 = .ok (.i2l, 1) := by decide +kernel
theorem dX12_digest_73 : decode cX12_digest 73 = .ok (.ladd, 1) := by decide +kernel
theorem dX12_digest_74 : decode cX12_digest 74 = .ok (.lstore_n 1, 1) := by decide +kernel
theorem dX12_digest_75 : decode cX12_digest 75 = .ok (.iinc 4 1, 3) := by decide +kernel
theorem dX12_digest_78 : decode cX12_digest 78 = .ok (.goto (-24), 3) := by decide +kernel
theorem dX12_digest_81 : decode cX12_digest 81 = .ok (.iinc 3 1, 3) := by decide +kernel
theorem dX12_digest_84 : decode cX12_digest 84 = .ok (.goto (-41), 3) := by decide +kernel
theorem dX12_digest_87 : decode cX12_digest 87 = .ok (.iconst 0, 1) := by decide +kernel
theorem dX12_digest_88 : decode cX12_digest 88 = .ok (.istore_n 3, 1) := by decide +kernel
theorem dX12_digest_89 : decode cX12_digest 89 = .ok (.iload_n 3, 1) := by decide +kernel
theorem dX12_digest_90 : decode cX12_digest 90 = .ok (.iconst 4, 1) := by decide +kernel
theorem dX12_digest_91 : decode cX12_digest 91 = .ok (.if_icmp .ge 135, 3) := by decide +kernel
theorem dX12_digest_94 : decode cX12_digest 94 = .ok (.ldc2_w 319, 3) := by decide +kernel
theorem dX12_digest_97 : decode cX12_digest 97 = .ok (.lload_n 1, 1) := by decide +kernel
theorem dX12_digest_98 : decode cX12_digest 98 = .ok (.lmul, 1) := by decide +kernel
theorem dX12_digest_99 : decode cX12_digest 99 = .ok (.aload_n 0, 1) := by decide +kernel
theorem dX12_digest_100 : decode cX12_digest 100 = .ok (.iload_n 3, 1) := by decide +kernel
theorem dX12_digest_101 : decode cX12_digest 101 = .ok (.invokevirtual 173, 3) := by decide +kernel
theorem dX12_digest_104 : decode cX12_digest 104 = .ok (.i2l, 1) := by decide +kernel
theorem dX12_digest_105 : decode cX12_digest 105 = .ok (.ladd, 1) := by decide +kernel
theorem dX12_digest_106 : decode cX12_digest 106 = .ok (.lstore_n 1, 1) := by decide +kernel
theorem dX12_digest_107 : decode cX12_digest 107 = .ok (.aload_n 0, 1) := by decide +kernel
theorem dX12_digest_108 : decode cX12_digest 108 = .ok (.iload_n 3, 1) := by decide +kernel
theorem dX12_digest_109 : decode cX12_digest 109 = .ok (.invokevirtual 188, 3) := by decide +kernel
theorem dX12_digest_112 : decode cX12_digest 112 = .ok (.istore 4, 2) := by decide +kernel
theorem dX12_digest_114 : decode cX12_digest 114 = .ok (.ldc2_w 319, 3) := by decide +kernel
theorem dX12_digest_117 : decode cX12_digest 117 = .ok (.lload_n 1, 1) := by decide +kernel
theorem dX12_digest_118 : decode cX12_digest 118 = .ok (.lmul, 1) := by decide +kernel
theorem dX12_digest_119 : decode cX12_digest 119 = .ok (.iload 4, 2) := by decide +kernel
theorem dX12_digest_121 : decode cX12_digest 121 = .ok (.ifCond .eq 7, 3) := by decide +kernel
theorem dX12_digest_124 : decode cX12_digest 124 = .ok (.iconst 1, 1) := by decide +kernel
theorem dX12_digest_125 : decode cX12_digest 125 = .ok (.goto 4, 3) := by decide +kernel
theorem dX12_digest_128 : decode cX12_digest 128 = .ok (.iconst 0, 1) := by decide +kernel
theorem dX12_digest_129 : decode cX12_digest 129 = .ok (.i2l, 1) := by decide +kernel
theorem dX12_digest_130 : decode cX12_digest 130 = .ok (.ladd, 1) := by decide +kernel
theorem dX12_digest_131 : decode cX12_digest 131 = .ok (.lstore_n 1, 1) := by decide +kernel
theorem dX12_digest_132 : decode cX12_digest 132 = .ok (.ldc2_w 319, 3) := by decide +kernel
theorem dX12_digest_135 : decode cX12_digest 135 = .ok (.lload_n 1, 1) := by decide +kernel
theorem dX12_digest_136 : decode cX12_digest 136 = .ok (.lmul, 1) := by decide +kernel
theorem dX12_digest_137 : decode cX12_digest 137 = .ok (.iload 4, 2) := by decide +kernel
theorem dX12_digest_139 : decode cX12_digest 139 = .ok (.ifCond .eq 10, 3) := by decide +kernel
theorem dX12_digest_142 : decode cX12_digest 142 = .ok (.aload_n 0, 1) := by decide +kernel
theorem dX12_digest_143 : decode cX12_digest 143 = .ok (.invokevirtual 202, 3) := by decide +kernel
theorem dX12_digest_146 : decode cX12_digest 146 = .ok (.goto 8, 3) := by decide +kernel
theorem dX12_digest_149 : decode cX12_digest 149 = .ok (.bipush (-3), 2) := by decide +kernel
theorem dX12_digest_151 : decode cX12_digest 151 = .ok (.invokestatic 198, 3) := by decide +kernel
theorem dX12_digest_154 : decode cX12_digest 154 = .ok (.ladd, 1) := by decide +kernel
theorem dX12_digest_155 : decode cX12_digest 155 = .ok (.lstore_n 1, 1) := by decide +kernel
theorem dX12_digest_156 : decode cX12_digest 156 = .ok (.iload 4, 2) := by decide +kernel
theorem dX12_digest_158 : decode cX12_digest 158 = .ok (.ifCond .eq 62, 3) := by decide +kernel
theorem dX12_digest_161 : decode cX12_digest 161 = .ok (.ldc2_w 319, 3) := by decide +kernel
theorem dX12_digest_164 : decode cX12_digest 164 = .ok (.lload_n 1, 1) := by decide +kernel
theorem dX12_digest_165 : decode cX12_digest 165 = .ok (.lmul, 1) := by decide +kernel
theorem dX12_digest_166 : decode cX12_digest 166 = .ok (.aload_n 0, 1) := by decide +kernel
theorem dX12_digest_167 : decode cX12_digest 167 = .ok (.iconst 1, 1) := by decide +kernel
theorem dX12_digest_168 : decode cX12_digest 168 = .ok (.invokevirtual 263, 3) := by decide +kernel
theorem dX12_digest_171 : decode cX12_digest 171 = .ok (.i2l, 1) := by decide +kernel
theorem dX12_digest_172 : decode cX12_digest 172 = .ok (.ladd, 1) := by decide +kernel
theorem dX12_digest_173 : decode cX12_digest 173 = .ok (.lstore_n 1, 1) := by decide +kernel
theorem dX12_digest_174 : decode cX12_digest 174 = .ok (.iconst 0, 1) := by decide +kernel
theorem dX12_digest_175 : decode cX12_digest 175 = .ok (.istore 5, 2) := by decide +kernel
theorem dX12_digest_177 : decode cX12_digest 177 = .ok (.iload 5, 2) := by decide +kernel
theorem dX12_digest_179 : decode cX12_digest 179 = .ok (.aload_n 0, 1) := by decide +kernel
theorem dX12_digest_180 : decode cX12_digest 180 = .ok (.getfield 115, 3) := by decide +kernel
theorem dX12_digest_183 : decode cX12_digest 183 = .ok (.if_icmp .ge 37, 3) := by decide +kernel
theorem dX12_digest_186 : decode cX12_digest 186 = .ok (.aload_n 0, 1) := by decide +kernel
theorem dX12_digest_187 : decode cX12_digest 187 = .ok (.iload 5, 2) := by decide +kernel
theorem dX12_digest_189 : decode cX12_digest 189 = .ok (.invokevirtual 230, 3) := by decide +kernel
theorem dX12_digest_192 : decode cX12_digest 192 = .ok (.ldc2_w 319, 3) := by decide +kernel
theorem dX12_digest_195 : decode cX12_digest 195 = .ok (.lload_n 1, 1) := by decide +kernel
theorem dX12_digest_196 : decode cX12_digest 196 = .ok (.lmul, 1) := by decide +kernel
theorem dX12_digest_197 : decode cX12_digest 197 = .ok (.aload_n 0, 1) := by decide +kernel
theorem dX12_digest_198 : decode cX12_digest 198 = .ok (.getfield 210, 3) := by decide +kernel
theorem dX12_digest_201 : decode cX12_digest 201 = .ok (.ladd, 1) := by decide +kernel
theorem dX12_digest_202 : decode cX12_digest 202 = .ok (.lstore_n 1, 1) := by decide +kernel
theorem dX12_digest_203 : decode cX12_digest 203 = .ok (.ldc2_w 319, 3) := by decide +kernel
theorem dX12_digest_206 : decode cX12_digest 206 = .ok (.lload_n 1, 1) := by decide +kernel
theorem dX12_digest_207 : decode cX12_digest 207 = .ok (.lmul, 1) := by decide +kernel
theorem dX12_digest_208 : decode cX12_digest 208 = .ok (.aload_n 0, 1) := by decide +kernel
theorem dX12_digest_209 : decode cX12_digest 209 = .ok (.getfield 214, 3) := by decide +kernel
theorem dX12_digest_212 : decode cX12_digest 212 = .ok (.ladd, 1) := by decide +kernel
theorem dX12_digest_213 : decode cX12_digest 213 = .ok (.lstore_n 1, 1) := by decide +kernel
theorem dX12_digest_214 : decode cX12_digest 214 = .ok (.iinc 5 1, 3) := by decide +kernel
theorem dX12_digest_217 : decode cX12_digest 217 = .ok (.goto (-40), 3) := by decide +kernel
theorem dX12_digest_220 : decode cX12_digest 220 = .ok (.iinc 3 1, 3) := by decide +kernel
theorem dX12_digest_223 : decode cX12_digest 223 = .ok (.goto (-134), 3) := by decide +kernel
theorem dX12_digest_226 : decode cX12_digest 226 = .ok (.lload_n 1, 1) := by decide +kernel
theorem dX12_digest_227 : decode cX12_digest 227 = .ok (.lreturn, 1) := by decide +kernel
theorem dJ6_bitCount_0f7a4_0 : decode cJ6_bitCount_0f7a4 0 = .ok (.iload_n 0, 1) := by decide +kernel
theorem dJ6_bitCount_0f7a4_1 : decode cJ6_bitCount_0f7a4 1 = .ok (.iload_n 0, 1) := by decide +kernel
theorem dJ6_bitCount_0f7a4_2 : decode cJ6_bitCount_0f7a4 2 = .ok (.iconst 1, 1) := by decide +kernel
theorem dJ6_bitCount_0f7a4_3 : decode cJ6_bitCount_0f7a4 3 = .ok (.iushr, 1) := by decide +kernel
theorem dJ6_bitCount_0f7a4_4 : decode cJ6_bitCount_0f7a4 4 = .ok (.ldc_w 265, 3) := by decide +kernel
theorem dJ6_bitCount_0f7a4_7 : decode cJ6_bitCount_0f7a4 7 = .ok (.iand, 1) := by decide +kernel
theorem dJ6_bitCount_0f7a4_8 : decode cJ6_bitCount_0f7a4 8 = .ok (.isub, 1) := by decide +kernel
theorem dJ6_bitCount_0f7a4_9 : decode cJ6_bitCount_0f7a4 9 = .ok (.istore_n 0, 1) := by decide +kernel
theorem dJ6_bitCount_0f7a4_10 : decode cJ6_bitCount_0f7a4 10 = .ok (.iload_n 0, 1) := by decide +kernel
theorem dJ6_bitCount_0f7a4_11 : decode cJ6_bitCount_0f7a4 11 = .ok (.ldc_w 266, 3) := by decide +kernel
theorem dJ6_bitCount_0f7a4_14 : decode cJ6_bitCount_0f7a4 14 = .ok (.iand, 1) := by decide +kernel
theorem dJ6_bitCount_0f7a4_15 : decode cJ6_bitCount_0f7a4 15 = .ok (.iload_n 0, 1) := by decide +kernel
theorem dJ6_bitCount_0f7a4_16 : decode cJ6_bitCount_0f7a4 16 = .ok (.iconst 2, 1) := by decide +kernel
theorem dJ6_bitCount_0f7a4_17 : decode cJ6_bitCount_0f7a4 17 = .ok (.iushr, 1) := by decide +kernel
theorem dJ6_bitCount_0f7a4_18 : decode cJ6_bitCount_0f7a4 18 = .ok (.ldc_w 266, 3) := by decide +kernel
theorem dJ6_bitCount_0f7a4_21 : decode cJ6_bitCount_0f7a4 21 = .ok (.iand, 1) := by decide +kernel
theorem dJ6_bitCount_0f7a4_22 : decode cJ6_bitCount_0f7a4 22 = .ok (.iadd, 1) := by decide +kernel
theorem dJ6_bitCount_0f7a4_23 : decode cJ6_bitCount_0f7a4 23 = .ok (.istore_n 0, 1) := by decide +kernel
theorem dJ6_bitCount_0f7a4_24 : decode cJ6_bitCount_0f7a4 24 = .ok (.iload_n 0, 1) := by decide +kernel
theorem dJ6_bitCount_0f7a4_25 : decode cJ6_bitCount_0f7a4 25 = .ok (.iload_n 0, 1) := by decide +kernel
theorem dJ6_bitCount_0f7a4_26 : decode cJ6_bitCount_0f7a4 26 = .ok (.iconst 4, 1) := by decide +kernel
