theorem dX12_init_0 : decode cX12_init 0 = .ok (.aload_n 0, 1) := by decide +kernel
theorem dX12_init_1 : decode cX12_init 1 = .ok (.invokespecial 1, 3) := by decide +kernel
theorem dX12_init_4 : decode cX12_init 4 = .ok (.aload_n 0, 1) := by decide +kernel
theorem dX12_init_5 : decode cX12_init 5 = .ok (.bipush 20, 2) := by decide +kernel
theorem dX12_init_7 : decode cX12_init 7 = .ok (.putfield 7, 3) := by decide +kernel
theorem dX12_init_10 : decode cX12_init 10 = .ok (.aload_n 0, 1) := by decide +kernel
theorem dX12_init_11 : decode cX12_init 11 = .ok (.iconst (-1), 1) := by decide +kernel
theorem dX12_init_12 : decode cX12_init 12 = .ok (.putfield 13, 3) := by decide +kernel
theorem dX12_init_15 : decode cX12_init 15 = .ok (.aload_n 0, 1) := by decide +kernel
theorem dX12_init_16 : decode cX12_init 16 = .ok (.iconst (-1), 1) := by decide +kernel
theorem dX12_init_17 : decode cX12_init 17 = .ok (.putfield 16, 3) := by decide +kernel
theorem dX12_init_20 : decode cX12_init 20 = .ok (.aload_n 0, 1) := by decide +kernel
theorem dX12_init_21 : decode cX12_init 21 = .ok (.bipush 10, 2) := by decide +kernel
theorem dX12_init_23 : decode cX12_init 23 = .ok (.newarray .int, 2) := by decide +kernel
theorem dX12_init_25 : decode cX12_init 25 = .ok (.putfield 19, 3) := by decide +kernel
theorem dX12_init_28 : decode cX12_init 28 = .ok (.aload_n 0, 1) := by decide +kernel
theorem dX12_init_29 : decode cX12_init 29 = .ok (.bipush 10, 2) := by decide +kernel
theorem dX12_init_31 : decode cX12_init 31 = .ok (.newarray .int, 2) := by decide +kernel
theorem dX12_init_33 : decode cX12_init 33 = .ok (.putfield 23, 3) := by decide +kernel
theorem dX12_init_36 : decode cX12_init 36 = .ok (.aload_n 0, 1) := by decide +kernel
theorem dX12_init_37 : decode cX12_init 37 = .ok (.bipush 8, 2) := by decide +kernel
theorem dX12_init_39 : decode cX12_init 39 = .ok (.newarray .int, 2) := by decide +kernel
theorem dX12_init_41 : decode cX12_init 41 = .ok (.putfield 26, 3) := by decide +kernel
theorem dX12_init_44 : decode cX12_init 44 = .ok (.aload_n 0, 1) := by decide +kernel
theorem dX12_init_45 : decode cX12_init 45 = .ok (.sipush 1400, 3) := by decide +kernel
theorem dX12_init_48 : decode cX12_init 48 = .ok (.newarray .int, 2) := by decide +kernel
theorem dX12_init_50 : decode cX12_init 50 = .ok (.putfield 29, 3) := by decide +kernel
theorem dX12_init_53 : decode cX12_init 53 = .ok (.aload_n 0, 1) := by decide +kernel
theorem dX12_init_54 : decode cX12_init 54 = .ok (.sipush 700, 3) := by decide +kernel
theorem dX12_init_57 : decode cX12_init 57 = .ok (.newarray .int, 2) := by decide +kernel
theorem dX12_init_59 : decode cX12_init 59 = .ok (.putfield 32, 3) := by decide +kernel
theorem dX12_init_62 : decode cX12_init 62 = .ok (.aload_n 0, 1) := by decide +kernel
theorem dX12_init_63 : decode cX12_init 63 = .ok (.iconst (-1), 1) := by decide +kernel
theorem dX12_init_64 : decode cX12_init 64 = .ok (.putfield 35, 3) := by decide +kernel
theorem dX12_init_67 : decode cX12_init 67 = .ok (.aload_n 0, 1) := by decide +kernel
theorem dX12_init_68 : decode cX12_init 68 = .ok (.iconst 3, 1) := by decide +kernel
theorem dX12_init_69 : decode cX12_init 69 = .ok (.newarray .int, 2) := by decide +kernel
theorem dX12_init_71 : decode cX12_init 71 = .ok (.putfield 38, 3) := by decide +kernel
theorem dX12_init_74 : decode cX12_init 74 = .ok (.aload_n 0, 1) := by decide +kernel
theorem dX12_init_75 : decode cX12_init 75 = .ok (.bipush 10, 2) := by decide +kernel
theorem dX12_init_77 : decode cX12_init 77 = .ok (.newarray .int, 2) := by decide +kernel
theorem dX12_init_79 : decode cX12_init 79 = .ok (.putfield 41, 3) := by decide +kernel
theorem dX12_init_82 : decode cX12_init 82 = .ok (.aload_n 0, 1) := by decide +kernel
theorem dX12_init_83 : decode cX12_init 83 = .ok (.bipush 10, 2) := by decide +kernel
theorem dX12_init_85 : decode cX12_init 85 = .ok (.newarray .int, 2) := by decide +kernel
theorem dX12_init_87 : decode cX12_init 87 = .ok (.putfield 44, 3) := by decide +kernel
theorem dX12_init_90 : decode cX12_init 90 = .ok (.aload_n 0, 1) := by decide +kernel
theorem dX12_init_91 : decode cX12_init 91 = .ok (.bipush 8, 2) := by decide +kernel
theorem dX12_init_93 : decode cX12_init 93 = .ok (.newarray .int, 2) := by decide +kernel
theorem dX12_init_95 : decode cX12_init 95 = .ok (.putfield 47, 3) := by decide +kernel
theorem dX12_init_98 : decode cX12_init 98 = .ok (.aload_n 0, 1) := by decide +kernel
theorem dX12_init_99 : decode cX12_init 99 = .ok (.bipush 53, 2) := by decide +kernel
theorem dX12_init_101 : decode cX12_init 101 = .ok (.newarray .int, 2) := by decide +kernel
theorem dX12_init_103 : decode cX12_init 103 = .ok (.putfield 50, 3) := by decide +kernel
theorem dX12_init_106 : decode cX12_init 106 = .ok (.aload_n 0, 1) := by decide +kernel
theorem dX12_init_107 : decode cX12_init 107 = .ok (.sipush 1400, 3) := by decide +kernel
theorem dX12_init_110 : decode cX12_init 110 = .ok (.newarray .int, 2) := by decide +kernel
theorem dX12_init_112 : decode cX12_init 112 = .ok (.putfield 53, 3) := by decide +kernel
theorem dX12_init_115 : decode cX12_init 115 = .ok (.aload_n 0, 1) := by decide +kernel
theorem dX12_init_116 : decode cX12_init 116 = .ok (.sipush 950, 3) := by decide +kernel
theorem dX12_init_119 : decode cX12_init 119 = .ok (.newarray .int, 2) := by decide +kernel
theorem dX12_init_121 : decode cX12_init 121 = .ok (.putfield 56, 3) := by decide +kernel
theorem dX12_init_124 : decode cX12_init 124 = .ok (.aload_n 0, 1) := by decide +kernel
theorem dX12_init_125 : decode cX12_init 125 = .ok (.bipush 9, 2) := by decide +kernel
theorem dX12_init_127 : decode cX12_init 127 = .ok (.newarray .boolean, 2) := by decide +kernel
theorem dX12_init_129 : decode cX12_init 129 = .ok (.putfield 59, 3) := by decide +kernel
theorem dX12_init_132 : decode cX12_init 132 = .ok (.aload_n 0, 1) := by decide +kernel
theorem dX12_init_133 : decode cX12_init 133 = .ok (.bipush 106, 2) := by decide +kernel
theorem dX12_init_135 : decode cX12_init 135 = .ok (.newarray .int, 2) := by decide +kernel
theorem dX12_init_137 : decode cX12_init 137 = .ok (.putfield 63, 3) := by decide +kernel
theorem dX12_init_140 : decode cX12_init 140 = .ok (.aload_n 0, 1) := by decide +kernel
theorem dX12_init_141 : decode cX12_init 141 = .ok (.sipush 2120, 3) := by decide +kernel
theorem dX12_init_144 : decode cX12_init 144 = .ok (.newarray .int, 2) := by decide +kernel
theorem dX12_init_146 : decode cX12_init 146 = .ok (.putfield 66, 3) := by decide +kernel
theorem dX12_init_149 : decode cX12_init 149 = .ok (.aload_n 0, 1) := by decide +kernel
theorem dX12_init_150 : decode cX12_init 150 = .ok (.bipush 7, 2) := by decide +kernel
theorem dX12_init_152 : decode cX12_init 152 = .ok (.newarray .int, 2) := by decide +kernel
theorem dX12_init_154 : decode cX12_init 154 = .ok (.putfield 69, 3) := by decide +kernel
theorem dX12_init_157 : decode cX12_init 157 = .ok (.aload_n 0, 1) := by decide +kernel
theorem dX12_init_158 : decode cX12_init 158 = .ok (.sipush 950, 3) := by decide +kernel
theorem dX12_init_161 : decode cX12_init 161 = .ok (.newarray .int, 2) := by decide +kernel
theorem dX12_init_163 : decode cX12_init 163 = .ok (.putfield 72, 3) := by decide +kernel
theorem dX12_init_166 : decode cX12_init 166 = .ok (.aload_n 0, 1) := by decide +kernel
theorem dX12_init_167 : decode cX12_init 167 = .ok (.iconst (-1), 1) := by decide +kernel
theorem dX12_init_168 : decode cX12_init 168 = .ok (.putfield 75, 3) := by decide +kernel
theorem dX12_init_171 : decode cX12_init 171 = .ok (.aload_n 0, 1) := by decide +kernel
theorem dX12_init_172 : decode cX12_init 172 = .ok (.bipush 6, 2) := by decide +kernel
theorem dX12_init_174 : decode cX12_init 174 = .ok (.newarray .int, 2) := by decide +kernel
theorem dX12_init_176 : decode cX12_init 176 = .ok (.putfield 78, 3) := by decide +kernel
theorem dX12_init_179 : decode cX12_init 179 = .ok (.aload_n 0, 1) := by decide +kernel
theorem dX12_init_180 : decode cX12_init 180 = .ok (.bipush 10, 2) := by decide +kernel
theorem dX12_init_182 : decode cX12_init 182 = .ok (.newarray .int, 2) := by decide +kernel
theorem dX12_init_184 : decode cX12_init 184 = .ok (.putfield 81, 3) := by decide +kernel
theorem dX12_init_187 : decode cX12_init 187 = .ok (.aload_n 0, 1) := by decide +kernel
theorem dX12_init_188 : decode cX12_init 188 = .ok (.bipush 6, 2) := by decide +kernel
theorem dX12_init_190 : decode cX12_init 190 = .ok (.newarray .int, 2) := by decide +kernel
theorem dX12_init_192 : decode cX12_init 192 = .ok (.putfield 84, 3) := by decide +kernel
theorem dX12_init_195 : decode cX12_init 195 = .ok (.aload_n 0, 1) := by decide +kernel
theorem dX12_init_196 : decode cX12_init 196 = .ok (.sipush 1000, 3) := by decide +kernel
theorem dX12_init_199 : decode cX12_init 199 = .ok (.newarray .int, 2) := by decide +kernel
theorem dX12_init_201 : decode cX12_init 201 = .ok (.putfield 87, 3) := by decide +kernel
theorem dX12_init_204 : decode cX12_init 204 = .ok (.aload_n 0, 1) := by decide +kernel
theorem dX12_init_205 : decode cX12_init 205 = .ok (.bipush 80, 2) := by decide +kernel
theorem dX12_init_207 : decode cX12_init 207 = .ok (.newarray .int, 2) := by decide +kernel
theorem dX12_init_209 : decode cX12_init 209 = .ok (.putfield 90, 3) := by decide +kernel
theorem dX12_init_212 : decode cX12_init 212 = .ok (.aload_n 0, 1) := by decide +kernel
theorem dX12_init_213 : decode cX12_init 213 = .ok (.sipush 9216, 3) := by decide +kernel
theorem dX12_init_216 : decode cX12_init 216 = .ok (.newarray .int, 2) := by decide +kernel
theorem dX12_init_218 : decode cX12_init 218 = .ok (.putfield 93, 3) := by decide +kernel
theorem dX12_init_221 : decode cX12_init 221 = .ok (.aload_n 0, 1) := by decide +kernel
theorem dX12_init_222 : decode cX12_init 222 = .ok (.bipush 24, 2) := by decide +kernel
theorem dX12_init_224 : decode cX12_init 224 = .ok (.newarray .int, 2) := by decide +kernel
theorem dX12_init_226 : decode cX12_init 226 = .ok (.putfield 96, 3) := by decide +kernel
theorem dX12_init_229 : decode cX12_init 229 = .ok (.aload_n 0, 1) := by decide +kernel
theorem dX12_init_230 : decode cX12_init 230 = .ok (.bipush 31, 2) := by decide +kernel
theorem dX12_init_232 : decode cX12_init 232 = .ok (.newarray .int, 2) := by decide +kernel
theorem dX12_init_234 : decode cX12_init 234 = .ok (.putfield 99, 3) := by decide +kernel
theorem dX12_init_237 : decode cX12_init 237 = .ok (.aload_n 0, 1) := by decide +kernel
theorem dX12_init_238 : decode cX12_init 238 = .ok (.sipush 3100, 3) := by decide +kernel
theorem dX12_init_241 : decode cX12_init 241 = .ok (.newarray .int, 2) := by decide +kernel
theorem dX12_init_243 : decode cX12_init 243 = .ok (.putfield 102, 3) := by decide +kernel
theorem dX12_init_246 : decode cX12_init 246 = .ok (.aload_n 0, 1) := by decide +kernel
theorem dX12_init_247 : decode cX12_init 247 = .ok (.bipush 53, 2) := by decide +kernel
theorem dX12_init_249 : decode cX12_init 249 = .ok (.newarray .int, 2) := by decide +kernel
theorem dX12_init_251 : decode cX12_init 251 = .ok (.putfield 105, 3) := by decide +kernel
theorem dX12_init_254 : decode cX12_init 254 = .ok (.aload_n 0, 1) := by decide +kernel
theorem dX12_init_255 : decode cX12_init 255 = .ok (.sipush 2120, 3) := by decide +kernel
theorem dX12_init_258 : decode cX12_init 258 = .ok (.newarray .int, 2) := by decide +kernel
theorem dX12_init_260 : decode cX12_init 260 = .ok (.putfield 108, 3) := by decide +kernel
theorem dX12_init_263 : decode cX12_init 263 = .ok (.aload_n 0, 1) := by decide +kernel
theorem dX12_init_264 : decode cX12_init 264 = .ok (.bipush 24, 2) := by decide +kernel
theorem dX12_init_266 : decode cX12_init 266 = .ok (.newarray .int, 2) := by decide +kernel
theorem dX12_init_268 : decode cX12_init 268 = .ok (.putfield 111, 3) := by decide +kernel
theorem dX12_init_271 : decode cX12_init 271 = .ok (.return_, 1) := by decide +kernel
theorem dX12_thrown_0 : decode cX12_thrown 0 = .ok (.aload_n 0, 1) := by decide +kernel
theorem dX12_thrown_1 : decode cX12_thrown 1 = .ok (.getfield 114, 3) := by decide +kernel
theorem dX12_thrown_4 : decode cX12_thrown 4 = .ok (.ireturn, 1) := by decide +kernel
theorem dX12_right_0 : decode cX12_right 0 = .ok (.aload_n 0, 1) := by decide +kernel
theorem dX12_right_1 : decode cX12_right 1 = .ok (.getfield 114, 3) := by decide +kernel
theorem dX12_right_4 : decode cX12_right 4 = .ok (.ifCond .ne 12, 3) := by decide +kernel
theorem dX12_right_7 : decode cX12_right 7 = .ok (.iload_n 1, 1) := by decide +kernel
theorem dX12_right_8 : decode cX12_right 8 = .ok (.ifCond .ne 8, 3) := by decide +kernel
theorem dX12_right_11 : decode cX12_right 11 = .ok (.aload_n 0, 1) := by decide +kernel
theorem dX12_right_12 : decode cX12_right 12 = .ok (.iload_n 2, 1) := by decide +kernel
theorem dX12_right_13 : decode cX12_right 13 = .ok (.putfield 114, 3) := by decide +kernel
theorem dX12_right_16 : decode cX12_right 16 = .ok (.aload_n 0, 1) := by decide +kernel
theorem dX12_right_17 : decode cX12_right 17 = .ok (.getfield 114, 3) := by decide +kernel
theorem dX12_right_20 : decode cX12_right 20 = .ok (.ifCond .ne 7, 3) := by decide +kernel
theorem dX12_right_23 : decode cX12_right 23 = .ok (.iconst 1, 1) := by decide +kernel
theorem dX12_right_24 : decode cX12_right 24 = .ok (.goto 4, 3) := by decide +kernel
theorem dX12_right_27 : decode cX12_right 27 = .ok (.iconst 0, 1) := by decide +kernel
theorem dX12_right_28 : decode cX12_right 28 = .ok (.ireturn, 1) := by decide +kernel
theorem dX12_within_0 : decode cX12_within 0 = .ok (.iload_n 0, 1) := by decide +kernel
theorem dX12_within_1 : decode cX12_within 1 = .ok (.iload_n 1, 1) := by decide +kernel
theorem dX12_within_2 : decode cX12_within 2 = .ok (.if_icmp .lt 12, 3) := by decide +kernel
theorem dX12_within_5 : decode cX12_within 5 = .ok (.iload_n 0, 1) := by decide +kernel
theorem dX12_within_6 : decode cX12_within 6 = .ok (.iload_n 2, 1) := by decide +kernel
theorem dX12_within_7 : decode cX12_within 7 = .ok (.if_icmp .gt 7, 3) := by decide +kernel
theorem dX12_within_10 : decode cX12_within 10 = .ok (.iconst 1, 1) := by decide +kernel
theorem dX12_within_11 : decode cX12_within 11 = .ok (.goto 4, 3) := by decide +kernel
theorem dX12_within_14 : decode cX12_within 14 = .ok (.iconst 0, 1) := by decide +kernel
theorem dX12_within_15 : decode cX12_within 15 = .ok (.ireturn, 1) := by decide +kernel
theorem dX12_kept_0 : decode cX12_kept 0 = .ok (.iload_n 0, 1) := by decide +kernel
theorem dX12_kept_1 : decode cX12_kept 1 = .ok (.iload_n 1, 1) := by decide +kernel
theorem dX12_kept_2 : decode cX12_kept 2 = .ok (.if_icmp .ge 7, 3) := by decide +kernel
theorem dX12_kept_5 : decode cX12_kept 5 = .ok (.iload_n 1, 1) := by decide +kernel
theorem dX12_kept_6 : decode cX12_kept 6 = .ok (.goto 13, 3) := by decide +kernel
theorem dX12_kept_9 : decode cX12_kept 9 = .ok (.iload_n 0, 1) := by decide +kernel
theorem dX12_kept_10 : decode cX12_kept 10 = .ok (.iload_n 2, 1) := by decide +kernel
theorem dX12_kept_11 : decode cX12_kept 11 = .ok (.if_icmp .le 7, 3) := by decide +kernel
theorem dX12_kept_14 : decode cX12_kept 14 = .ok (.iload_n 2, 1) := by decide +kernel
theorem dX12_kept_15 : decode cX12_kept 15 = .ok (.goto 4, 3) := by decide +kernel
theorem dX12_kept_18 : decode cX12_kept 18 = .ok (.iload_n 0, 1) := by decide +kernel
theorem dX12_kept_19 : decode cX12_kept 19 = .ok (.ireturn, 1) := by decide +kernel
theorem dX12_copies_0 : decode cX12_copies 0 = .ok (.iconst 0, 1) := by decide +kernel
theorem dX12_copies_1 : decode cX12_copies 1 = .ok (.istore_n 3, 1) := by decide +kernel
theorem dX12_copies_2 : decode cX12_copies 2 = .ok (.iload_n 3, 1) := by decide +kernel
theorem dX12_copies_3 : decode cX12_copies 3 = .ok (.aload_n 1, 1) := by decide +kernel
theorem dX12_copies_4 : decode cX12_copies 4 = .ok (.arraylength, 1) := by decide +kernel
theorem dX12_copies_5 : decode cX12_copies 5 = .ok (.if_icmp .ge 15, 3) := by decide +kernel
theorem dX12_copies_8 : decode cX12_copies 8 = .ok (.aload_n 2, 1) := by decide +kernel
theorem dX12_copies_9 : decode cX12_copies 9 = .ok (.iload_n 3, 1) := by decide +kernel
theorem dX12_copies_10 : decode cX12_copies 10 = .ok (.aload_n 1, 1) := by decide +kernel
theorem dX12_copies_11 : decode cX12_copies 11 = .ok (.iload_n 3, 1) := by decide +kernel
theorem dX12_copies_12 : decode cX12_copies 12 = .ok (.iaload, 1) := by decide +kernel
theorem dX12_copies_13 : decode cX12_copies 13 = .ok (.iastore, 1) := by decide +kernel
theorem dX12_copies_14 : decode cX12_copies 14 = .ok (.iinc 3 1, 3) := by decide +kernel
theorem dX12_copies_17 : decode cX12_copies 17 = .ok (.goto (-15), 3) := by decide +kernel
theorem dX12_copies_20 : decode cX12_copies 20 = .ok (.return_, 1) := by decide +kernel
theorem dX12_bits_0 : decode cX12_bits 0 = .ok (.iconst 0, 1) := by decide +kernel
theorem dX12_bits_1 : decode cX12_bits 1 = .ok (.istore_n 1, 1) := by decide +kernel
theorem dX12_bits_2 : decode cX12_bits 2 = .ok (.iconst 0, 1) := by decide +kernel
theorem dX12_bits_3 : decode cX12_bits 3 = .ok (.istore_n 2, 1) := by decide +kernel
theorem dX12_bits_4 : decode cX12_bits 4 = .ok (.iload_n 2, 1) := by decide +kernel
theorem dX12_bits_5 : decode cX12_bits 5 = .ok (.bipush 16, 2) := by decide +kernel
theorem dX12_bits_7 : decode cX12_bits 7 = .ok (.if_icmp .ge 17, 3) := by decide +kernel
theorem dX12_bits_10 : decode cX12_bits 10 = .ok (.iload_n 1, 1) := by decide +kernel
theorem dX12_bits_11 : decode cX12_bits 11 = .ok (.iload_n 0, 1) := by decide +kernel
theorem dX12_bits_12 : decode cX12_bits 12 = .ok (.iload_n 2, 1) := by decide +kernel
theorem dX12_bits_13 : decode cX12_bits 13 = .ok (.ishr, 1) := by decide +kernel
theorem dX12_bits_14 : decode cX12_bits 14 = .ok (.iconst 1, 1) := by decide +kernel
theorem dX12_bits_15 : decode cX12_bits 15 = .ok (.iand, 1) := by decide +kernel
theorem dX12_bits_16 : decode cX12_bits 16 = .ok (.iadd, 1) := by decide +kernel
theorem dX12_bits_17 : decode cX12_bits 17 = .ok (.istore_n 1, 1) := by decide +kernel
theorem dX12_bits_18 : decode cX12_bits 18 = .ok (.iinc 2 1, 3) := by decide +kernel
theorem dX12_bits_21 : decode cX12_bits 21 = .ok (.goto (-17), 3) := by decide +kernel
theorem dX12_bits_24 : decode cX12_bits 24 = .ok (.iload_n 1, 1) := by decide +kernel
theorem dX12_bits_25 : decode cX12_bits 25 = .ok (.ireturn, 1) := by decide +kernel
theorem dX12_feed_0 : decode cX12_feed 0 = .ok (.aload_n 0, 1) := by decide +kernel
theorem dX12_feed_1 : decode cX12_feed 1 = .ok (.iconst 0, 1) := by decide +kernel
theorem dX12_feed_2 : decode cX12_feed 2 = .ok (.putfield 114, 3) := by decide +kernel
theorem dX12_feed_5 : decode cX12_feed 5 = .ok (.aload_n 0, 1) := by decide +kernel
theorem dX12_feed_6 : decode cX12_feed 6 = .ok (.getfield 117, 3) := by decide +kernel
theorem dX12_feed_9 : decode cX12_feed 9 = .ok (.bipush 20, 2) := by decide +kernel
theorem dX12_feed_11 : decode cX12_feed 11 = .ok (.iadd, 1) := by decide +kernel
theorem dX12_feed_12 : decode cX12_feed 12 = .ok (.sipush 700, 3) := by decide +kernel
theorem dX12_feed_15 : decode cX12_feed 15 = .ok (.if_icmp .le 5, 3) := by decide +kernel
theorem dX12_feed_18 : decode cX12_feed 18 = .ok (.iconst (-1), 1) := by decide +kernel
theorem dX12_feed_19 : decode cX12_feed 19 = .ok (.ireturn, 1) := by decide +kernel
theorem dX12_feed_20 : decode cX12_feed 20 = .ok (.aload_n 0, 1) := by decide +kernel
theorem dX12_feed_21 : decode cX12_feed 21 = .ok (.iload_n 1, 1) := by decide +kernel
theorem dX12_feed_22 : decode cX12_feed 22 = .ok (.invokevirtual 120, 3) := by decide +kernel
theorem dX12_feed_25 : decode cX12_feed 25 = .ok (.aload_n 0, 1) := by decide +kernel
theorem dX12_feed_26 : decode cX12_feed 26 = .ok (.iload_n 2, 1) := by decide +kernel
theorem dX12_feed_27 : decode cX12_feed 27 = .ok (.invokevirtual 120, 3) := by decide +kernel
theorem dX12_feed_30 : decode cX12_feed 30 = .ok (.aload_n 0, 1) := by decide +kernel
theorem dX12_feed_31 : decode cX12_feed 31 = .ok (.iload_n 3, 1) := by decide +kernel
theorem dX12_feed_32 : decode cX12_feed 32 = .ok (.invokevirtual 120, 3) := by decide +kernel
theorem dX12_feed_35 : decode cX12_feed 35 = .ok (.aload_n 0, 1) := by decide +kernel
theorem dX12_feed_36 : decode cX12_feed 36 = .ok (.iload 4, 2) := by decide +kernel
theorem dX12_feed_38 : decode cX12_feed 38 = .ok (.invokevirtual 120, 3) := by decide +kernel
theorem dX12_feed_41 : decode cX12_feed 41 = .ok (.aload_n 0, 1) := by decide +kernel
theorem dX12_feed_42 : decode cX12_feed 42 = .ok (.iload 5, 2) := by decide +kernel
theorem dX12_feed_44 : decode cX12_feed 44 = .ok (.invokevirtual 120, 3) := by decide +kernel
theorem dX12_feed_47 : decode cX12_feed 47 = .ok (.aload_n 0, 1) := by decide +kernel
theorem dX12_feed_48 : decode cX12_feed 48 = .ok (.getfield 117, 3) := by decide +kernel
theorem dX12_feed_51 : decode cX12_feed 51 = .ok (.ireturn, 1) := by decide +kernel
theorem dX12_lays_0 : decode cX12_lays 0 = .ok (.bipush 24, 2) := by decide +kernel
theorem dX12_lays_2 : decode cX12_lays 2 = .ok (.istore_n 2, 1) := by decide +kernel
theorem dX12_lays_3 : decode cX12_lays 3 = .ok (.iload_n 2, 1) := by decide +kernel
theorem dX12_lays_4 : decode cX12_lays 4 = .ok (.ifCond .lt 35, 3) := by decide +kernel
theorem dX12_lays_7 : decode cX12_lays 7 = .ok (.aload_n 0, 1) := by decide +kernel
theorem dX12_lays_8 : decode cX12_lays 8 = .ok (.getfield 32, 3) := by decide +kernel
theorem dX12_lays_11 : decode cX12_lays 11 = .ok (.aload_n 0, 1) := by decide +kernel
theorem dX12_lays_12 : decode cX12_lays 12 = .ok (.getfield 117, 3) := by decide +kernel
theorem dX12_lays_15 : decode cX12_lays 15 = .ok (.iload_n 1, 1) := by decide +kernel
theorem dX12_lays_16 : decode cX12_lays 16 = .ok (.iload_n 2, 1) := by decide +kernel
theorem dX12_lays_17 : decode cX12_lays 17 = .ok (.ishr, 1) := by decide +kernel
theorem dX12_lays_18 : decode cX12_lays 18 = .ok (.sipush 255, 3) := by decide +kernel
theorem dX12_lays_21 : decode cX12_lays 21 = .ok (.iand, 1) := by decide +kernel
theorem dX12_lays_22 : decode cX12_lays 22 = .ok (.iastore, 1) := by decide +kernel
theorem dX12_lays_23 : decode cX12_lays 23 = .ok (.aload_n 0, 1) := by decide +kernel
theorem dX12_lays_24 : decode cX12_lays 24 = .ok (.dup, 1) := by decide +kernel
theorem dX12_lays_25 : decode cX12_lays 25 = .ok (.getfield 117, 3) := by decide +kernel
theorem dX12_lays_28 : decode cX12_lays 28 = .ok (.iconst 1, 1) := by decide +kernel
theorem dX12_lays_29 : decode cX12_lays 29 = .ok (.iadd, 1) := by decide +kernel
theorem dX12_lays_30 : decode cX12_lays 30 = .ok (.putfield 117, 3) := by decide +kernel
theorem dX12_lays_33 : decode cX12_lays 33 = .ok (.iinc 2 (-8), 3) := by decide +kernel
theorem dX12_lays_36 : decode cX12_lays 36 = .ok (.goto (-33), 3) := by decide +kernel
theorem dX12_lays_39 : decode cX12_lays 39 = .ok (.return_, 1) := by decide +kernel
theorem dX12_byteAt_0 : decode cX12_byteAt 0 = .ok (.iload_n 1, 1) := by decide +kernel
theorem dX12_byteAt_1 : decode cX12_byteAt 1 = .ok (.aload_n 0, 1) := by decide +kernel
theorem dX12_byteAt_2 : decode cX12_byteAt 2 = .ok (.getfield 124, 3) := by decide +kernel
theorem dX12_byteAt_5 : decode cX12_byteAt 5 = .ok (.if_icmp .ge 12, 3) := by decide +kernel
theorem dX12_byteAt_8 : decode cX12_byteAt 8 = .ok (.aload_n 0, 1) := by decide +kernel
theorem dX12_byteAt_9 : decode cX12_byteAt 9 = .ok (.getfield 32, 3) := by decide +kernel
theorem dX12_byteAt_12 : decode cX12_byteAt 12 = .ok (.iload_n 1, 1) := by decide +kernel
theorem dX12_byteAt_13 : decode cX12_byteAt 13 = .ok (.iaload, 1) := by decide +kernel
theorem dX12_byteAt_14 : decode cX12_byteAt 14 = .ok (.goto 4, 3) := by decide +kernel
theorem dX12_byteAt_17 : decode cX12_byteAt 17 = .ok (.iconst 0, 1) := by decide +kernel
theorem dX12_byteAt_18 : decode cX12_byteAt 18 = .ok (.ireturn, 1) := by decide +kernel
theorem dX12_isLetter_0 : decode cX12_isLetter 0 = .ok (.iload_n 0, 1) := by decide +kernel
theorem dX12_isLetter_1 : decode cX12_isLetter 1 = .ok (.bipush 97, 2) := by decide +kernel
theorem dX12_isLetter_3 : decode cX12_isLetter 3 = .ok (.if_icmp .lt 13, 3) := by decide +kernel
theorem dX12_isLetter_6 : decode cX12_isLetter 6 = .ok (.iload_n 0, 1) := by decide +kernel
theorem dX12_isLetter_7 : decode cX12_isLetter 7 = .ok (.bipush 122, 2) := by decide +kernel
theorem dX12_isLetter_9 : decode cX12_isLetter 9 = .ok (.if_icmp .gt 7, 3) := by decide +kernel
theorem dX12_isLetter_12 : decode cX12_isLetter 12 = .ok (.iconst 1, 1) := by decide +kernel
theorem dX12_isLetter_13 : decode cX12_isLetter 13 = .ok (.goto 4, 3) := by decide +kernel
theorem dX12_isLetter_16 : decode cX12_isLetter 16 = .ok (.iconst 0, 1) := by decide +kernel
theorem dX12_isLetter_17 : decode cX12_isLetter 17 = .ok (.ireturn, 1) := by decide +kernel
theorem dX12_isDigit_0 : decode cX12_isDigit 0 = .ok (.iload_n 0, 1) := by decide +kernel
theorem dX12_isDigit_1 : decode cX12_isDigit 1 = .ok (.bipush 48, 2) := by decide +kernel
theorem dX12_isDigit_3 : decode cX12_isDigit 3 = .ok (.if_icmp .lt 13, 3) := by decide +kernel
theorem dX12_isDigit_6 : decode cX12_isDigit 6 = .ok (.iload_n 0, 1) := by decide +kernel
theorem dX12_isDigit_7 : decode cX12_isDigit 7 = .ok (.bipush 57, 2) := by decide +kernel
theorem dX12_isDigit_9 : decode cX12_isDigit 9 = .ok (.if_icmp .gt 7, 3) := by decide +kernel
theorem dX12_isDigit_12 : decode cX12_isDigit 12 = .ok (.iconst 1, 1) := by decide +kernel
theorem dX12_isDigit_13 : decode cX12_isDigit 13 = .ok (.goto 4, 3) := by decide +kernel
theorem dX12_isDigit_16 : decode cX12_isDigit 16 = .ok (.iconst 0, 1) := by decide +kernel
theorem dX12_isDigit_17 : decode cX12_isDigit 17 = .ok (.ireturn, 1) := by decide +kernel
theorem dX12_reads_0 : decode cX12_reads 0 = .ok (.aload_n 0, 1) := by decide +kernel
theorem dX12_reads_1 : decode cX12_reads 1 = .ok (.getfield 127, 3) := by decide +kernel
theorem dX12_reads_4 : decode cX12_reads 4 = .ok (.aload_n 0, 1) := by decide +kernel
theorem dX12_reads_5 : decode cX12_reads 5 = .ok (.getfield 124, 3) := by decide +kernel
theorem dX12_reads_8 : decode cX12_reads 8 = .ok (.if_icmp .ge 42, 3) := by decide +kernel
theorem dX12_reads_11 : decode cX12_reads 11 = .ok (.aload_n 0, 1) := by decide +kernel
theorem dX12_reads_12 : decode cX12_reads 12 = .ok (.aload_n 0, 1) := by decide +kernel
theorem dX12_reads_13 : decode cX12_reads 13 = .ok (.getfield 127, 3) := by decide +kernel
theorem dX12_reads_16 : decode cX12_reads 16 = .ok (.invokevirtual 130, 3) := by decide +kernel
theorem dX12_reads_19 : decode cX12_reads 19 = .ok (.bipush 32, 2) := by decide +kernel
theorem dX12_reads_21 : decode cX12_reads 21 = .ok (.if_icmp .eq 16, 3) := by decide +kernel
theorem dX12_reads_24 : decode cX12_reads 24 = .ok (.aload_n 0, 1) := by decide +kernel
theorem dX12_reads_25 : decode cX12_reads 25 = .ok (.aload_n 0, 1) := by decide +kernel
theorem dX12_reads_26 : decode cX12_reads 26 = .ok (.getfield 127, 3) := by decide +kernel
theorem dX12_reads_29 : decode cX12_reads 29 = .ok (.invokevirtual 130, 3) := by decide +kernel
theorem dX12_reads_32 : decode cX12_reads 32 = .ok (.bipush 10, 2) := by decide +kernel
theorem dX12_reads_34 : decode cX12_reads 34 = .ok (.if_icmp .ne 16, 3) := by decide +kernel
theorem dX12_reads_37 : decode cX12_reads 37 = .ok (.aload_n 0, 1) := by decide +kernel
theorem dX12_reads_38 : decode cX12_reads 38 = .ok (.dup, 1) := by decide +kernel
theorem dX12_reads_39 : decode cX12_reads 39 = .ok (.getfield 127, 3) := by decide +kernel
theorem dX12_reads_42 : decode cX12_reads 42 = .ok (.iconst 1, 1) := by decide +kernel
theorem dX12_reads_43 : decode cX12_reads 43 = .ok (.iadd, 1) := by decide +kernel
theorem dX12_reads_44 : decode cX12_reads 44 = .ok (.putfield 127, 3) := by decide +kernel
theorem dX12_reads_47 : decode cX12_reads 47 = .ok (.goto (-47), 3) := by decide +kernel
theorem dX12_reads_50 : decode cX12_reads 50 = .ok (.aload_n 0, 1) := by decide +kernel
theorem dX12_reads_51 : decode cX12_reads 51 = .ok (.aload_n 0, 1) := by decide +kernel
theorem dX12_reads_52 : decode cX12_reads 52 = .ok (.getfield 127, 3) := by decide +kernel
theorem dX12_reads_55 : decode cX12_reads 55 = .ok (.putfield 134, 3) := by decide +kernel
theorem dX12_reads_58 : decode cX12_reads 58 = .ok (.aload_n 0, 1) := by decide +kernel
theorem dX12_reads_59 : decode cX12_reads 59 = .ok (.lconst 0, 1) := by decide +kernel
theorem dX12_reads_60 : decode cX12_reads 60 = .ok (.putfield 137, 3) := by decide +kernel
theorem dX12_reads_63 : decode cX12_reads 63 = .ok (.aload_n 0, 1) := by decide +kernel
theorem dX12_reads_64 : decode cX12_reads 64 = .ok (.iconst 0, 1) := by decide +kernel
theorem dX12_reads_65 : decode cX12_reads 65 = .ok (.putfield 141, 3) := by decide +kernel
theorem dX12_reads_68 : decode cX12_reads 68 = .ok (.aload_n 0, 1) := by decide +kernel
theorem dX12_reads_69 : decode cX12_reads 69 = .ok (.aload_n 0, 1) := by decide +kernel
theorem dX12_reads_70 : decode cX12_reads 70 = .ok (.getfield 127, 3) := by decide +kernel
theorem dX12_reads_73 : decode cX12_reads 73 = .ok (.invokevirtual 130, 3) := by decide +kernel
theorem dX12_reads_76 : decode cX12_reads 76 = .ok (.istore_n 1, 1) := by decide +kernel
theorem dX12_reads_77 : decode cX12_reads 77 = .ok (.aload_n 0, 1) := by decide +kernel
theorem dX12_reads_78 : decode cX12_reads 78 = .ok (.iload_n 1, 1) := by decide +kernel
theorem dX12_reads_79 : decode cX12_reads 79 = .ok (.putfield 144, 3) := by decide +kernel
theorem dX12_reads_82 : decode cX12_reads 82 = .ok (.aload_n 0, 1) := by decide +kernel
theorem dX12_reads_83 : decode cX12_reads 83 = .ok (.getfield 127, 3) := by decide +kernel
theorem dX12_reads_86 : decode cX12_reads 86 = .ok (.aload_n 0, 1) := by decide +kernel
theorem dX12_reads_87 : decode cX12_reads 87 = .ok (.getfield 124, 3) := by decide +kernel
theorem dX12_reads_90 : decode cX12_reads 90 = .ok (.if_icmp .lt 11, 3) := by decide +kernel
theorem dX12_reads_93 : decode cX12_reads 93 = .ok (.aload_n 0, 1) := by decide +kernel
theorem dX12_reads_94 : decode cX12_reads 94 = .ok (.iconst 0, 1) := by decide +kernel
theorem dX12_reads_95 : decode cX12_reads 95 = .ok (.putfield 147, 3) := by decide +kernel
theorem dX12_reads_98 : decode cX12_reads 98 = .ok (.goto 233, 3) := by decide +kernel
theorem dX12_reads_101 : decode cX12_reads 101 = .ok (.iload_n 1, 1) := by decide +kernel
theorem dX12_reads_102 : decode cX12_reads 102 = .ok (.invokestatic 150, 3) := by decide +kernel
theorem dX12_reads_105 : decode cX12_reads 105 = .ok (.ifCond .eq 75, 3) := by decide +kernel
theorem dX12_reads_108 : decode cX12_reads 108 = .ok (.aload_n 0, 1) := by decide +kernel
theorem dX12_reads_109 : decode cX12_reads 109 = .ok (.aload_n 0, 1) := by decide +kernel
theorem dX12_reads_110 : decode cX12_reads 110 = .ok (.getfield 127, 3) := by decide +kernel
theorem dX12_reads_113 : decode cX12_reads 113 = .ok (.invokevirtual 130, 3) := by decide +kernel
theorem dX12_reads_116 : decode cX12_reads 116 = .ok (.invokestatic 150, 3) := by decide +kernel
theorem dX12_reads_119 : decode cX12_reads 119 = .ok (.ifCond .eq 53, 3) := by decide +kernel
theorem dX12_reads_122 : decode cX12_reads 122 = .ok (.aload_n 0, 1) := by decide +kernel
theorem dX12_reads_123 : decode cX12_reads 123 = .ok (.getfield 127, 3) := by decide +kernel
theorem dX12_reads_126 : decode cX12_reads 126 = .ok (.aload_n 0, 1) := by decide +kernel
theorem dX12_reads_127 : decode cX12_reads 127 = .ok (.getfield 134, 3) := by decide +kernel
theorem dX12_reads_130 : decode cX12_reads 130 = .ok (.isub, 1) := by decide +kernel
theorem dX12_reads_131 : decode cX12_reads 131 = .ok (.bipush 7, 2) := by decide +kernel
theorem dX12_reads_133 : decode cX12_reads 133 = .ok (.if_icmp .ge 26, 3) := by decide +kernel
theorem dX12_reads_136 : decode cX12_reads 136 = .ok (.aload_n 0, 1) := by decide +kernel
theorem dX12_reads_137 : decode cX12_reads 137 = .ok (.aload_n 0, 1) := by decide +kernel
theorem dX12_reads_138 : decode cX12_reads 138 = .ok (.getfield 137, 3) := by decide +kernel
theorem dX12_reads_141 : decode cX12_reads 141 = .ok (.iconst 5, 1) := by decide +kernel
theorem dX12_reads_142 : decode cX12_reads 142 = .ok (.lshl, 1) := by decide +kernel
theorem dX12_reads_143 : decode cX12_reads 143 = .ok (.aload_n 0, 1) := by decide +kernel
theorem dX12_reads_144 : decode cX12_reads 144 = .ok (.aload_n 0, 1) := by decide +kernel
theorem dX12_reads_145 : decode cX12_reads 145 = .ok (.getfield 127, 3) := by decide +kernel
theorem dX12_reads_148 : decode cX12_reads 148 = .ok (.invokevirtual 130, 3) := by decide +kernel
theorem dX12_reads_151 : decode cX12_reads 151 = .ok (.bipush 96, 2) := by decide +kernel
theorem dX12_reads_153 : decode cX12_reads 153 = .ok (.isub, 1) := by decide +kernel
theorem dX12_reads_154 : decode cX12_reads 154 = .ok (.i2l, 1) := by decide +kernel
theorem dX12_reads_155 : decode cX12_reads 155 = .ok (.lor, 1) := by decide +kernel
theorem dX12_reads_156 : decode cX12_reads 156 = .ok (.putfield 137, 3) := by decide +kernel
theorem dX12_reads_159 : decode cX12_reads 159 = .ok (.aload_n 0, 1) := by decide +kernel
theorem dX12_reads_160 : decode cX12_reads 160 = .ok (.dup, 1) := by decide +kernel
theorem dX12_reads_161 : decode cX12_reads 161 = .ok (.getfield 127, 3) := by decide +kernel
theorem dX12_reads_164 : decode cX12_reads 164 = .ok (.iconst 1, 1) := by decide +kernel
theorem dX12_reads_165 : decode cX12_reads 165 = .ok (.iadd, 1) := by decide +kernel
theorem dX12_reads_166 : decode cX12_reads 166 = .ok (.putfield 127, 3) := by decide +kernel
theorem dX12_reads_169 : decode cX12_reads 169 = .ok (.goto (-61), 3) := by decide +kernel
theorem dX12_reads_172 : decode cX12_reads 172 = .ok (.aload_n 0, 1) := by decide +kernel
theorem dX12_reads_173 : decode cX12_reads 173 = .ok (.iconst 1, 1) := by decide +kernel
theorem dX12_reads_174 : decode cX12_reads 174 = .ok (.putfield 147, 3) := by decide +kernel
theorem dX12_reads_177 : decode cX12_reads 177 = .ok (.goto 154, 3) := by decide +kernel
theorem dX12_reads_180 : decode cX12_reads 180 = .ok (.iload_n 1, 1) := by decide +kernel
theorem dX12_reads_181 : decode cX12_reads 181 = .ok (.invokestatic 154, 3) := by decide +kernel
theorem dX12_reads_184 : decode cX12_reads 184 = .ok (.ifCond .eq 74, 3) := by decide +kernel
theorem dX12_reads_187 : decode cX12_reads 187 = .ok (.aload_n 0, 1) := by decide +kernel
theorem dX12_reads_188 : decode cX12_reads 188 = .ok (.aload_n 0, 1) := by decide +kernel
theorem dX12_reads_189 : decode cX12_reads 189 = .ok (.getfield 127, 3) := by decide +kernel
theorem dX12_reads_192 : decode cX12_reads 192 = .ok (.invokevirtual 130, 3) := by decide +kernel
theorem dX12_reads_195 : decode cX12_reads 195 = .ok (.invokestatic 154, 3) := by decide +kernel
theorem dX12_reads_198 : decode cX12_reads 198 = .ok (.ifCond .eq 52, 3) := by decide +kernel
theorem dX12_reads_201 : decode cX12_reads 201 = .ok (.aload_n 0, 1) := by decide +kernel
theorem dX12_reads_202 : decode cX12_reads 202 = .ok (.getfield 127, 3) := by decide +kernel
theorem dX12_reads_205 : decode cX12_reads 205 = .ok (.aload_n 0, 1) := by decide +kernel
theorem dX12_reads_206 : decode cX12_reads 206 = .ok (.getfield 134, 3) := by decide +kernel
theorem dX12_reads_209 : decode cX12_reads 209 = .ok (.isub, 1) := by decide +kernel
theorem dX12_reads_210 : decode cX12_reads 210 = .ok (.iconst 4, 1) := by decide +kernel
theorem dX12_reads_211 : decode cX12_reads 211 = .ok (.if_icmp .ge 26, 3) := by decide +kernel
theorem dX12_reads_214 : decode cX12_reads 214 = .ok (.aload_n 0, 1) := by decide +kernel
theorem dX12_reads_215 : decode cX12_reads 215 = .ok (.bipush 10, 2) := by decide +kernel
theorem dX12_reads_217 : decode cX12_reads 217 = .ok (.aload_n 0, 1) := by decide +kernel
theorem dX12_reads_218 : decode cX12_reads 218 = .ok (.getfield 141, 3) := by decide +kernel
theorem dX12_reads_221 : decode cX12_reads 221 = .ok (.imul, 1) := by decide +kernel
theorem dX12_reads_222 : decode cX12_reads 222 = .ok (.aload_n 0, 1) := by decide +kernel
theorem dX12_reads_223 : decode cX12_reads 223 = .ok (.aload_n 0, 1) := by decide +kernel
theorem dX12_reads_224 : decode cX12_reads 224 = .ok (.getfield 127, 3) := by decide +kernel
theorem dX12_reads_227 : decode cX12_reads 227 = .ok (.invokevirtual 130, 3) := by decide +kernel
theorem dX12_reads_230 : decode cX12_reads 230 = .ok (.iadd, 1) := by decide +kernel
theorem dX12_reads_231 : decode cX12_reads 231 = .ok (.bipush 48, 2) := by decide +kernel
theorem dX12_reads_233 : decode cX12_reads 233 = .ok (.isub, 1) := by decide +kernel
theorem dX12_reads_234 : decode cX12_reads 234 = .ok (.putfield 141, 3) := by decide +kernel
theorem dX12_reads_237 : decode cX12_reads 237 = .ok (.aload_n 0, 1) := by decide +kernel
theorem dX12_reads_238 : decode cX12_reads 238 = .ok (.dup, 1) := by decide +kernel
theorem dX12_reads_239 : decode cX12_reads 239 = .ok (.getfield 127, 3) := by decide +kernel
theorem dX12_reads_242 : decode cX12_reads 242 = .ok (.iconst 1, 1) := by decide +kernel
theorem dX12_reads_243 : decode cX12_reads 243 = .ok (.iadd, 1) := by decide +kernel
theorem dX12_reads_244 : decode cX12_reads 244 = .ok (.putfield 127, 3) := by decide +kernel
theorem dX12_reads_247 : decode cX12_reads 247 = .ok (.goto (-60), 3) := by decide +kernel
theorem dX12_reads_250 : decode cX12_reads 250 = .ok (.aload_n 0, 1) := by decide +kernel
theorem dX12_reads_251 : decode cX12_reads 251 = .ok (.iconst 2, 1) := by decide +kernel
theorem dX12_reads_252 : decode cX12_reads 252 = .ok (.putfield 147, 3) := by decide +kernel
theorem dX12_reads_255 : decode cX12_reads 255 = .ok (.goto 76, 3) := by decide +kernel
theorem dX12_reads_258 : decode cX12_reads 258 = .ok (.aload_n 0, 1) := by decide +kernel
theorem dX12_reads_259 : decode cX12_reads 259 = .ok (.dup, 1) := by decide +kernel
theorem dX12_reads_260 : decode cX12_reads 260 = .ok (.getfield 127, 3) := by decide +kernel
theorem dX12_reads_263 : decode cX12_reads 263 = .ok (.iconst 1, 1) := by decide +kernel
theorem dX12_reads_264 : decode cX12_reads 264 = .ok (.iadd, 1) := by decide +kernel
theorem dX12_reads_265 : decode cX12_reads 265 = .ok (.putfield 127, 3) := by decide +kernel
theorem dX12_reads_268 : decode cX12_reads 268 = .ok (.aload_n 0, 1) := by decide +kernel
theorem dX12_reads_269 : decode cX12_reads 269 = .ok (.iload_n 1, 1) := by decide +kernel
theorem dX12_reads_270 : decode cX12_reads 270 = .ok (.bipush 59, 2) := by decide +kernel
theorem dX12_reads_272 : decode cX12_reads 272 = .ok (.if_icmp .eq 51, 3) := by decide +kernel
theorem dX12_reads_275 : decode cX12_reads 275 = .ok (.iload_n 1, 1) := by decide +kernel
theorem dX12_reads_276 : decode cX12_reads 276 = .ok (.bipush 40, 2) := by decide +kernel
theorem dX12_reads_278 : decode cX12_reads 278 = .ok (.if_icmp .eq 45, 3) := by decide +kernel
theorem dX12_reads_281 : decode cX12_reads 281 = .ok (.iload_n 1, 1) := by decide +kernel
theorem dX12_reads_282 : decode cX12_reads 282 = .ok (.bipush 41, 2) := by decide +kernel
theorem dX12_reads_284 : decode cX12_reads 284 = .ok (.if_icmp .eq 39, 3) := by decide +kernel
theorem dX12_reads_287 : decode cX12_reads 287 = .ok (.iload_n 1, 1) := by decide +kernel
theorem dX12_reads_288 : decode cX12_reads 288 = .ok (.bipush 43, 2) := by decide +kernel
theorem dX12_reads_290 : decode cX12_reads 290 = .ok (.if_icmp .eq 33, 3) := by decide +kernel
theorem dX12_reads_293 : decode cX12_reads 293 = .ok (.iload_n 1, 1) := by decide +kernel
theorem dX12_reads_294 : decode cX12_reads 294 = .ok (.bipush 45, 2) := by decide +kernel
theorem dX12_reads_296 : decode cX12_reads 296 = .ok (.if_icmp .eq 27, 3) := by decide +kernel
theorem dX12_reads_299 : decode cX12_reads 299 = .ok (.iload_n 1, 1) := by decide +kernel
theorem dX12_reads_300 : decode cX12_reads 300 = .ok (.bipush 42, 2) := by decide +kernel
theorem dX12_reads_302 : decode cX12_reads 302 = .ok (.if_icmp .eq 21, 3) := by decide +kernel
theorem dX12_reads_305 : decode cX12_reads 305 = .ok (.iload_n 1, 1) := by decide +kernel
theorem dX12_reads_306 : decode cX12_reads 306 = .ok (.bipush 47, 2) := by decide +kernel
theorem dX12_reads_308 : decode cX12_reads 308 = .ok (.if_icmp .eq 15, 3) := by decide +kernel
theorem dX12_reads_311 : decode cX12_reads 311 = .ok (.iload_n 1, 1) := by decide +kernel
theorem dX12_reads_312 : decode cX12_reads 312 = .ok (.bipush 60, 2) := by decide +kernel
theorem dX12_reads_314 : decode cX12_reads 314 = .ok (.if_icmp .eq 9, 3) := by decide +kernel
theorem dX12_reads_317 : decode cX12_reads 317 = .ok (.iload_n 1, 1) := by decide +kernel
theorem dX12_reads_318 : decode cX12_reads 318 = .ok (.bipush 61, 2) := by decide +kernel
theorem dX12_reads_320 : decode cX12_reads 320 = .ok (.if_icmp .ne 7, 3) := by decide +kernel
theorem dX12_reads_323 : decode cX12_reads 323 = .ok (.iconst 3, 1) := by decide +kernel
theorem dX12_reads_324 : decode cX12_reads 324 = .ok (.goto 4, 3) := by decide +kernel
theorem dX12_reads_327 : decode cX12_reads 327 = .ok (.iconst 4, 1) := by decide +kernel
theorem dX12_reads_328 : decode cX12_reads 328 = .ok (.putfield 147, 3) := by decide +kernel
theorem dX12_reads_331 : decode cX12_reads 331 = .ok (.aload_n 0, 1) := by decide +kernel
theorem dX12_reads_332 : decode cX12_reads 332 = .ok (.aload_n 0, 1) := by decide +kernel
theorem dX12_reads_333 : decode cX12_reads 333 = .ok (.getfield 127, 3) := by decide +kernel
theorem dX12_reads_336 : decode cX12_reads 336 = .ok (.aload_n 0, 1) := by decide +kernel
theorem dX12_reads_337 : decode cX12_reads 337 = .ok (.getfield 134, 3) := by decide +kernel
theorem dX12_reads_340 : decode cX12_reads 340 = .ok (.isub, 1) := by decide +kernel
theorem dX12_reads_341 : decode cX12_reads 341 = .ok (.putfield 157, 3) := by decide +kernel
theorem dX12_reads_344 : decode cX12_reads 344 = .ok (.return_, 1) := by decide +kernel
theorem dX12_spelled_0 : decode cX12_spelled 0 = .ok (.iload_n 0, 1) := by decide +kernel
theorem dX12_spelled_1 : decode cX12_spelled 1 = .ok (.i2l, 1) := by decide +kernel
theorem dX12_spelled_2 : decode cX12_spelled 2 = .ok (.ldc2_w 160, 3) := by decide +kernel
theorem dX12_spelled_5 : decode cX12_spelled 5 = .ok (.lsub, 1) := by decide +kernel
theorem dX12_spelled_6 : decode cX12_spelled 6 = .ok (.iconst 5, 1) := by decide +kernel
theorem dX12_spelled_7 : decode cX12_spelled 7 = .ok (.lshl, 1) := by decide +kernel
theorem dX12_spelled_8 : decode cX12_spelled 8 = .ok (.iload_n 1, 1) := by decide +kernel
theorem dX12_spelled_9 : decode cX12_spelled 9 = .ok (.bipush 96, 2) := by decide +kernel
theorem dX12_spelled_11 : decode cX12_spelled 11 = .ok (.isub, 1) := by decide +kernel
theorem dX12_spelled_12 : decode cX12_spelled 12 = .ok (.i2l, 1) := by decide +kernel
theorem dX12_spelled_13 : decode cX12_spelled 13 = .ok (.lor, 1) := by decide +kernel
theorem dX12_spelled_14 : decode cX12_spelled 14 = .ok (.lstore 7, 2) := by decide +kernel
theorem dX12_spelled_16 : decode cX12_spelled 16 = .ok (.iload_n 2, 1) := by decide +kernel
theorem dX12_spelled_17 : decode cX12_spelled 17 = .ok (.ifCond .eq 15, 3) := by decide +kernel
theorem dX12_spelled_20 : decode cX12_spelled 20 = .ok (.lload 7, 2) := by decide +kernel
theorem dX12_spelled_22 : decode cX12_spelled 22 = .ok (.iconst 5, 1) := by decide +kernel
theorem dX12_spelled_23 : decode cX12_spelled 23 = .ok (.lshl, 1) := by decide +kernel
theorem dX12_spelled_24 : decode cX12_spelled 24 = .ok (.iload_n 2, 1) := by decide +kernel
theorem dX12_spelled_25 : decode cX12_spelled 25 = .ok (.bipush 96, 2) := by decide +kernel
theorem dX12_spelled_27 : decode cX12_spelled 27 = .ok (.isub, 1) := by decide +kernel
theorem dX12_spelled_28 : decode cX12_spelled 28 = .ok (.i2l, 1) := by decide +kernel
theorem dX12_spelled_29 : decode cX12_spelled 29 = .ok (.lor, 1) := by decide +kernel
theorem dX12_spelled_30 : decode cX12_spelled 30 = .ok (.lstore 7, 2) := by decide +kernel
theorem dX12_spelled_32 : decode cX12_spelled 32 = .ok (.iload_n 3, 1) := by decide +kernel
theorem dX12_spelled_33 : decode cX12_spelled 33 = .ok (.ifCond .eq 15, 3) := by decide +kernel
theorem dX12_spelled_36 : decode cX12_spelled 36 = .ok (.lload 7, 2) := by decide +kernel
theorem dX12_spelled_38 : decode cX12_spelled 38 = .ok (.iconst 5, 1) := by decide +kernel
theorem dX12_spelled_39 : decode cX12_spelled 39 = .ok (.lshl, 1) := by decide +kernel
theorem dX12_spelled_40 : decode cX12_spelled 40 = .ok (.iload_n 3, 1) := by decide +kernel
theorem dX12_spelled_41 : decode cX12_spelled 41 = .ok (.bipush 96, 2) := by decide +kernel
theorem dX12_spelled_43 : decode cX12_spelled 43 = .ok (.isub, 1) := by decide +kernel
theorem dX12_spelled_44 : decode cX12_spelled 44 = .ok (.i2l, 1) := by decide +kernel
theorem dX12_spelled_45 : decode cX12_spelled 45 = .ok (.lor, 1) := by decide +kernel
theorem dX12_spelled_46 : decode cX12_spelled 46 = .ok (.lstore 7, 2) := by decide +kernel
theorem dX12_spelled_48 : decode cX12_spelled 48 = .ok (.iload 4, 2) := by decide +kernel
theorem dX12_spelled_50 : decode cX12_spelled 50 = .ok (.ifCond .eq 16, 3) := by decide +kernel
theorem dX12_spelled_53 : decode cX12_spelled 53 = .ok (.lload 7, 2) := by decide +kernel
theorem dX12_spelled_55 : decode cX12_spelled 55 = .ok (.iconst 5, 1) := by decide +kernel
theorem dX12_spelled_56 : decode cX12_spelled 56 = .ok (.lshl, 1) := by decide +kernel
theorem dX12_spelled_57 : decode cX12_spelled 57 = .ok (.iload 4, 2) := by decide +kernel
theorem dX12_spelled_59 : decode cX12_spelled 59 = .ok (.bipush 96, 2) := by decide +kernel
theorem dX12_spelled_61 : decode cX12_spelled 61 = .ok (.isub, 1) := by decide +kernel
theorem dX12_spelled_62 : decode cX12_spelled 62 = .ok (.i2l, 1) := by decide +kernel
theorem dX12_spelled_63 : decode cX12_spelled 63 = .ok (.lor, 1) := by decide +kernel
theorem dX12_spelled_64 : decode cX12_spelled 64 = .ok (.lstore 7, 2) := by decide +kernel
theorem dX12_spelled_66 : decode cX12_spelled 66 = .ok (.iload 5, 2) := by decide +kernel
theorem dX12_spelled_68 : decode cX12_spelled 68 = .ok (.ifCond .eq 16, 3) := by decide +kernel
theorem dX12_spelled_71 : decode cX12_spelled 71 = .ok (.lload 7, 2) := by decide +kernel
theorem dX12_spelled_73 : decode cX12_spelled 73 = .ok (.iconst 5, 1) := by decide +kernel
theorem dX12_spelled_74 : decode cX12_spelled 74 = .ok (.lshl, 1) := by decide +kernel
theorem dX12_spelled_75 : decode cX12_spelled 75 = .ok (.iload 5, 2) := by decide +kernel
theorem dX12_spelled_77 : decode cX12_spelled 77 = .ok (.bipush 96, 2) := by decide +kernel
theorem dX12_spelled_79 : decode cX12_spelled 79 = .ok (.isub, 1) := by decide +kernel
theorem dX12_spelled_80 : decode cX12_spelled 80 = .ok (.i2l, 1) := by decide +kernel
theorem dX12_spelled_81 : decode cX12_spelled 81 = .ok (.lor, 1) := by decide +kernel
theorem dX12_spelled_82 : decode cX12_spelled 82 = .ok (.lstore 7, 2) := by decide +kernel
theorem dX12_spelled_84 : decode cX12_spelled 84 = .ok (.iload 6, 2) := by decide +kernel
theorem dX12_spelled_86 : decode cX12_spelled 86 = .ok (.ifCond .eq 16, 3) := by decide +kernel
theorem dX12_spelled_89 : decode cX12_spelled 89 = .ok (.lload 7, 2) := by decide +kernel
theorem dX12_spelled_91 : decode cX12_spelled 91 = .ok (.iconst 5, 1) := by decide +kernel
theorem dX12_spelled_92 : decode cX12_spelled 92 = .ok (.lshl, 1) := by decide +kernel
theorem dX12_spelled_93 : decode cX12_spelled 93 = .ok (.iload 6, 2) := by decide +kernel
theorem dX12_spelled_95 : decode cX12_spelled 95 = .ok (.bipush 96, 2) := by decide +kernel
theorem dX12_spelled_97 : decode cX12_spelled 97 = .ok (.isub, 1) := by decide +kernel
theorem dX12_spelled_98 : decode cX12_spelled 98 = .ok (.i2l, 1) := by decide +kernel
theorem dX12_spelled_99 : decode cX12_spelled 99 = .ok (.lor, 1) := by decide +kernel
theorem dX12_spelled_100 : decode cX12_spelled 100 = .ok (.lstore 7, 2) := by decide +kernel
theorem dX12_spelled_102 : decode cX12_spelled 102 = .ok (.lload 7, 2) := by decide +kernel
theorem dX12_spelled_104 : decode cX12_spelled 104 = .ok (.lreturn, 1) := by decide +kernel
theorem dX12_letters_0 : decode cX12_letters 0 = .ok (.iload_n 0, 1) := by decide +kernel
theorem dX12_letters_1 : decode cX12_letters 1 = .ok (.tableswitch 368 0 17 #[87, 102, 119, 134, 149, 167, 181, 196, 213, 229, 247, 262, 278, 293, 310, 325, 341, 355], 87) := by decide +kernel
theorem dX12_letters_88 : decode cX12_letters 88 = .ok (.bipush 115, 2) := by decide +kernel
theorem dX12_letters_90 : decode cX12_letters 90 = .ok (.bipush 105, 2) := by decide +kernel
theorem dX12_letters_92 : decode cX12_letters 92 = .ok (.bipush 122, 2) := by decide +kernel
theorem dX12_letters_94 : decode cX12_letters 94 = .ok (.bipush 101, 2) := by decide +kernel
theorem dX12_letters_96 : decode cX12_letters 96 = .ok (.iconst 0, 1) := by decide +kernel
theorem dX12_letters_97 : decode cX12_letters 97 = .ok (.iconst 0, 1) := by decide +kernel
theorem dX12_letters_98 : decode cX12_letters 98 = .ok (.iconst 0, 1) := by decide +kernel
theorem dX12_letters_99 : decode cX12_letters 99 = .ok (.invokestatic 162, 3) := by decide +kernel
theorem dX12_letters_102 : decode cX12_letters 102 = .ok (.lreturn, 1) := by decide +kernel
theorem dX12_letters_103 : decode cX12_letters 103 = .ok (.bipush 104, 2) := by decide +kernel
theorem dX12_letters_105 : decode cX12_letters 105 = .ok (.bipush 111, 2) := by decide +kernel
theorem dX12_letters_107 : decode cX12_letters 107 = .ok (.bipush 108, 2) := by decide +kernel
theorem dX12_letters_109 : decode cX12_letters 109 = .ok (.bipush 108, 2) := by decide +kernel
theorem dX12_letters_111 : decode cX12_letters 111 = .ok (.bipush 111, 2) := by decide +kernel
theorem dX12_letters_113 : decode cX12_letters 113 = .ok (.bipush 119, 2) := by decide +kernel
theorem dX12_letters_115 : decode cX12_letters 115 = .ok (.iconst 0, 1) := by decide +kernel
theorem dX12_letters_116 : decode cX12_letters 116 = .ok (.invokestatic 162, 3) := by decide +kernel
theorem dX12_letters_119 : decode cX12_letters 119 = .ok (.lreturn, 1) := by decide +kernel
theorem dX12_letters_120 : decode cX12_letters 120 = .ok (.bipush 107, 2) := by decide +kernel
theorem dX12_letters_122 : decode cX12_letters 122 = .ok (.bipush 105, 2) := by decide +kernel
theorem dX12_letters_124 : decode cX12_letters 124 = .ok (.bipush 110, 2) := by decide +kernel
theorem dX12_letters_126 : decode cX12_letters 126 = .ok (.bipush 100, 2) := by decide +kernel
theorem dX12_letters_128 : decode cX12_letters 128 = .ok (.iconst 0, 1) := by decide +kernel
theorem dX12_letters_129 : decode cX12_letters 129 = .ok (.iconst 0, 1) := by decide +kernel
theorem dX12_letters_130 : decode cX12_letters 130 = .ok (.iconst 0, 1) := by decide +kernel
theorem dX12_letters_131 : decode cX12_letters 131 = .ok (.invokestatic 162, 3) := by decide +kernel
theorem dX12_letters_134 : decode cX12_letters 134 = .ok (.lreturn, 1) := by decide +kernel
theorem dX12_letters_135 : decode cX12_letters 135 = .ok (.bipush 115, 2) := by decide +kernel
theorem dX12_letters_137 : decode cX12_letters 137 = .ok (.bipush 111, 2) := by decide +kernel
theorem dX12_letters_139 : decode cX12_letters 139 = .ok (.bipush 102, 2) := by decide +kernel
theorem dX12_letters_141 : decode cX12_letters 141 = .ok (.bipush 116, 2) := by decide +kernel
theorem dX12_letters_143 : decode cX12_letters 143 = .ok (.iconst 0, 1) := by decide +kernel
theorem dX12_letters_144 : decode cX12_letters 144 = .ok (.iconst 0, 1) := by decide +kernel
theorem dX12_letters_145 : decode cX12_letters 145 = .ok (.iconst 0, 1) := by decide +kernel
theorem dX12_letters_146 : decode cX12_letters 146 = .ok (.invokestatic 162, 3) := by decide +kernel
theorem dX12_letters_149 : decode cX12_letters 149 = .ok (.lreturn, 1) := by decide +kernel
theorem dX12_letters_150 : decode cX12_letters 150 = .ok (.bipush 119, 2) := by decide +kernel
theorem dX12_letters_152 : decode cX12_letters 152 = .ok (.bipush 101, 2) := by decide +kernel
theorem dX12_letters_154 : decode cX12_letters 154 = .ok (.bipush 97, 2) := by decide +kernel
theorem dX12_letters_156 : decode cX12_letters 156 = .ok (.bipush 116, 2) := by decide +kernel
theorem dX12_letters_158 : decode cX12_letters 158 = .ok (.bipush 104, 2) := by decide +kernel
theorem dX12_letters_160 : decode cX12_letters 160 = .ok (.bipush 101, 2) := by decide +kernel
theorem dX12_letters_162 : decode cX12_letters 162 = .ok (.bipush 114, 2) := by decide +kernel
theorem dX12_letters_164 : decode cX12_letters 164 = .ok (.invokestatic 162, 3) := by decide +kernel
theorem dX12_letters_167 : decode cX12_letters 167 = .ok (.lreturn, 1) := by decide +kernel
theorem dX12_letters_168 : decode cX12_letters 168 = .ok (.bipush 100, 2) := by decide +kernel
theorem dX12_letters_170 : decode cX12_letters 170 = .ok (.bipush 97, 2) := by decide +kernel
theorem dX12_letters_172 : decode cX12_letters 172 = .ok (.bipush 121, 2) := by decide +kernel
theorem dX12_letters_174 : decode cX12_letters 174 = .ok (.iconst 0, 1) := by decide +kernel
theorem dX12_letters_175 : decode cX12_letters 175 = .ok (.iconst 0, 1) := by decide +kernel
theorem dX12_letters_176 : decode cX12_letters 176 = .ok (.iconst 0, 1) := by decide +kernel
theorem dX12_letters_177 : decode cX12_letters 177 = .ok (.iconst 0, 1) := by decide +kernel
theorem dX12_letters_178 : decode cX12_letters 178 = .ok (.invokestatic 162, 3) := by decide +kernel
theorem dX12_letters_181 : decode cX12_letters 181 = .ok (.lreturn, 1) := by decide +kernel
theorem dX12_letters_182 : decode cX12_letters 182 = .ok (.bipush 104, 2) := by decide +kernel
theorem dX12_letters_184 : decode cX12_letters 184 = .ok (.bipush 117, 2) := by decide +kernel
theorem dX12_letters_186 : decode cX12_letters 186 = .ok (.bipush 110, 2) := by decide +kernel
theorem dX12_letters_188 : decode cX12_letters 188 = .ok (.bipush 103, 2) := by decide +kernel
theorem dX12_letters_190 : decode cX12_letters 190 = .ok (.iconst 0, 1) := by decide +kernel
theorem dX12_letters_191 : decode cX12_letters 191 = .ok (.iconst 0, 1) := by decide +kernel
theorem dX12_letters_192 : decode cX12_letters 192 = .ok (.iconst 0, 1) := by decide +kernel
theorem dX12_letters_193 : decode cX12_letters 193 = .ok (.invokestatic 162, 3) := by decide +kernel
theorem dX12_letters_196 : decode cX12_letters 196 = .ok (.lreturn, 1) := by decide +kernel
theorem dX12_letters_197 : decode cX12_letters 197 = .ok (.bipush 116, 2) := by decide +kernel
theorem dX12_letters_199 : decode cX12_letters 199 = .ok (.bipush 117, 2) := by decide +kernel
theorem dX12_letters_201 : decode cX12_letters 201 = .ok (.bipush 114, 2) := by decide +kernel
theorem dX12_letters_203 : decode cX12_letters 203 = .ok (.bipush 110, 2) := by decide +kernel
theorem dX12_letters_205 : decode cX12_letters 205 = .ok (.bipush 105, 2) := by decide +kernel
theorem dX12_letters_207 : decode cX12_letters 207 = .ok (.bipush 112, 2) := by decide +kernel
theorem dX12_letters_209 : decode cX12_letters 209 = .ok (.iconst 0, 1) := by decide +kernel
theorem dX12_letters_210 : decode cX12_letters 210 = .ok (.invokestatic 162, 3) := by decide +kernel
theorem dX12_letters_213 : decode cX12_letters 213 = .ok (.lreturn, 1) := by decide +kernel
theorem dX12_letters_214 : decode cX12_letters 214 = .ok (.bipush 115, 2) := by decide +kernel
theorem dX12_letters_216 : decode cX12_letters 216 = .ok (.bipush 119, 2) := by decide +kernel
theorem dX12_letters_218 : decode cX12_letters 218 = .ok (.bipush 101, 2) := by decide +kernel
theorem dX12_letters_220 : decode cX12_letters 220 = .ok (.bipush 100, 2) := by decide +kernel
theorem dX12_letters_222 : decode cX12_letters 222 = .ok (.bipush 101, 2) := by decide +kernel
theorem dX12_letters_224 : decode cX12_letters 224 = .ok (.iconst 0, 1) := by decide +kernel
theorem dX12_letters_225 : decode cX12_letters 225 = .ok (.iconst 0, 1) := by decide +kernel
theorem dX12_letters_226 : decode cX12_letters 226 = .ok (.invokestatic 162, 3) := by decide +kernel
theorem dX12_letters_229 : decode cX12_letters 229 = .ok (.lreturn, 1) := by decide +kernel
theorem dX12_letters_230 : decode cX12_letters 230 = .ok (.bipush 109, 2) := by decide +kernel
theorem dX12_letters_232 : decode cX12_letters 232 = .ok (.bipush 97, 2) := by decide +kernel
theorem dX12_letters_234 : decode cX12_letters 234 = .ok (.bipush 110, 2) := by decide +kernel
theorem dX12_letters_236 : decode cX12_letters 236 = .ok (.bipush 103, 2) := by decide +kernel
theorem dX12_letters_238 : decode cX12_letters 238 = .ok (.bipush 111, 2) := by decide +kernel
theorem dX12_letters_240 : decode cX12_letters 240 = .ok (.bipush 108, 2) := by decide +kernel
theorem dX12_letters_242 : decode cX12_letters 242 = .ok (.bipush 100, 2) := by decide +kernel
theorem dX12_letters_244 : decode cX12_letters 244 = .ok (.invokestatic 162, 3) := by decide +kernel
theorem dX12_letters_247 : decode cX12_letters 247 = .ok (.lreturn, 1) := by decide +kernel
theorem dX12_letters_248 : decode cX12_letters 248 = .ok (.bipush 98, 2) := by decide +kernel
theorem dX12_letters_250 : decode cX12_letters 250 = .ok (.bipush 101, 2) := by decide +kernel
theorem dX12_letters_252 : decode cX12_letters 252 = .ok (.bipush 101, 2) := by decide +kernel
theorem dX12_letters_254 : decode cX12_letters 254 = .ok (.bipush 116, 2) := by decide +kernel
theorem dX12_letters_256 : decode cX12_letters 256 = .ok (.iconst 0, 1) := by decide +kernel
theorem dX12_letters_257 : decode cX12_letters 257 = .ok (.iconst 0, 1) := by decide +kernel
theorem dX12_letters_258 : decode cX12_letters 258 = .ok (.iconst 0, 1) := by decide +kernel
theorem dX12_letters_259 : decode cX12_letters 259 = .ok (.invokestatic 162, 3) := by decide +kernel
theorem dX12_letters_262 : decode cX12_letters 262 = .ok (.lreturn, 1) := by decide +kernel
theorem dX12_letters_263 : decode cX12_letters 263 = .ok (.bipush 108, 2) := by decide +kernel
theorem dX12_letters_265 : decode cX12_letters 265 = .ok (.bipush 97, 2) := by decide +kernel
theorem dX12_letters_267 : decode cX12_letters 267 = .ok (.bipush 115, 2) := by decide +kernel
theorem dX12_letters_269 : decode cX12_letters 269 = .ok (.bipush 116, 2) := by decide +kernel
theorem dX12_letters_271 : decode cX12_letters 271 = .ok (.bipush 115, 2) := by decide +kernel
theorem dX12_letters_273 : decode cX12_letters 273 = .ok (.iconst 0, 1) := by decide +kernel
theorem dX12_letters_274 : decode cX12_letters 274 = .ok (.iconst 0, 1) := by decide +kernel
theorem dX12_letters_275 : decode cX12_letters 275 = .ok (.invokestatic 162, 3) := by decide +kernel
theorem dX12_letters_278 : decode cX12_letters 278 = .ok (.lreturn, 1) := by decide +kernel
theorem dX12_letters_279 : decode cX12_letters 279 = .ok (.bipush 116, 2) := by decide +kernel
theorem dX12_letters_281 : decode cX12_letters 281 = .ok (.bipush 117, 2) := by decide +kernel
theorem dX12_letters_283 : decode cX12_letters 283 = .ok (.bipush 110, 2) := by decide +kernel
theorem dX12_letters_285 : decode cX12_letters 285 = .ok (.bipush 101, 2) := by decide +kernel
theorem dX12_letters_287 : decode cX12_letters 287 = .ok (.iconst 0, 1) := by decide +kernel
theorem dX12_letters_288 : decode cX12_letters 288 = .ok (.iconst 0, 1) := by decide +kernel
theorem dX12_letters_289 : decode cX12_letters 289 = .ok (.iconst 0, 1) := by decide +kernel
theorem dX12_letters_290 : decode cX12_letters 290 = .ok (.invokestatic 162, 3) := by decide +kernel
theorem dX12_letters_293 : decode cX12_letters 293 = .ok (.lreturn, 1) := by decide +kernel
theorem dX12_letters_294 : decode cX12_letters 294 = .ok (.bipush 109, 2) := by decide +kernel
theorem dX12_letters_296 : decode cX12_letters 296 = .ok (.bipush 101, 2) := by decide +kernel
theorem dX12_letters_298 : decode cX12_letters 298 = .ok (.bipush 116, 2) := by decide +kernel
theorem dX12_letters_300 : decode cX12_letters 300 = .ok (.bipush 104, 2) := by decide +kernel
theorem dX12_letters_302 : decode cX12_letters 302 = .ok (.bipush 111, 2) := by decide +kernel
theorem dX12_letters_304 : decode cX12_letters 304 = .ok (.bipush 100, 2) := by decide +kernel
theorem dX12_letters_306 : decode cX12_letters 306 = .ok (.iconst 0, 1) := by decide +kernel
theorem dX12_letters_307 : decode cX12_letters 307 = .ok (.invokestatic 162, 3) := by decide +kernel
theorem dX12_letters_310 : decode cX12_letters 310 = .ok (.lreturn, 1) := by decide +kernel
theorem dX12_letters_311 : decode cX12_letters 311 = .ok (.bipush 110, 2) := by decide +kernel
theorem dX12_letters_313 : decode cX12_letters 313 = .ok (.bipush 111, 2) := by decide +kernel
theorem dX12_letters_315 : decode cX12_letters 315 = .ok (.bipush 116, 2) := by decide +kernel
theorem dX12_letters_317 : decode cX12_letters 317 = .ok (.bipush 101, 2) := by decide +kernel
theorem dX12_letters_319 : decode cX12_letters 319 = .ok (.iconst 0, 1) := by decide +kernel
theorem dX12_letters_320 : decode cX12_letters 320 = .ok (.iconst 0, 1) := by decide +kernel
theorem dX12_letters_321 : decode cX12_letters 321 = .ok (.iconst 0, 1) := by decide +kernel
theorem dX12_letters_322 : decode cX12_letters 322 = .ok (.invokestatic 162, 3) := by decide +kernel
theorem dX12_letters_325 : decode cX12_letters 325 = .ok (.lreturn, 1) := by decide +kernel
theorem dX12_letters_326 : decode cX12_letters 326 = .ok (.bipush 103, 2) := by decide +kernel
theorem dX12_letters_328 : decode cX12_letters 328 = .ok (.bipush 114, 2) := by decide +kernel
theorem dX12_letters_330 : decode cX12_letters 330 = .ok (.bipush 111, 2) := by decide +kernel
theorem dX12_letters_332 : decode cX12_letters 332 = .ok (.bipush 119, 2) := by decide +kernel
theorem dX12_letters_334 : decode cX12_letters 334 = .ok (.bipush 115, 2) := by decide +kernel
theorem dX12_letters_336 : decode cX12_letters 336 = .ok (.iconst 0, 1) := by decide +kernel
theorem dX12_letters_337 : decode cX12_letters 337 = .ok (.iconst 0, 1) := by decide +kernel
theorem dX12_letters_338 : decode cX12_letters 338 = .ok (.invokestatic 162, 3) := by decide +kernel
theorem dX12_letters_341 : decode cX12_letters 341 = .ok (.lreturn, 1) := by decide +kernel
theorem dX12_letters_342 : decode cX12_letters 342 = .ok (.bipush 97, 2) := by decide +kernel
theorem dX12_letters_344 : decode cX12_letters 344 = .ok (.bipush 110, 2) := by decide +kernel
theorem dX12_letters_346 : decode cX12_letters 346 = .ok (.bipush 100, 2) := by decide +kernel
theorem dX12_letters_348 : decode cX12_letters 348 = .ok (.iconst 0, 1) := by decide +kernel
theorem dX12_letters_349 : decode cX12_letters 349 = .ok (.iconst 0, 1) := by decide +kernel
theorem dX12_letters_350 : decode cX12_letters 350 = .ok (.iconst 0, 1) := by decide +kernel
theorem dX12_letters_351 : decode cX12_letters 351 = .ok (.iconst 0, 1) := by decide +kernel
theorem dX12_letters_352 : decode cX12_letters 352 = .ok (.invokestatic 162, 3) := by decide +kernel
theorem dX12_letters_355 : decode cX12_letters 355 = .ok (.lreturn, 1) := by decide +kernel
theorem dX12_letters_356 : decode cX12_letters 356 = .ok (.bipush 111, 2) := by decide +kernel
theorem dX12_letters_358 : decode cX12_letters 358 = .ok (.bipush 114, 2) := by decide +kernel
theorem dX12_letters_360 : decode cX12_letters 360 = .ok (.iconst 0, 1) := by decide +kernel
theorem dX12_letters_361 : decode cX12_letters 361 = .ok (.iconst 0, 1) := by decide +kernel
theorem dX12_letters_362 : decode cX12_letters 362 = .ok (.iconst 0, 1) := by decide +kernel
theorem dX12_letters_363 : decode cX12_letters 363 = .ok (.iconst 0, 1) := by decide +kernel
theorem dX12_letters_364 : decode cX12_letters 364 = .ok (.iconst 0, 1) := by decide +kernel
theorem dX12_letters_365 : decode cX12_letters 365 = .ok (.invokestatic 162, 3) := by decide +kernel
theorem dX12_letters_368 : decode cX12_letters 368 = .ok (.lreturn, 1) := by decide +kernel
theorem dX12_letters_369 : decode cX12_letters 369 = .ok (.bipush 110, 2) := by decide +kernel
theorem dX12_letters_371 : decode cX12_letters 371 = .ok (.bipush 111, 2) := by decide +kernel
theorem dX12_letters_373 : decode cX12_letters 373 = .ok (.bipush 116, 2) := by decide +kernel
theorem dX12_letters_375 : decode cX12_letters 375 = .ok (.iconst 0, 1) := by decide +kernel
theorem dX12_letters_376 : decode cX12_letters 376 = .ok (.iconst 0, 1) := by decide +kernel
theorem dX12_letters_377 : decode cX12_letters 377 = .ok (.iconst 0, 1) := by decide +kernel
theorem dX12_letters_378 : decode cX12_letters 378 = .ok (.iconst 0, 1) := by decide +kernel
theorem dX12_letters_379 : decode cX12_letters 379 = .ok (.invokestatic 162, 3) := by decide +kernel
theorem dX12_letters_382 : decode cX12_letters 382 = .ok (.lreturn, 1) := by decide +kernel
theorem dX12_knownWord_0 : decode cX12_knownWord 0 = .ok (.aload_n 0, 1) := by decide +kernel
theorem dX12_knownWord_1 : decode cX12_knownWord 1 = .ok (.getfield 147, 3) := by decide +kernel
theorem dX12_knownWord_4 : decode cX12_knownWord 4 = .ok (.iconst 1, 1) := by decide +kernel
theorem dX12_knownWord_5 : decode cX12_knownWord 5 = .ok (.if_icmp .ne 12, 3) := by decide +kernel
theorem dX12_knownWord_8 : decode cX12_knownWord 8 = .ok (.aload_n 0, 1) := by decide +kernel
theorem dX12_knownWord_9 : decode cX12_knownWord 9 = .ok (.getfield 157, 3) := by decide +kernel
theorem dX12_knownWord_12 : decode cX12_knownWord 12 = .ok (.bipush 7, 2) := by decide +kernel
theorem dX12_knownWord_14 : decode cX12_knownWord 14 = .ok (.if_icmp .le 5, 3) := by decide +kernel
theorem dX12_knownWord_17 : decode cX12_knownWord 17 = .ok (.iconst (-1), 1) := by decide +kernel
theorem dX12_knownWord_18 : decode cX12_knownWord 18 = .ok (.ireturn, 1) := by decide +kernel
theorem dX12_knownWord_19 : decode cX12_knownWord 19 = .ok (.iconst 0, 1) := by decide +kernel
theorem dX12_knownWord_20 : decode cX12_knownWord 20 = .ok (.istore_n 1, 1) := by decide +kernel
theorem dX12_knownWord_21 : decode cX12_knownWord 21 = .ok (.iload_n 1, 1) := by decide +kernel
theorem dX12_knownWord_22 : decode cX12_knownWord 22 = .ok (.bipush 19, 2) := by decide +kernel
theorem dX12_knownWord_24 : decode cX12_knownWord 24 = .ok (.if_icmp .ge 23, 3) := by decide +kernel
theorem dX12_knownWord_27 : decode cX12_knownWord 27 = .ok (.iload_n 1, 1) := by decide +kernel
theorem dX12_knownWord_28 : decode cX12_knownWord 28 = .ok (.invokestatic 166, 3) := by decide +kernel
theorem dX12_knownWord_31 : decode cX12_knownWord 31 = .ok (.aload_n 0, 1) := by decide +kernel
theorem dX12_knownWord_32 : decode cX12_knownWord 32 = .ok (.getfield 137, 3) := by decide +kernel
theorem dX12_knownWord_35 : decode cX12_knownWord 35 = .ok (.lcmp, 1) := by decide +kernel
theorem dX12_knownWord_36 : decode cX12_knownWord 36 = .ok (.ifCond .ne 5, 3) := by decide +kernel
theorem dX12_knownWord_39 : decode cX12_knownWord 39 = .ok (.iload_n 1, 1) := by decide +kernel
theorem dX12_knownWord_40 : decode cX12_knownWord 40 = .ok (.ireturn, 1) := by decide +kernel
theorem dX12_knownWord_41 : decode cX12_knownWord 41 = .ok (.iinc 1 1, 3) := by decide +kernel
theorem dX12_knownWord_44 : decode cX12_knownWord 44 = .ok (.goto (-23), 3) := by decide +kernel
theorem dX12_knownWord_47 : decode cX12_knownWord 47 = .ok (.iconst (-1), 1) := by decide +kernel
theorem dX12_knownWord_48 : decode cX12_knownWord 48 = .ok (.ireturn, 1) := by decide +kernel
theorem dX12_wrong_0 : decode cX12_wrong 0 = .ok (.aload_n 0, 1) := by decide +kernel
theorem dX12_wrong_1 : decode cX12_wrong 1 = .ok (.getfield 170, 3) := by decide +kernel
theorem dX12_wrong_4 : decode cX12_wrong 4 = .ok (.ifCond .eq 4, 3) := by decide +kernel
theorem dX12_wrong_7 : decode cX12_wrong 7 = .ok (.return_, 1) := by decide +kernel
theorem dX12_wrong_8 : decode cX12_wrong 8 = .ok (.aload_n 0, 1) := by decide +kernel
theorem dX12_wrong_9 : decode cX12_wrong 9 = .ok (.iload_n 1, 1) := by decide +kernel
theorem dX12_wrong_10 : decode cX12_wrong 10 = .ok (.putfield 170, 3) := by decide +kernel
theorem dX12_wrong_13 : decode cX12_wrong 13 = .ok (.aload_n 0, 1) := by decide +kernel
theorem dX12_wrong_14 : decode cX12_wrong 14 = .ok (.aload_n 0, 1) := by decide +kernel
theorem dX12_wrong_15 : decode cX12_wrong 15 = .ok (.getfield 134, 3) := by decide +kernel
theorem dX12_wrong_18 : decode cX12_wrong 18 = .ok (.putfield 35, 3) := by decide +kernel
theorem dX12_wrong_21 : decode cX12_wrong 21 = .ok (.return_, 1) := by decide +kernel
theorem dX12_isGood_0 : decode cX12_isGood 0 = .ok (.aload_n 0, 1) := by decide +kernel
theorem dX12_isGood_1 : decode cX12_isGood 1 = .ok (.getfield 170, 3) := by decide +kernel
theorem dX12_isGood_4 : decode cX12_isGood 4 = .ok (.ifCond .ne 7, 3) := by decide +kernel
theorem dX12_isGood_7 : decode cX12_isGood 7 = .ok (.iconst 1, 1) := by decide +kernel
theorem dX12_isGood_8 : decode cX12_isGood 8 = .ok (.goto 4, 3) := by decide +kernel
theorem dX12_isGood_11 : decode cX12_isGood 11 = .ok (.iconst 0, 1) := by decide +kernel
theorem dX12_isGood_12 : decode cX12_isGood 12 = .ok (.ireturn, 1) := by decide +kernel
theorem dX12_isSign_0 : decode cX12_isSign 0 = .ok (.aload_n 0, 1) := by decide +kernel
theorem dX12_isSign_1 : decode cX12_isSign 1 = .ok (.getfield 147, 3) := by decide +kernel
theorem dX12_isSign_4 : decode cX12_isSign 4 = .ok (.iconst 3, 1) := by decide +kernel
theorem dX12_isSign_5 : decode cX12_isSign 5 = .ok (.if_icmp .ne 15, 3) := by decide +kernel
theorem dX12_isSign_8 : decode cX12_isSign 8 = .ok (.aload_n 0, 1) := by decide +kernel
theorem dX12_isSign_9 : decode cX12_isSign 9 = .ok (.getfield 144, 3) := by decide +kernel
theorem dX12_isSign_12 : decode cX12_isSign 12 = .ok (.iload_n 1, 1) := by decide +kernel
theorem dX12_isSign_13 : decode cX12_isSign 13 = .ok (.if_icmp .ne 7, 3) := by decide +kernel
theorem dX12_isSign_16 : decode cX12_isSign 16 = .ok (.iconst 1, 1) := by decide +kernel
theorem dX12_isSign_17 : decode cX12_isSign 17 = .ok (.goto 4, 3) := by decide +kernel
theorem dX12_isSign_20 : decode cX12_isSign 20 = .ok (.iconst 0, 1) := by decide +kernel
theorem dX12_isSign_21 : decode cX12_isSign 21 = .ok (.ireturn, 1) := by decide +kernel
theorem dX12_need_0 : decode cX12_need 0 = .ok (.aload_n 0, 1) := by decide +kernel
theorem dX12_need_1 : decode cX12_need 1 = .ok (.invokevirtual 173, 3) := by decide +kernel
theorem dX12_need_4 : decode cX12_need 4 = .ok (.ifCond .ne 4, 3) := by decide +kernel
theorem dX12_need_7 : decode cX12_need 7 = .ok (.return_, 1) := by decide +kernel
theorem dX12_need_8 : decode cX12_need 8 = .ok (.iload_n 1, 1) := by decide +kernel
theorem dX12_need_9 : decode cX12_need 9 = .ok (.ifCond .eq 10, 3) := by decide +kernel
theorem dX12_need_12 : decode cX12_need 12 = .ok (.aload_n 0, 1) := by decide +kernel
theorem dX12_need_13 : decode cX12_need 13 = .ok (.invokevirtual 177, 3) := by decide +kernel
theorem dX12_need_16 : decode cX12_need 16 = .ok (.goto 8, 3) := by decide +kernel
theorem dX12_need_19 : decode cX12_need 19 = .ok (.aload_n 0, 1) := by decide +kernel
theorem dX12_need_20 : decode cX12_need 20 = .ok (.iconst 1, 1) := by decide +kernel
theorem dX12_need_21 : decode cX12_need 21 = .ok (.invokevirtual 180, 3) := by decide +kernel
theorem dX12_need_24 : decode cX12_need 24 = .ok (.return_, 1) := by decide +kernel
theorem dX12_number_0 : decode cX12_number 0 = .ok (.aload_n 0, 1) := by decide +kernel
theorem dX12_number_1 : decode cX12_number 1 = .ok (.invokevirtual 173, 3) := by decide +kernel
theorem dX12_number_4 : decode cX12_number 4 = .ok (.ifCond .ne 5, 3) := by decide +kernel
theorem dX12_number_7 : decode cX12_number 7 = .ok (.iconst 0, 1) := by decide +kernel
theorem dX12_number_8 : decode cX12_number 8 = .ok (.ireturn, 1) := by decide +kernel
theorem dX12_number_9 : decode cX12_number 9 = .ok (.aload_n 0, 1) := by decide +kernel
theorem dX12_number_10 : decode cX12_number 10 = .ok (.getfield 147, 3) := by decide +kernel
theorem dX12_number_13 : decode cX12_number 13 = .ok (.iconst 2, 1) := by decide +kernel
theorem dX12_number_14 : decode cX12_number 14 = .ok (.if_icmp .eq 11, 3) := by decide +kernel
theorem dX12_number_17 : decode cX12_number 17 = .ok (.aload_n 0, 1) := by decide +kernel
theorem dX12_number_18 : decode cX12_number 18 = .ok (.iconst 1, 1) := by decide +kernel
theorem dX12_number_19 : decode cX12_number 19 = .ok (.invokevirtual 180, 3) := by decide +kernel
theorem dX12_number_22 : decode cX12_number 22 = .ok (.goto 32, 3) := by decide +kernel
theorem dX12_number_25 : decode cX12_number 25 = .ok (.aload_n 0, 1) := by decide +kernel
theorem dX12_number_26 : decode cX12_number 26 = .ok (.getfield 157, 3) := by decide +kernel
theorem dX12_number_29 : decode cX12_number 29 = .ok (.iconst 4, 1) := by decide +kernel
theorem dX12_number_30 : decode cX12_number 30 = .ok (.if_icmp .gt 19, 3) := by decide +kernel
theorem dX12_number_33 : decode cX12_number 33 = .ok (.aload_n 0, 1) := by decide +kernel
theorem dX12_number_34 : decode cX12_number 34 = .ok (.getfield 141, 3) := by decide +kernel
theorem dX12_number_37 : decode cX12_number 37 = .ok (.iload_n 1, 1) := by decide +kernel
theorem dX12_number_38 : decode cX12_number 38 = .ok (.if_icmp .lt 11, 3) := by decide +kernel
theorem dX12_number_41 : decode cX12_number 41 = .ok (.aload_n 0, 1) := by decide +kernel
theorem dX12_number_42 : decode cX12_number 42 = .ok (.getfield 141, 3) := by decide +kernel
theorem dX12_number_45 : decode cX12_number 45 = .ok (.iload_n 2, 1) := by decide +kernel
theorem dX12_number_46 : decode cX12_number 46 = .ok (.if_icmp .le 8, 3) := by decide +kernel
theorem dX12_number_49 : decode cX12_number 49 = .ok (.aload_n 0, 1) := by decide +kernel
theorem dX12_number_50 : decode cX12_number 50 = .ok (.iconst 2, 1) := by decide +kernel
theorem dX12_number_51 : decode cX12_number 51 = .ok (.invokevirtual 180, 3) := by decide +kernel
theorem dX12_number_54 : decode cX12_number 54 = .ok (.aload_n 0, 1) := by decide +kernel
theorem dX12_number_55 : decode cX12_number 55 = .ok (.getfield 141, 3) := by decide +kernel
theorem dX12_number_58 : decode cX12_number 58 = .ok (.istore_n 3, 1) := by decide +kernel
theorem dX12_number_59 : decode cX12_number 59 = .ok (.aload_n 0, 1) := by decide +kernel
theorem dX12_number_60 : decode cX12_number 60 = .ok (.invokevirtual 173, 3) := by decide +kernel
theorem dX12_number_63 : decode cX12_number 63 = .ok (.ifCond .eq 7, 3) := by decide +kernel
theorem dX12_number_66 : decode cX12_number 66 = .ok (.aload_n 0, 1) := by decide +kernel
theorem dX12_number_67 : decode cX12_number 67 = .ok (.invokevirtual 177, 3) := by decide +kernel
theorem dX12_number_70 : decode cX12_number 70 = .ok (.iload_n 3, 1) := by decide +kernel
theorem dX12_number_71 : decode cX12_number 71 = .ok (.ireturn, 1) := by decide +kernel
theorem dX12_puts_0 : decode cX12_puts 0 = .ok (.aload_n 0, 1) := by decide +kernel
theorem dX12_puts_1 : decode cX12_puts 1 = .ok (.getfield 53, 3) := by decide +kernel
theorem dX12_puts_4 : decode cX12_puts 4 = .ok (.aload_n 0, 1) := by decide +kernel
theorem dX12_puts_5 : decode cX12_puts 5 = .ok (.getfield 183, 3) := by decide +kernel
theorem dX12_puts_8 : decode cX12_puts 8 = .ok (.iload_n 1, 1) := by decide +kernel
theorem dX12_puts_9 : decode cX12_puts 9 = .ok (.iastore, 1) := by decide +kernel
theorem dX12_puts_10 : decode cX12_puts 10 = .ok (.aload_n 0, 1) := by decide +kernel
theorem dX12_puts_11 : decode cX12_puts 11 = .ok (.dup, 1) := by decide +kernel
theorem dX12_puts_12 : decode cX12_puts 12 = .ok (.getfield 183, 3) := by decide +kernel
theorem dX12_puts_15 : decode cX12_puts 15 = .ok (.iconst 1, 1) := by decide +kernel
theorem dX12_puts_16 : decode cX12_puts 16 = .ok (.iadd, 1) := by decide +kernel
theorem dX12_puts_17 : decode cX12_puts 17 = .ok (.putfield 183, 3) := by decide +kernel
theorem dX12_puts_20 : decode cX12_puts 20 = .ok (.return_, 1) := by decide +kernel
theorem dX12_isOpen_0 : decode cX12_isOpen 0 = .ok (.iload_n 0, 1) := by decide +kernel
theorem dX12_isOpen_1 : decode cX12_isOpen 1 = .ok (.bipush 14, 2) := by decide +kernel
theorem dX12_isOpen_3 : decode cX12_isOpen 3 = .ok (.if_icmp .lt 7, 3) := by decide +kernel
theorem dX12_isOpen_6 : decode cX12_isOpen 6 = .ok (.iconst 1, 1) := by decide +kernel
theorem dX12_isOpen_7 : decode cX12_isOpen 7 = .ok (.goto 4, 3) := by decide +kernel
theorem dX12_isOpen_10 : decode cX12_isOpen 10 = .ok (.iconst 0, 1) := by decide +kernel
theorem dX12_isOpen_11 : decode cX12_isOpen 11 = .ok (.ireturn, 1) := by decide +kernel
theorem dX12_strength_0 : decode cX12_strength 0 = .ok (.iload_n 0, 1) := by decide +kernel
theorem dX12_strength_1 : decode cX12_strength 1 = .ok (.iconst 5, 1) := by decide +kernel
theorem dX12_strength_2 : decode cX12_strength 2 = .ok (.if_icmp .ne 7, 3) := by decide +kernel
theorem dX12_strength_5 : decode cX12_strength 5 = .ok (.iconst 1, 1) := by decide +kernel
theorem dX12_strength_6 : decode cX12_strength 6 = .ok (.goto 55, 3) := by decide +kernel
theorem dX12_strength_9 : decode cX12_strength 9 = .ok (.iload_n 0, 1) := by decide +kernel
theorem dX12_strength_10 : decode cX12_strength 10 = .ok (.iconst 4, 1) := by decide +kernel
theorem dX12_strength_11 : decode cX12_strength 11 = .ok (.if_icmp .ne 7, 3) := by decide +kernel
theorem dX12_strength_14 : decode cX12_strength 14 = .ok (.iconst 2, 1) := by decide +kernel
theorem dX12_strength_15 : decode cX12_strength 15 = .ok (.goto 46, 3) := by decide +kernel
theorem dX12_strength_18 : decode cX12_strength 18 = .ok (.iload_n 0, 1) := by decide +kernel
theorem dX12_strength_19 : decode cX12_strength 19 = .ok (.iconst 3, 1) := by decide +kernel
theorem dX12_strength_20 : decode cX12_strength 20 = .ok (.if_icmp .ne 7, 3) := by decide +kernel
theorem dX12_strength_23 : decode cX12_strength 23 = .ok (.iconst 3, 1) := by decide +kernel
theorem dX12_strength_24 : decode cX12_strength 24 = .ok (.goto 37, 3) := by decide +kernel
theorem dX12_strength_27 : decode cX12_strength 27 = .ok (.iload_n 0, 1) := by decide +kernel
theorem dX12_strength_28 : decode cX12_strength 28 = .ok (.bipush 6, 2) := by decide +kernel
theorem dX12_strength_30 : decode cX12_strength 30 = .ok (.if_icmp .eq 9, 3) := by decide +kernel
theorem dX12_strength_33 : decode cX12_strength 33 = .ok (.iload_n 0, 1) := by decide +kernel
theorem dX12_strength_34 : decode cX12_strength 34 = .ok (.bipush 7, 2) := by decide +kernel
theorem dX12_strength_36 : decode cX12_strength 36 = .ok (.if_icmp .ne 7, 3) := by decide +kernel
theorem dX12_strength_39 : decode cX12_strength 39 = .ok (.iconst 4, 1) := by decide +kernel
theorem dX12_strength_40 : decode cX12_strength 40 = .ok (.goto 21, 3) := by decide +kernel
theorem dX12_strength_43 : decode cX12_strength 43 = .ok (.iload_n 0, 1) := by decide +kernel
theorem dX12_strength_44 : decode cX12_strength 44 = .ok (.bipush 8, 2) := by decide +kernel
theorem dX12_strength_46 : decode cX12_strength 46 = .ok (.if_icmp .eq 9, 3) := by decide +kernel
theorem dX12_strength_49 : decode cX12_strength 49 = .ok (.iload_n 0, 1) := by decide +kernel
theorem dX12_strength_50 : decode cX12_strength 50 = .ok (.bipush 9, 2) := by decide +kernel
theorem dX12_strength_52 : decode cX12_strength 52 = .ok (.if_icmp .ne 7, 3) := by decide +kernel
theorem dX12_strength_55 : decode cX12_strength 55 = .ok (.iconst 5, 1) := by decide +kernel
theorem dX12_strength_56 : decode cX12_strength 56 = .ok (.goto 5, 3) := by decide +kernel
theorem dX12_strength_59 : decode cX12_strength 59 = .ok (.bipush 6, 2) := by decide +kernel
theorem dX12_strength_61 : decode cX12_strength 61 = .ok (.ireturn, 1) := by decide +kernel
theorem dX12_drops_0 : decode cX12_drops 0 = .ok (.aload_n 0, 1) := by decide +kernel
theorem dX12_drops_1 : decode cX12_drops 1 = .ok (.getfield 186, 3) := by decide +kernel
theorem dX12_drops_4 : decode cX12_drops 4 = .ok (.ifCond .le 64, 3) := by decide +kernel
theorem dX12_drops_7 : decode cX12_drops 7 = .ok (.aload_n 0, 1) := by decide +kernel
theorem dX12_drops_8 : decode cX12_drops 8 = .ok (.getfield 56, 3) := by decide +kernel
theorem dX12_drops_11 : decode cX12_drops 11 = .ok (.aload_n 0, 1) := by decide +kernel
theorem dX12_drops_12 : decode cX12_drops 12 = .ok (.getfield 186, 3) := by decide +kernel
theorem dX12_drops_15 : decode cX12_drops 15 = .ok (.iconst 1, 1) := by decide +kernel
theorem dX12_drops_16 : decode cX12_drops 16 = .ok (.isub, 1) := by decide +kernel
theorem dX12_drops_17 : decode cX12_drops 17 = .ok (.iaload, 1) := by decide +kernel
theorem dX12_drops_18 : decode cX12_drops 18 = .ok (.invokestatic 189, 3) := by decide +kernel
theorem dX12_drops_21 : decode cX12_drops 21 = .ok (.ifCond .ne 47, 3) := by decide +kernel
theorem dX12_drops_24 : decode cX12_drops 24 = .ok (.aload_n 0, 1) := by decide +kernel
theorem dX12_drops_25 : decode cX12_drops 25 = .ok (.getfield 56, 3) := by decide +kernel
theorem dX12_drops_28 : decode cX12_drops 28 = .ok (.aload_n 0, 1) := by decide +kernel
theorem dX12_drops_29 : decode cX12_drops 29 = .ok (.getfield 186, 3) := by decide +kernel
theorem dX12_drops_32 : decode cX12_drops 32 = .ok (.iconst 1, 1) := by decide +kernel
theorem dX12_drops_33 : decode cX12_drops 33 = .ok (.isub, 1) := by decide +kernel
theorem dX12_drops_34 : decode cX12_drops 34 = .ok (.iaload, 1) := by decide +kernel
theorem dX12_drops_35 : decode cX12_drops 35 = .ok (.invokestatic 192, 3) := by decide +kernel
theorem dX12_drops_38 : decode cX12_drops 38 = .ok (.iload_n 1, 1) := by decide +kernel
theorem dX12_drops_39 : decode cX12_drops 39 = .ok (.if_icmp .lt 29, 3) := by decide +kernel
theorem dX12_drops_42 : decode cX12_drops 42 = .ok (.aload_n 0, 1) := by decide +kernel
theorem dX12_drops_43 : decode cX12_drops 43 = .ok (.dup, 1) := by decide +kernel
theorem dX12_drops_44 : decode cX12_drops 44 = .ok (.getfield 186, 3) := by decide +kernel
theorem dX12_drops_47 : decode cX12_drops 47 = .ok (.iconst 1, 1) := by decide +kernel
theorem dX12_drops_48 : decode cX12_drops 48 = .ok (.isub, 1) := by decide +kernel
theorem dX12_drops_49 : decode cX12_drops 49 = .ok (.putfield 186, 3) := by decide +kernel
theorem dX12_drops_52 : decode cX12_drops 52 = .ok (.aload_n 0, 1) := by decide +kernel
theorem dX12_drops_53 : decode cX12_drops 53 = .ok (.aload_n 0, 1) := by decide +kernel
theorem dX12_drops_54 : decode cX12_drops 54 = .ok (.getfield 56, 3) := by decide +kernel
theorem dX12_drops_57 : decode cX12_drops 57 = .ok (.aload_n 0, 1) := by decide +kernel
theorem dX12_drops_58 : decode cX12_drops 58 = .ok (.getfield 186, 3) := by decide +kernel
theorem dX12_drops_61 : decode cX12_drops 61 = .ok (.iaload, 1) := by decide +kernel
theorem dX12_drops_62 : decode cX12_drops 62 = .ok (.invokevirtual 195, 3) := by decide +kernel
theorem dX12_drops_65 : decode cX12_drops 65 = .ok (.goto (-65), 3) := by decide +kernel
theorem dX12_drops_68 : decode cX12_drops 68 = .ok (.return_, 1) := by decide +kernel
theorem dX12_waitsFor_0 : decode cX12_waitsFor 0 = .ok (.aload_n 0, 1) := by decide +kernel
theorem dX12_waitsFor_1 : decode cX12_waitsFor 1 = .ok (.getfield 56, 3) := by decide +kernel
theorem dX12_waitsFor_4 : decode cX12_waitsFor 4 = .ok (.aload_n 0, 1) := by decide +kernel
theorem dX12_waitsFor_5 : decode cX12_waitsFor 5 = .ok (.getfield 186, 3) := by decide +kernel
theorem dX12_waitsFor_8 : decode cX12_waitsFor 8 = .ok (.iload_n 1, 1) := by decide +kernel
theorem dX12_waitsFor_9 : decode cX12_waitsFor 9 = .ok (.iastore, 1) := by decide +kernel
theorem dX12_waitsFor_10 : decode cX12_waitsFor 10 = .ok (.aload_n 0, 1) := by decide +kernel
theorem dX12_waitsFor_11 : decode cX12_waitsFor 11 = .ok (.dup, 1) := by decide +kernel
theorem dX12_waitsFor_12 : decode cX12_waitsFor 12 = .ok (.getfield 186, 3) := by decide +kernel
theorem dX12_waitsFor_15 : decode cX12_waitsFor 15 = .ok (.iconst 1, 1) := by decide +kernel
theorem dX12_waitsFor_16 : decode cX12_waitsFor 16 = .ok (.iadd, 1) := by decide +kernel
theorem dX12_waitsFor_17 : decode cX12_waitsFor 17 = .ok (.putfield 186, 3) := by decide +kernel
theorem dX12_waitsFor_20 : decode cX12_waitsFor 20 = .ok (.return_, 1) := by decide +kernel
theorem dX12_part_0 : decode cX12_part 0 = .ok (.aload_n 0, 1) := by decide +kernel
theorem dX12_part_1 : decode cX12_part 1 = .ok (.invokevirtual 173, 3) := by decide +kernel
theorem dX12_part_4 : decode cX12_part 4 = .ok (.ifCond .ne 4, 3) := by decide +kernel
theorem dX12_part_7 : decode cX12_part 7 = .ok (.return_, 1) := by decide +kernel
theorem dX12_part_8 : decode cX12_part 8 = .ok (.aload_n 0, 1) := by decide +kernel
theorem dX12_part_9 : decode cX12_part 9 = .ok (.getfield 147, 3) := by decide +kernel
theorem dX12_part_12 : decode cX12_part 12 = .ok (.iconst 2, 1) := by decide +kernel
theorem dX12_part_13 : decode cX12_part 13 = .ok (.if_icmp .ne 32, 3) := by decide +kernel
theorem dX12_part_16 : decode cX12_part 16 = .ok (.aload_n 0, 1) := by decide +kernel
theorem dX12_part_17 : decode cX12_part 17 = .ok (.getfield 157, 3) := by decide +kernel
theorem dX12_part_20 : decode cX12_part 20 = .ok (.iconst 4, 1) := by decide +kernel
theorem dX12_part_21 : decode cX12_part 21 = .ok (.if_icmp .le 8, 3) := by decide +kernel
theorem dX12_part_24 : decode cX12_part 24 = .ok (.aload_n 0, 1) := by decide +kernel
theorem dX12_part_25 : decode cX12_part 25 = .ok (.iconst 2, 1) := by decide +kernel
theorem dX12_part_26 : decode cX12_part 26 = .ok (.invokevirtual 180, 3) := by decide +kernel
theorem dX12_part_29 : decode cX12_part 29 = .ok (.aload_n 0, 1) := by decide +kernel
theorem dX12_part_30 : decode cX12_part 30 = .ok (.iconst 1, 1) := by decide +kernel
theorem dX12_part_31 : decode cX12_part 31 = .ok (.invokevirtual 195, 3) := by decide +kernel
theorem dX12_part_34 : decode cX12_part 34 = .ok (.aload_n 0, 1) := by decide +kernel
theorem dX12_part_35 : decode cX12_part 35 = .ok (.aload_n 0, 1) := by decide +kernel
theorem dX12_part_36 : decode cX12_part 36 = .ok (.getfield 141, 3) := by decide +kernel
theorem dX12_part_39 : decode cX12_part 39 = .ok (.invokevirtual 195, 3) := by decide +kernel
theorem dX12_part_42 : decode cX12_part 42 = .ok (.goto 49, 3) := by decide +kernel
theorem dX12_part_45 : decode cX12_part 45 = .ok (.aload_n 0, 1) := by decide +kernel
theorem dX12_part_46 : decode cX12_part 46 = .ok (.getfield 147, 3) := by decide +kernel
theorem dX12_part_49 : decode cX12_part 49 = .ok (.iconst 1, 1) := by decide +kernel
theorem dX12_part_50 : decode cX12_part 50 = .ok (.if_icmp .ne 36, 3) := by decide +kernel
theorem dX12_part_53 : decode cX12_part 53 = .ok (.aload_n 0, 1) := by decide +kernel
theorem dX12_part_54 : decode cX12_part 54 = .ok (.invokevirtual 198, 3) := by decide +kernel
theorem dX12_part_57 : decode cX12_part 57 = .ok (.istore_n 1, 1) := by decide +kernel
theorem dX12_part_58 : decode cX12_part 58 = .ok (.iload_n 1, 1) := by decide +kernel
theorem dX12_part_59 : decode cX12_part 59 = .ok (.ifCond .lt 9, 3) := by decide +kernel
theorem dX12_part_62 : decode cX12_part 62 = .ok (.iload_n 1, 1) := by decide +kernel
theorem dX12_part_63 : decode cX12_part 63 = .ok (.bipush 6, 2) := by decide +kernel
theorem dX12_part_65 : decode cX12_part 65 = .ok (.if_icmp .le 8, 3) := by decide +kernel
theorem dX12_part_68 : decode cX12_part 68 = .ok (.aload_n 0, 1) := by decide +kernel
theorem dX12_part_69 : decode cX12_part 69 = .ok (.iconst 3, 1) := by decide +kernel
theorem dX12_part_70 : decode cX12_part 70 = .ok (.invokevirtual 180, 3) := by decide +kernel
theorem dX12_part_73 : decode cX12_part 73 = .ok (.aload_n 0, 1) := by decide +kernel
theorem dX12_part_74 : decode cX12_part 74 = .ok (.iconst 2, 1) := by decide +kernel
theorem dX12_part_75 : decode cX12_part 75 = .ok (.invokevirtual 195, 3) := by decide +kernel
theorem dX12_part_78 : decode cX12_part 78 = .ok (.aload_n 0, 1) := by decide +kernel
theorem dX12_part_79 : decode cX12_part 79 = .ok (.iload_n 1, 1) := by decide +kernel
theorem dX12_part_80 : decode cX12_part 80 = .ok (.invokevirtual 195, 3) := by decide +kernel
theorem dX12_part_83 : decode cX12_part 83 = .ok (.goto 8, 3) := by decide +kernel
theorem dX12_part_86 : decode cX12_part 86 = .ok (.aload_n 0, 1) := by decide +kernel
theorem dX12_part_87 : decode cX12_part 87 = .ok (.iconst 1, 1) := by decide +kernel
theorem dX12_part_88 : decode cX12_part 88 = .ok (.invokevirtual 180, 3) := by decide +kernel
theorem dX12_part_91 : decode cX12_part 91 = .ok (.aload_n 0, 1) := by decide +kernel
theorem dX12_part_92 : decode cX12_part 92 = .ok (.invokevirtual 173, 3) := by decide +kernel
theorem dX12_part_95 : decode cX12_part 95 = .ok (.ifCond .eq 7, 3) := by decide +kernel
theorem dX12_part_98 : decode cX12_part 98 = .ok (.aload_n 0, 1) := by decide +kernel
theorem dX12_part_99 : decode cX12_part 99 = .ok (.invokevirtual 177, 3) := by decide +kernel
theorem dX12_part_102 : decode cX12_part 102 = .ok (.return_, 1) := by decide +kernel
theorem dX12_deeper_0 : decode cX12_deeper 0 = .ok (.aload_n 0, 1) := by decide +kernel
theorem dX12_deeper_1 : decode cX12_deeper 1 = .ok (.getfield 202, 3) := by decide +kernel
theorem dX12_deeper_4 : decode cX12_deeper 4 = .ok (.bipush 6, 2) := by decide +kernel
theorem dX12_deeper_6 : decode cX12_deeper 6 = .ok (.if_icmp .ge 24, 3) := by decide +kernel
theorem dX12_deeper_9 : decode cX12_deeper 9 = .ok (.aload_n 0, 1) := by decide +kernel
theorem dX12_deeper_10 : decode cX12_deeper 10 = .ok (.dup, 1) := by decide +kernel
theorem dX12_deeper_11 : decode cX12_deeper 11 = .ok (.getfield 202, 3) := by decide +kernel
theorem dX12_deeper_14 : decode cX12_deeper 14 = .ok (.iconst 1, 1) := by decide +kernel
theorem dX12_deeper_15 : decode cX12_deeper 15 = .ok (.iadd, 1) := by decide +kernel
theorem dX12_deeper_16 : decode cX12_deeper 16 = .ok (.putfield 202, 3) := by decide +kernel
theorem dX12_deeper_19 : decode cX12_deeper 19 = .ok (.aload_n 0, 1) := by decide +kernel
theorem dX12_deeper_20 : decode cX12_deeper 20 = .ok (.getfield 59, 3) := by decide +kernel
theorem dX12_deeper_23 : decode cX12_deeper 23 = .ok (.aload_n 0, 1) := by decide +kernel
theorem dX12_deeper_24 : decode cX12_deeper 24 = .ok (.getfield 202, 3) := by decide +kernel
theorem dX12_deeper_27 : decode cX12_deeper 27 = .ok (.iconst 0, 1) := by decide +kernel
theorem dX12_deeper_28 : decode cX12_deeper 28 = .ok (.bastore, 1) := by decide +kernel
theorem dX12_deeper_29 : decode cX12_deeper 29 = .ok (.return_, 1) := by decide +kernel
theorem dX12_deeper_30 : decode cX12_deeper 30 = .ok (.aload_n 0, 1) := by decide +kernel
theorem dX12_deeper_31 : decode cX12_deeper 31 = .ok (.aload_n 0, 1) := by decide +kernel
theorem dX12_deeper_32 : decode cX12_deeper 32 = .ok (.getfield 147, 3) := by decide +kernel
theorem dX12_deeper_35 : decode cX12_deeper 35 = .ok (.iconst 2, 1) := by decide +kernel
theorem dX12_deeper_36 : decode cX12_deeper 36 = .ok (.if_icmp .eq 20, 3) := by decide +kernel
theorem dX12_deeper_39 : decode cX12_deeper 39 = .ok (.aload_n 0, 1) := by decide +kernel
theorem dX12_deeper_40 : decode cX12_deeper 40 = .ok (.getfield 147, 3) := by decide +kernel
theorem dX12_deeper_43 : decode cX12_deeper 43 = .ok (.iconst 1, 1) := by decide +kernel
theorem dX12_deeper_44 : decode cX12_deeper 44 = .ok (.if_icmp .eq 12, 3) := by decide +kernel
theorem dX12_deeper_47 : decode cX12_deeper 47 = .ok (.aload_n 0, 1) := by decide +kernel
theorem dX12_deeper_48 : decode cX12_deeper 48 = .ok (.bipush 40, 2) := by decide +kernel
theorem dX12_deeper_50 : decode cX12_deeper 50 = .ok (.invokevirtual 205, 3) := by decide +kernel
theorem dX12_deeper_53 : decode cX12_deeper 53 = .ok (.ifCond .eq 7, 3) := by decide +kernel
theorem dX12_deeper_56 : decode cX12_deeper 56 = .ok (.iconst 2, 1) := by decide +kernel
theorem dX12_deeper_57 : decode cX12_deeper 57 = .ok (.goto 4, 3) := by decide +kernel
theorem dX12_deeper_60 : decode cX12_deeper 60 = .ok (.iconst 1, 1) := by decide +kernel
theorem dX12_deeper_61 : decode cX12_deeper 61 = .ok (.invokevirtual 180, 3) := by decide +kernel
theorem dX12_deeper_64 : decode cX12_deeper 64 = .ok (.return_, 1) := by decide +kernel
theorem dX12_operand_0 : decode cX12_operand 0 = .ok (.iload_n 1, 1) := by decide +kernel
theorem dX12_operand_1 : decode cX12_operand 1 = .ok (.istore_n 2, 1) := by decide +kernel
theorem dX12_operand_2 : decode cX12_operand 2 = .ok (.iconst 1, 1) := by decide +kernel
theorem dX12_operand_3 : decode cX12_operand 3 = .ok (.istore_n 3, 1) := by decide +kernel
theorem dX12_operand_4 : decode cX12_operand 4 = .ok (.iload_n 3, 1) := by decide +kernel
theorem dX12_operand_5 : decode cX12_operand 5 = .ok (.ifCond .eq 115, 3) := by decide +kernel
theorem dX12_operand_8 : decode cX12_operand 8 = .ok (.aload_n 0, 1) := by decide +kernel
theorem dX12_operand_9 : decode cX12_operand 9 = .ok (.invokevirtual 173, 3) := by decide +kernel
theorem dX12_operand_12 : decode cX12_operand 12 = .ok (.ifCond .eq 108, 3) := by decide +kernel
theorem dX12_operand_15 : decode cX12_operand 15 = .ok (.iconst 0, 1) := by decide +kernel
theorem dX12_operand_16 : decode cX12_operand 16 = .ok (.istore 4, 2) := by decide +kernel
theorem dX12_operand_18 : decode cX12_operand 18 = .ok (.aload_n 0, 1) := by decide +kernel
theorem dX12_operand_19 : decode cX12_operand 19 = .ok (.invokevirtual 173, 3) := by decide +kernel
theorem dX12_operand_22 : decode cX12_operand 22 = .ok (.ifCond .eq 53, 3) := by decide +kernel
theorem dX12_operand_25 : decode cX12_operand 25 = .ok (.iload_n 2, 1) := by decide +kernel
theorem dX12_operand_26 : decode cX12_operand 26 = .ok (.ifCond .eq 49, 3) := by decide +kernel
theorem dX12_operand_29 : decode cX12_operand 29 = .ok (.aload_n 0, 1) := by decide +kernel
theorem dX12_operand_30 : decode cX12_operand 30 = .ok (.invokevirtual 198, 3) := by decide +kernel
theorem dX12_operand_33 : decode cX12_operand 33 = .ok (.bipush 18, 2) := by decide +kernel
theorem dX12_operand_35 : decode cX12_operand 35 = .ok (.if_icmp .ne 40, 3) := by decide +kernel
theorem dX12_operand_38 : decode cX12_operand 38 = .ok (.iload 4, 2) := by decide +kernel
theorem dX12_operand_40 : decode cX12_operand 40 = .ok (.bipush 6, 2) := by decide +kernel
theorem dX12_operand_42 : decode cX12_operand 42 = .ok (.if_icmp .ne 8, 3) := by decide +kernel
theorem dX12_operand_45 : decode cX12_operand 45 = .ok (.aload_n 0, 1) := by decide +kernel
theorem dX12_operand_46 : decode cX12_operand 46 = .ok (.iconst 2, 1) := by decide +kernel
theorem dX12_operand_47 : decode cX12_operand 47 = .ok (.invokevirtual 180, 3) := by decide +kernel
theorem dX12_operand_50 : decode cX12_operand 50 = .ok (.iinc 4 1, 3) := by decide +kernel
theorem dX12_operand_53 : decode cX12_operand 53 = .ok (.aload_n 0, 1) := by decide +kernel
theorem dX12_operand_54 : decode cX12_operand 54 = .ok (.invokevirtual 173, 3) := by decide +kernel
theorem dX12_operand_57 : decode cX12_operand 57 = .ok (.ifCond .ne 6, 3) := by decide +kernel
theorem dX12_operand_60 : decode cX12_operand 60 = .ok (.goto (-42), 3) := by decide +kernel
theorem dX12_operand_63 : decode cX12_operand 63 = .ok (.aload_n 0, 1) := by decide +kernel
theorem dX12_operand_64 : decode cX12_operand 64 = .ok (.iconst 3, 1) := by decide +kernel
theorem dX12_operand_65 : decode cX12_operand 65 = .ok (.invokevirtual 208, 3) := by decide +kernel
theorem dX12_operand_68 : decode cX12_operand 68 = .ok (.aload_n 0, 1) := by decide +kernel
theorem dX12_operand_69 : decode cX12_operand 69 = .ok (.invokevirtual 177, 3) := by decide +kernel
theorem dX12_operand_72 : decode cX12_operand 72 = .ok (.goto (-54), 3) := by decide +kernel
theorem dX12_operand_75 : decode cX12_operand 75 = .ok (.aload_n 0, 1) := by decide +kernel
theorem dX12_operand_76 : decode cX12_operand 76 = .ok (.invokevirtual 173, 3) := by decide +kernel
theorem dX12_operand_79 : decode cX12_operand 79 = .ok (.ifCond .eq 16, 3) := by decide +kernel
theorem dX12_operand_82 : decode cX12_operand 82 = .ok (.aload_n 0, 1) := by decide +kernel
theorem dX12_operand_83 : decode cX12_operand 83 = .ok (.bipush 40, 2) := by decide +kernel
theorem dX12_operand_85 : decode cX12_operand 85 = .ok (.invokevirtual 205, 3) := by decide +kernel
theorem dX12_operand_88 : decode cX12_operand 88 = .ok (.ifCond .eq 7, 3) := by decide +kernel
theorem dX12_operand_91 : decode cX12_operand 91 = .ok (.iconst 1, 1) := by decide +kernel
theorem dX12_operand_92 : decode cX12_operand 92 = .ok (.goto 4, 3) := by decide +kernel
theorem dX12_operand_95 : decode cX12_operand 95 = .ok (.iconst 0, 1) := by decide +kernel
theorem dX12_operand_96 : decode cX12_operand 96 = .ok (.istore_n 3, 1) := by decide +kernel
theorem dX12_operand_97 : decode cX12_operand 97 = .ok (.iload_n 3, 1) := by decide +kernel
theorem dX12_operand_98 : decode cX12_operand 98 = .ok (.ifCond .eq 19, 3) := by decide +kernel
theorem dX12_operand_101 : decode cX12_operand 101 = .ok (.aload_n 0, 1) := by decide +kernel
theorem dX12_operand_102 : decode cX12_operand 102 = .ok (.bipush 14, 2) := by decide +kernel
theorem dX12_operand_104 : decode cX12_operand 104 = .ok (.invokevirtual 208, 3) := by decide +kernel
theorem dX12_operand_107 : decode cX12_operand 107 = .ok (.aload_n 0, 1) := by decide +kernel
theorem dX12_operand_108 : decode cX12_operand 108 = .ok (.invokevirtual 177, 3) := by decide +kernel
theorem dX12_operand_111 : decode cX12_operand 111 = .ok (.aload_n 0, 1) := by decide +kernel
theorem dX12_operand_112 : decode cX12_operand 112 = .ok (.invokevirtual 211, 3) := by decide +kernel
theorem dX12_operand_115 : decode cX12_operand 115 = .ok (.iconst 1, 1) := by decide +kernel
theorem dX12_operand_116 : decode cX12_operand 116 = .ok (.istore_n 2, 1) := by decide +kernel
theorem dX12_operand_117 : decode cX12_operand 117 = .ok (.goto (-113), 3) := by decide +kernel
theorem dX12_operand_120 : decode cX12_operand 120 = .ok (.aload_n 0, 1) := by decide +kernel
theorem dX12_operand_121 : decode cX12_operand 121 = .ok (.invokevirtual 214, 3) := by decide +kernel
theorem dX12_operand_124 : decode cX12_operand 124 = .ok (.return_, 1) := by decide +kernel
theorem dX12_isOpened_0 : decode cX12_isOpened 0 = .ok (.aload_n 0, 1) := by decide +kernel
theorem dX12_isOpened_1 : decode cX12_isOpened 1 = .ok (.getfield 186, 3) := by decide +kernel
theorem dX12_isOpened_4 : decode cX12_isOpened 4 = .ok (.iconst 1, 1) := by decide +kernel
theorem dX12_isOpened_5 : decode cX12_isOpened 5 = .ok (.isub, 1) := by decide +kernel
theorem dX12_isOpened_6 : decode cX12_isOpened 6 = .ok (.istore_n 1, 1) := by decide +kernel
theorem dX12_isOpened_7 : decode cX12_isOpened 7 = .ok (.iload_n 1, 1) := by decide +kernel
theorem dX12_isOpened_8 : decode cX12_isOpened 8 = .ok (.ifCond .lt 21, 3) := by decide +kernel
theorem dX12_isOpened_11 : decode cX12_isOpened 11 = .ok (.aload_n 0, 1) := by decide +kernel
theorem dX12_isOpened_12 : decode cX12_isOpened 12 = .ok (.getfield 56, 3) := by decide +kernel
theorem dX12_isOpened_15 : decode cX12_isOpened 15 = .ok (.iload_n 1, 1) := by decide +kernel
theorem dX12_isOpened_16 : decode cX12_isOpened 16 = .ok (.iaload, 1) := by decide +kernel
theorem dX12_isOpened_17 : decode cX12_isOpened 17 = .ok (.invokestatic 189, 3) := by decide +kernel
theorem dX12_isOpened_20 : decode cX12_isOpened 20 = .ok (.ifCond .ne 9, 3) := by decide +kernel
theorem dX12_isOpened_23 : decode cX12_isOpened 23 = .ok (.iinc 1 (-1), 3) := by decide +kernel
theorem dX12_isOpened_26 : decode cX12_isOpened 26 = .ok (.goto (-19), 3) := by decide +kernel
theorem dX12_isOpened_29 : decode cX12_isOpened 29 = .ok (.iload_n 1, 1) := by decide +kernel
theorem dX12_isOpened_30 : decode cX12_isOpened 30 = .ok (.ifCond .lt 7, 3) := by decide +kernel
theorem dX12_isOpened_33 : decode cX12_isOpened 33 = .ok (.iconst 1, 1) := by decide +kernel
theorem dX12_isOpened_34 : decode cX12_isOpened 34 = .ok (.goto 4, 3) := by decide +kernel
theorem dX12_isOpened_37 : decode cX12_isOpened 37 = .ok (.iconst 0, 1) := by decide +kernel
theorem dX12_isOpened_38 : decode cX12_isOpened 38 = .ok (.ireturn, 1) := by decide +kernel
theorem dX12_closes_0 : decode cX12_closes 0 = .ok (.aload_n 0, 1) := by decide +kernel
theorem dX12_closes_1 : decode cX12_closes 1 = .ok (.iconst 0, 1) := by decide +kernel
theorem dX12_closes_2 : decode cX12_closes 2 = .ok (.invokevirtual 217, 3) := by decide +kernel
theorem dX12_closes_5 : decode cX12_closes 5 = .ok (.aload_n 0, 1) := by decide +kernel
theorem dX12_closes_6 : decode cX12_closes 6 = .ok (.dup, 1) := by decide +kernel
theorem dX12_closes_7 : decode cX12_closes 7 = .ok (.getfield 186, 3) := by decide +kernel
theorem dX12_closes_10 : decode cX12_closes 10 = .ok (.iconst 1, 1) := by decide +kernel
theorem dX12_closes_11 : decode cX12_closes 11 = .ok (.isub, 1) := by decide +kernel
theorem dX12_closes_12 : decode cX12_closes 12 = .ok (.putfield 186, 3) := by decide +kernel
theorem dX12_closes_15 : decode cX12_closes 15 = .ok (.aload_n 0, 1) := by decide +kernel
theorem dX12_closes_16 : decode cX12_closes 16 = .ok (.dup, 1) := by decide +kernel
theorem dX12_closes_17 : decode cX12_closes 17 = .ok (.getfield 202, 3) := by decide +kernel
theorem dX12_closes_20 : decode cX12_closes 20 = .ok (.iconst 1, 1) := by decide +kernel
theorem dX12_closes_21 : decode cX12_closes 21 = .ok (.isub, 1) := by decide +kernel
theorem dX12_closes_22 : decode cX12_closes 22 = .ok (.putfield 202, 3) := by decide +kernel
theorem dX12_closes_25 : decode cX12_closes 25 = .ok (.aload_n 0, 1) := by decide +kernel
theorem dX12_closes_26 : decode cX12_closes 26 = .ok (.invokevirtual 177, 3) := by decide +kernel
theorem dX12_closes_29 : decode cX12_closes 29 = .ok (.return_, 1) := by decide +kernel
theorem dX12_expression_0 : decode cX12_expression 0 = .ok (.aload_n 0, 1) := by decide +kernel
theorem dX12_expression_1 : decode cX12_expression 1 = .ok (.invokevirtual 173, 3) := by decide +kernel
theorem dX12_expression_4 : decode cX12_expression 4 = .ok (.ifCond .ne 4, 3) := by decide +kernel
theorem dX12_expression_7 : decode cX12_expression 7 = .ok (.return_, 1) := by decide +kernel
theorem dX12_expression_8 : decode cX12_expression 8 = .ok (.aload_n 0, 1) := by decide +kernel
theorem dX12_expression_9 : decode cX12_expression 9 = .ok (.iconst 0, 1) := by decide +kernel
theorem dX12_expression_10 : decode cX12_expression 10 = .ok (.putfield 186, 3) := by decide +kernel
theorem dX12_expression_13 : decode cX12_expression 13 = .ok (.aload_n 0, 1) := by decide +kernel
theorem dX12_expression_14 : decode cX12_expression 14 = .ok (.iconst 0, 1) := by decide +kernel
theorem dX12_expression_15 : decode cX12_expression 15 = .ok (.putfield 202, 3) := by decide +kernel
theorem dX12_expression_18 : decode cX12_expression 18 = .ok (.aload_n 0, 1) := by decide +kernel
theorem dX12_expression_19 : decode cX12_expression 19 = .ok (.invokevirtual 211, 3) := by decide +kernel
theorem dX12_expression_22 : decode cX12_expression 22 = .ok (.aload_n 0, 1) := by decide +kernel
theorem dX12_expression_23 : decode cX12_expression 23 = .ok (.iconst 1, 1) := by decide +kernel
theorem dX12_expression_24 : decode cX12_expression 24 = .ok (.invokevirtual 220, 3) := by decide +kernel
theorem dX12_expression_27 : decode cX12_expression 27 = .ok (.iconst 1, 1) := by decide +kernel
theorem dX12_expression_28 : decode cX12_expression 28 = .ok (.istore_n 1, 1) := by decide +kernel
theorem dX12_expression_29 : decode cX12_expression 29 = .ok (.iload_n 1, 1) := by decide +kernel
theorem dX12_expression_30 : decode cX12_expression 30 = .ok (.ifCond .eq 295, 3) := by decide +kernel
theorem dX12_expression_33 : decode cX12_expression 33 = .ok (.aload_n 0, 1) := by decide +kernel
theorem dX12_expression_34 : decode cX12_expression 34 = .ok (.invokevirtual 173, 3) := by decide +kernel
theorem dX12_expression_37 : decode cX12_expression 37 = .ok (.ifCond .eq 288, 3) := by decide +kernel
theorem dX12_expression_40 : decode cX12_expression 40 = .ok (.aload_n 0, 1) := by decide +kernel
theorem dX12_expression_41 : decode cX12_expression 41 = .ok (.invokevirtual 198, 3) := by decide +kernel
theorem dX12_expression_44 : decode cX12_expression 44 = .ok (.istore_n 2, 1) := by decide +kernel
theorem dX12_expression_45 : decode cX12_expression 45 = .ok (.iload_n 2, 1) := by decide +kernel
theorem dX12_expression_46 : decode cX12_expression 46 = .ok (.bipush 16, 2) := by decide +kernel
theorem dX12_expression_48 : decode cX12_expression 48 = .ok (.if_icmp .eq 9, 3) := by decide +kernel
theorem dX12_expression_51 : decode cX12_expression 51 = .ok (.iload_n 2, 1) := by decide +kernel
theorem dX12_expression_52 : decode cX12_expression 52 = .ok (.bipush 17, 2) := by decide +kernel
theorem dX12_expression_54 : decode cX12_expression 54 = .ok (.if_icmp .ne 55, 3) := by decide +kernel
theorem dX12_expression_57 : decode cX12_expression 57 = .ok (.aload_n 0, 1) := by decide +kernel
theorem dX12_expression_58 : decode cX12_expression 58 = .ok (.iload_n 2, 1) := by decide +kernel
theorem dX12_expression_59 : decode cX12_expression 59 = .ok (.bipush 16, 2) := by decide +kernel
theorem dX12_expression_61 : decode cX12_expression 61 = .ok (.if_icmp .ne 7, 3) := by decide +kernel
theorem dX12_expression_64 : decode cX12_expression 64 = .ok (.iconst 2, 1) := by decide +kernel
theorem dX12_expression_65 : decode cX12_expression 65 = .ok (.goto 4, 3) := by decide +kernel
theorem dX12_expression_68 : decode cX12_expression 68 = .ok (.iconst 1, 1) := by decide +kernel
theorem dX12_expression_69 : decode cX12_expression 69 = .ok (.invokevirtual 217, 3) := by decide +kernel
theorem dX12_expression_72 : decode cX12_expression 72 = .ok (.aload_n 0, 1) := by decide +kernel
theorem dX12_expression_73 : decode cX12_expression 73 = .ok (.iload_n 2, 1) := by decide +kernel
theorem dX12_expression_74 : decode cX12_expression 74 = .ok (.bipush 16, 2) := by decide +kernel
theorem dX12_expression_76 : decode cX12_expression 76 = .ok (.if_icmp .ne 7, 3) := by decide +kernel
theorem dX12_expression_79 : decode cX12_expression 79 = .ok (.iconst 4, 1) := by decide +kernel
theorem dX12_expression_80 : decode cX12_expression 80 = .ok (.goto 4, 3) := by decide +kernel
theorem dX12_expression_83 : decode cX12_expression 83 = .ok (.iconst 5, 1) := by decide +kernel
theorem dX12_expression_84 : decode cX12_expression 84 = .ok (.invokevirtual 208, 3) := by decide +kernel
theorem dX12_expression_87 : decode cX12_expression 87 = .ok (.aload_n 0, 1) := by decide +kernel
theorem dX12_expression_88 : decode cX12_expression 88 = .ok (.getfield 59, 3) := by decide +kernel
theorem dX12_expression_91 : decode cX12_expression 91 = .ok (.aload_n 0, 1) := by decide +kernel
theorem dX12_expression_92 : decode cX12_expression 92 = .ok (.getfield 202, 3) := by decide +kernel
theorem dX12_expression_95 : decode cX12_expression 95 = .ok (.iconst 0, 1) := by decide +kernel
theorem dX12_expression_96 : decode cX12_expression 96 = .ok (.bastore, 1) := by decide +kernel
theorem dX12_expression_97 : decode cX12_expression 97 = .ok (.aload_n 0, 1) := by decide +kernel
theorem dX12_expression_98 : decode cX12_expression 98 = .ok (.invokevirtual 177, 3) := by decide +kernel
theorem dX12_expression_101 : decode cX12_expression 101 = .ok (.aload_n 0, 1) := by decide +kernel
theorem dX12_expression_102 : decode cX12_expression 102 = .ok (.iconst 1, 1) := by decide +kernel
theorem dX12_expression_103 : decode cX12_expression 103 = .ok (.invokevirtual 220, 3) := by decide +kernel
theorem dX12_expression_106 : decode cX12_expression 106 = .ok (.goto 216, 3) := by decide +kernel
theorem dX12_expression_109 : decode cX12_expression 109 = .ok (.aload_n 0, 1) := by decide +kernel
theorem dX12_expression_110 : decode cX12_expression 110 = .ok (.bipush 60, 2) := by decide +kernel
theorem dX12_expression_112 : decode cX12_expression 112 = .ok (.invokevirtual 205, 3) := by decide +kernel
theorem dX12_expression_115 : decode cX12_expression 115 = .ok (.ifCond .ne 12, 3) := by decide +kernel
theorem dX12_expression_118 : decode cX12_expression 118 = .ok (.aload_n 0, 1) := by decide +kernel
theorem dX12_expression_119 : decode cX12_expression 119 = .ok (.bipush 61, 2) := by decide +kernel
theorem dX12_expression_121 : decode cX12_expression 121 = .ok (.invokevirtual 205, 3) := by decide +kernel
theorem dX12_expression_124 : decode cX12_expression 124 = .ok (.ifCond .eq 62, 3) := by decide +kernel
theorem dX12_expression_127 : decode cX12_expression 127 = .ok (.aload_n 0, 1) := by decide +kernel
theorem dX12_expression_128 : decode cX12_expression 128 = .ok (.getfield 59, 3) := by decide +kernel
theorem dX12_expression_131 : decode cX12_expression 131 = .ok (.aload_n 0, 1) := by decide +kernel
theorem dX12_expression_132 : decode cX12_expression 132 = .ok (.getfield 202, 3) := by decide +kernel
theorem dX12_expression_135 : decode cX12_expression 135 = .ok (.baload, 1) := by decide +kernel
theorem dX12_expression_136 : decode cX12_expression 136 = .ok (.ifCond .ne 50, 3) := by decide +kernel
theorem dX12_expression_139 : decode cX12_expression 139 = .ok (.aload_n 0, 1) := by decide +kernel
theorem dX12_expression_140 : decode cX12_expression 140 = .ok (.iconst 4, 1) := by decide +kernel
theorem dX12_expression_141 : decode cX12_expression 141 = .ok (.invokevirtual 217, 3) := by decide +kernel
theorem dX12_expression_144 : decode cX12_expression 144 = .ok (.aload_n 0, 1) := by decide +kernel
theorem dX12_expression_145 : decode cX12_expression 145 = .ok (.aload_n 0, 1) := by decide +kernel
theorem dX12_expression_146 : decode cX12_expression 146 = .ok (.bipush 60, 2) := by decide +kernel
theorem dX12_expression_148 : decode cX12_expression 148 = .ok (.invokevirtual 205, 3) := by decide +kernel
theorem dX12_expression_151 : decode cX12_expression 151 = .ok (.ifCond .eq 8, 3) := by decide +kernel
theorem dX12_expression_154 : decode cX12_expression 154 = .ok (.bipush 6, 2) := by decide +kernel
theorem dX12_expression_156 : decode cX12_expression 156 = .ok (.goto 5, 3) := by decide +kernel
theorem dX12_expression_159 : decode cX12_expression 159 = .ok (.bipush 7, 2) := by decide +kernel
theorem dX12_expression_161 : decode cX12_expression 161 = .ok (.invokevirtual 208, 3) := by decide +kernel
theorem dX12_expression_164 : decode cX12_expression 164 = .ok (.aload_n 0, 1) := by decide +kernel
theorem dX12_expression_165 : decode cX12_expression 165 = .ok (.getfield 59, 3) := by decide +kernel
theorem dX12_expression_168 : decode cX12_expression 168 = .ok (.aload_n 0, 1) := by decide +kernel
theorem dX12_expression_169 : decode cX12_expression 169 = .ok (.getfield 202, 3) := by decide +kernel
theorem dX12_expression_172 : decode cX12_expression 172 = .ok (.iconst 1, 1) := by decide +kernel
theorem dX12_expression_173 : decode cX12_expression 173 = .ok (.bastore, 1) := by decide +kernel
theorem dX12_expression_174 : decode cX12_expression 174 = .ok (.aload_n 0, 1) := by decide +kernel
theorem dX12_expression_175 : decode cX12_expression 175 = .ok (.invokevirtual 177, 3) := by decide +kernel
theorem dX12_expression_178 : decode cX12_expression 178 = .ok (.aload_n 0, 1) := by decide +kernel
theorem dX12_expression_179 : decode cX12_expression 179 = .ok (.iconst 0, 1) := by decide +kernel
theorem dX12_expression_180 : decode cX12_expression 180 = .ok (.invokevirtual 220, 3) := by decide +kernel
theorem dX12_expression_183 : decode cX12_expression 183 = .ok (.goto 139, 3) := by decide +kernel
theorem dX12_expression_186 : decode cX12_expression 186 = .ok (.aload_n 0, 1) := by decide +kernel
theorem dX12_expression_187 : decode cX12_expression 187 = .ok (.bipush 43, 2) := by decide +kernel
theorem dX12_expression_189 : decode cX12_expression 189 = .ok (.invokevirtual 205, 3) := by decide +kernel
theorem dX12_expression_192 : decode cX12_expression 192 = .ok (.ifCond .ne 12, 3) := by decide +kernel
theorem dX12_expression_195 : decode cX12_expression 195 = .ok (.aload_n 0, 1) := by decide +kernel
theorem dX12_expression_196 : decode cX12_expression 196 = .ok (.bipush 45, 2) := by decide +kernel
theorem dX12_expression_198 : decode cX12_expression 198 = .ok (.invokevirtual 205, 3) := by decide +kernel
theorem dX12_expression_201 : decode cX12_expression 201 = .ok (.ifCond .eq 40, 3) := by decide +kernel
theorem dX12_expression_204 : decode cX12_expression 204 = .ok (.aload_n 0, 1) := by decide +kernel
theorem dX12_expression_205 : decode cX12_expression 205 = .ok (.iconst 5, 1) := by decide +kernel
theorem dX12_expression_206 : decode cX12_expression 206 = .ok (.invokevirtual 217, 3) := by decide +kernel
theorem dX12_expression_209 : decode cX12_expression 209 = .ok (.aload_n 0, 1) := by decide +kernel
theorem dX12_expression_210 : decode cX12_expression 210 = .ok (.aload_n 0, 1) := by decide +kernel
theorem dX12_expression_211 : decode cX12_expression 211 = .ok (.bipush 43, 2) := by decide +kernel
theorem dX12_expression_213 : decode cX12_expression 213 = .ok (.invokevirtual 205, 3) := by decide +kernel
theorem dX12_expression_216 : decode cX12_expression 216 = .ok (.ifCond .eq 8, 3) := by decide +kernel
theorem dX12_expression_219 : decode cX12_expression 219 = .ok (.bipush 8, 2) := by decide +kernel
theorem dX12_expression_221 : decode cX12_expression 221 = .ok (.goto 5, 3) := by decide +kernel
theorem dX12_expression_224 : decode cX12_expression 224 = .ok (.bipush 9, 2) := by decide +kernel
theorem dX12_expression_226 : decode cX12_expression 226 = .ok (.invokevirtual 208, 3) := by decide +kernel
theorem dX12_expression_229 : decode cX12_expression 229 = .ok (.aload_n 0, 1) := by decide +kernel
theorem dX12_expression_230 : decode cX12_expression 230 = .ok (.invokevirtual 177, 3) := by decide +kernel
theorem dX12_expression_233 : decode cX12_expression 233 = .ok (.aload_n 0, 1) := by decide +kernel
theorem dX12_expression_234 : decode cX12_expression 234 = .ok (.iconst 0, 1) := by decide +kernel
theorem dX12_expression_235 : decode cX12_expression 235 = .ok (.invokevirtual 220, 3) := by decide +kernel
theorem dX12_expression_238 : decode cX12_expression 238 = .ok (.goto 84, 3) := by decide +kernel
theorem dX12_expression_241 : decode cX12_expression 241 = .ok (.aload_n 0, 1) := by decide +kernel
theorem dX12_expression_242 : decode cX12_expression 242 = .ok (.bipush 42, 2) := by decide +kernel
theorem dX12_expression_244 : decode cX12_expression 244 = .ok (.invokevirtual 205, 3) := by decide +kernel
theorem dX12_expression_247 : decode cX12_expression 247 = .ok (.ifCond .ne 12, 3) := by decide +kernel
theorem dX12_expression_250 : decode cX12_expression 250 = .ok (.aload_n 0, 1) := by decide +kernel
theorem dX12_expression_251 : decode cX12_expression 251 = .ok (.bipush 47, 2) := by decide +kernel
theorem dX12_expression_253 : decode cX12_expression 253 = .ok (.invokevirtual 205, 3) := by decide +kernel
theorem dX12_expression_256 : decode cX12_expression 256 = .ok (.ifCond .eq 41, 3) := by decide +kernel
theorem dX12_expression_259 : decode cX12_expression 259 = .ok (.aload_n 0, 1) := by decide +kernel
theorem dX12_expression_260 : decode cX12_expression 260 = .ok (.bipush 6, 2) := by decide +kernel
theorem dX12_expression_262 : decode cX12_expression 262 = .ok (.invokevirtual 217, 3) := by decide +kernel
theorem dX12_expression_265 : decode cX12_expression 265 = .ok (.aload_n 0, 1) := by decide +kernel
theorem dX12_expression_266 : decode cX12_expression 266 = .ok (.aload_n 0, 1) := by decide +kernel
theorem dX12_expression_267 : decode cX12_expression 267 = .ok (.bipush 42, 2) := by decide +kernel
theorem dX12_expression_269 : decode cX12_expression 269 = .ok (.invokevirtual 205, 3) := by decide +kernel
theorem dX12_expression_272 : decode cX12_expression 272 = .ok (.ifCond .eq 8, 3) := by decide +kernel
theorem dX12_expression_275 : decode cX12_expression 275 = .ok (.bipush 10, 2) := by decide +kernel
theorem dX12_expression_277 : decode cX12_expression 277 = .ok (.goto 5, 3) := by decide +kernel
theorem dX12_expression_280 : decode cX12_expression 280 = .ok (.bipush 11, 2) := by decide +kernel
theorem dX12_expression_282 : decode cX12_expression 282 = .ok (.invokevirtual 208, 3) := by decide +kernel
theorem dX12_expression_285 : decode cX12_expression 285 = .ok (.aload_n 0, 1) := by decide +kernel
theorem dX12_expression_286 : decode cX12_expression 286 = .ok (.invokevirtual 177, 3) := by decide +kernel
theorem dX12_expression_289 : decode cX12_expression 289 = .ok (.aload_n 0, 1) := by decide +kernel
theorem dX12_expression_290 : decode cX12_expression 290 = .ok (.iconst 0, 1) := by decide +kernel
theorem dX12_expression_291 : decode cX12_expression 291 = .ok (.invokevirtual 220, 3) := by decide +kernel
theorem dX12_expression_294 : decode cX12_expression 294 = .ok (.goto 28, 3) := by decide +kernel
theorem dX12_expression_297 : decode cX12_expression 297 = .ok (.aload_n 0, 1) := by decide +kernel
theorem dX12_expression_298 : decode cX12_expression 298 = .ok (.bipush 41, 2) := by decide +kernel
theorem dX12_expression_300 : decode cX12_expression 300 = .ok (.invokevirtual 205, 3) := by decide +kernel
theorem dX12_expression_303 : decode cX12_expression 303 = .ok (.ifCond .eq 17, 3) := by decide +kernel
theorem dX12_expression_306 : decode cX12_expression 306 = .ok (.aload_n 0, 1) := by decide +kernel
theorem dX12_expression_307 : decode cX12_expression 307 = .ok (.invokevirtual 224, 3) := by decide +kernel
theorem dX12_expression_310 : decode cX12_expression 310 = .ok (.ifCond .eq 10, 3) := by decide +kernel
theorem dX12_expression_313 : decode cX12_expression 313 = .ok (.aload_n 0, 1) := by decide +kernel
theorem dX12_expression_314 : decode cX12_expression 314 = .ok (.invokevirtual 227, 3) := by decide +kernel
theorem dX12_expression_317 : decode cX12_expression 317 = .ok (.goto 5, 3) := by decide +kernel
theorem dX12_expression_320 : decode cX12_expression 320 = .ok (.iconst 0, 1) := by decide +kernel
theorem dX12_expression_321 : decode cX12_expression 321 = .ok (.istore_n 1, 1) := by decide +kernel
theorem dX12_expression_322 : decode cX12_expression 322 = .ok (.goto (-293), 3) := by decide +kernel
theorem dX12_expression_325 : decode cX12_expression 325 = .ok (.aload_n 0, 1) := by decide +kernel
theorem dX12_expression_326 : decode cX12_expression 326 = .ok (.invokevirtual 173, 3) := by decide +kernel
theorem dX12_expression_329 : decode cX12_expression 329 = .ok (.ifCond .eq 16, 3) := by decide +kernel
theorem dX12_expression_332 : decode cX12_expression 332 = .ok (.aload_n 0, 1) := by decide +kernel
theorem dX12_expression_333 : decode cX12_expression 333 = .ok (.getfield 202, 3) := by decide +kernel
theorem dX12_expression_336 : decode cX12_expression 336 = .ok (.iconst 1, 1) := by decide +kernel
theorem dX12_expression_337 : decode cX12_expression 337 = .ok (.if_icmp .le 8, 3) := by decide +kernel
theorem dX12_expression_340 : decode cX12_expression 340 = .ok (.aload_n 0, 1) := by decide +kernel
theorem dX12_expression_341 : decode cX12_expression 341 = .ok (.iconst 1, 1) := by decide +kernel
theorem dX12_expression_342 : decode cX12_expression 342 = .ok (.invokevirtual 180, 3) := by decide +kernel
theorem dX12_expression_345 : decode cX12_expression 345 = .ok (.aload_n 0, 1) := by decide +kernel
theorem dX12_expression_346 : decode cX12_expression 346 = .ok (.iconst 0, 1) := by decide +kernel
theorem dX12_expression_347 : decode cX12_expression 347 = .ok (.invokevirtual 217, 3) := by decide +kernel
theorem dX12_expression_350 : decode cX12_expression 350 = .ok (.aload_n 0, 1) := by decide +kernel
theorem dX12_expression_351 : decode cX12_expression 351 = .ok (.iconst 0, 1) := by decide +kernel
theorem dX12_expression_352 : decode cX12_expression 352 = .ok (.invokevirtual 195, 3) := by decide +kernel
theorem dX12_expression_355 : decode cX12_expression 355 = .ok (.return_, 1) := by decide +kernel
theorem dX12_hangsThere_0 : decode cX12_hangsThere 0 = .ok (.iconst 0, 1) := by decide +kernel
theorem dX12_hangsThere_1 : decode cX12_hangsThere 1 = .ok (.istore_n 2, 1) := by decide +kernel
theorem dX12_hangsThere_2 : decode cX12_hangsThere 2 = .ok (.iload_n 2, 1) := by decide +kernel
theorem dX12_hangsThere_3 : decode cX12_hangsThere 3 = .ok (.aload_n 0, 1) := by decide +kernel
theorem dX12_hangsThere_4 : decode cX12_hangsThere 4 = .ok (.getfield 230, 3) := by decide +kernel
theorem dX12_hangsThere_7 : decode cX12_hangsThere 7 = .ok (.if_icmp .ge 24, 3) := by decide +kernel
theorem dX12_hangsThere_10 : decode cX12_hangsThere 10 = .ok (.aload_n 0, 1) := by decide +kernel
theorem dX12_hangsThere_11 : decode cX12_hangsThere 11 = .ok (.getfield 50, 3) := by decide +kernel
theorem dX12_hangsThere_14 : decode cX12_hangsThere 14 = .ok (.bipush 31, 2) := by decide +kernel
theorem dX12_hangsThere_16 : decode cX12_hangsThere 16 = .ok (.iload_n 2, 1) := by decide +kernel
theorem dX12_hangsThere_17 : decode cX12_hangsThere 17 = .ok (.iadd, 1) := by decide +kernel
theorem dX12_hangsThere_18 : decode cX12_hangsThere 18 = .ok (.iaload, 1) := by decide +kernel
theorem dX12_hangsThere_19 : decode cX12_hangsThere 19 = .ok (.iload_n 1, 1) := by decide +kernel
theorem dX12_hangsThere_20 : decode cX12_hangsThere 20 = .ok (.if_icmp .ne 5, 3) := by decide +kernel
theorem dX12_hangsThere_23 : decode cX12_hangsThere 23 = .ok (.iconst 1, 1) := by decide +kernel
theorem dX12_hangsThere_24 : decode cX12_hangsThere 24 = .ok (.ireturn, 1) := by decide +kernel
theorem dX12_hangsThere_25 : decode cX12_hangsThere 25 = .ok (.iinc 2 1, 3) := by decide +kernel
theorem dX12_hangsThere_28 : decode cX12_hangsThere 28 = .ok (.goto (-26), 3) := by decide +kernel
theorem dX12_hangsThere_31 : decode cX12_hangsThere 31 = .ok (.iconst 0, 1) := by decide +kernel
theorem dX12_hangsThere_32 : decode cX12_hangsThere 32 = .ok (.ireturn, 1) := by decide +kernel
theorem dX12_readsRoot_0 : decode cX12_readsRoot 0 = .ok (.aload_n 0, 1) := by decide +kernel
theorem dX12_readsRoot_1 : decode cX12_readsRoot 1 = .ok (.getfield 230, 3) := by decide +kernel
theorem dX12_readsRoot_4 : decode cX12_readsRoot 4 = .ok (.bipush 10, 2) := by decide +kernel
theorem dX12_readsRoot_6 : decode cX12_readsRoot 6 = .ok (.if_icmp .ne 8, 3) := by decide +kernel
theorem dX12_readsRoot_9 : decode cX12_readsRoot 9 = .ok (.aload_n 0, 1) := by decide +kernel
theorem dX12_readsRoot_10 : decode cX12_readsRoot 10 = .ok (.iconst 2, 1) := by decide +kernel
theorem dX12_readsRoot_11 : decode cX12_readsRoot 11 = .ok (.invokevirtual 180, 3) := by decide +kernel
theorem dX12_readsRoot_14 : decode cX12_readsRoot 14 = .ok (.aload_n 0, 1) := by decide +kernel
theorem dX12_readsRoot_15 : decode cX12_readsRoot 15 = .ok (.invokevirtual 173, 3) := by decide +kernel
theorem dX12_readsRoot_18 : decode cX12_readsRoot 18 = .ok (.ifCond .ne 4, 3) := by decide +kernel
theorem dX12_readsRoot_21 : decode cX12_readsRoot 21 = .ok (.return_, 1) := by decide +kernel
theorem dX12_readsRoot_22 : decode cX12_readsRoot 22 = .ok (.aload_n 0, 1) := by decide +kernel
theorem dX12_readsRoot_23 : decode cX12_readsRoot 23 = .ok (.invokevirtual 177, 3) := by decide +kernel
theorem dX12_readsRoot_26 : decode cX12_readsRoot 26 = .ok (.aload_n 0, 1) := by decide +kernel
theorem dX12_readsRoot_27 : decode cX12_readsRoot 27 = .ok (.getfield 230, 3) := by decide +kernel
theorem dX12_readsRoot_30 : decode cX12_readsRoot 30 = .ok (.istore_n 2, 1) := by decide +kernel
theorem dX12_readsRoot_31 : decode cX12_readsRoot 31 = .ok (.aload_n 0, 1) := by decide +kernel
theorem dX12_readsRoot_32 : decode cX12_readsRoot 32 = .ok (.getfield 41, 3) := by decide +kernel
theorem dX12_readsRoot_35 : decode cX12_readsRoot 35 = .ok (.iload_n 2, 1) := by decide +kernel
theorem dX12_readsRoot_36 : decode cX12_readsRoot 36 = .ok (.iload_n 1, 1) := by decide +kernel
theorem dX12_readsRoot_37 : decode cX12_readsRoot 37 = .ok (.iastore, 1) := by decide +kernel
theorem dX12_readsRoot_38 : decode cX12_readsRoot 38 = .ok (.aload_n 0, 1) := by decide +kernel
theorem dX12_readsRoot_39 : decode cX12_readsRoot 39 = .ok (.iconst 1, 1) := by decide +kernel
theorem dX12_readsRoot_40 : decode cX12_readsRoot 40 = .ok (.bipush 60, 2) := by decide +kernel
theorem dX12_readsRoot_42 : decode cX12_readsRoot 42 = .ok (.invokevirtual 233, 3) := by decide +kernel
theorem dX12_readsRoot_45 : decode cX12_readsRoot 45 = .ok (.istore_n 3, 1) := by decide +kernel
theorem dX12_readsRoot_46 : decode cX12_readsRoot 46 = .ok (.aload_n 0, 1) := by decide +kernel
theorem dX12_readsRoot_47 : decode cX12_readsRoot 47 = .ok (.getfield 50, 3) := by decide +kernel
theorem dX12_readsRoot_50 : decode cX12_readsRoot 50 = .ok (.iconst 1, 1) := by decide +kernel
theorem dX12_readsRoot_51 : decode cX12_readsRoot 51 = .ok (.iload_n 2, 1) := by decide +kernel
theorem dX12_readsRoot_52 : decode cX12_readsRoot 52 = .ok (.iadd, 1) := by decide +kernel
theorem dX12_readsRoot_53 : decode cX12_readsRoot 53 = .ok (.iload_n 3, 1) := by decide +kernel
theorem dX12_readsRoot_54 : decode cX12_readsRoot 54 = .ok (.iastore, 1) := by decide +kernel
theorem dX12_readsRoot_55 : decode cX12_readsRoot 55 = .ok (.aload_n 0, 1) := by decide +kernel
theorem dX12_readsRoot_56 : decode cX12_readsRoot 56 = .ok (.getfield 50, 3) := by decide +kernel
theorem dX12_readsRoot_59 : decode cX12_readsRoot 59 = .ok (.bipush 11, 2) := by decide +kernel
theorem dX12_readsRoot_61 : decode cX12_readsRoot 61 = .ok (.iload_n 2, 1) := by decide +kernel
theorem dX12_readsRoot_62 : decode cX12_readsRoot 62 = .ok (.iadd, 1) := by decide +kernel
theorem dX12_readsRoot_63 : decode cX12_readsRoot 63 = .ok (.aload_n 0, 1) := by decide +kernel
theorem dX12_readsRoot_64 : decode cX12_readsRoot 64 = .ok (.iconst 0, 1) := by decide +kernel
theorem dX12_readsRoot_65 : decode cX12_readsRoot 65 = .ok (.iload_n 3, 1) := by decide +kernel
theorem dX12_readsRoot_66 : decode cX12_readsRoot 66 = .ok (.iconst 1, 1) := by decide +kernel
theorem dX12_readsRoot_67 : decode cX12_readsRoot 67 = .ok (.isub, 1) := by decide +kernel
theorem dX12_readsRoot_68 : decode cX12_readsRoot 68 = .ok (.bipush 20, 2) := by decide +kernel
theorem dX12_readsRoot_70 : decode cX12_readsRoot 70 = .ok (.if_icmp .ge 9, 3) := by decide +kernel
theorem dX12_readsRoot_73 : decode cX12_readsRoot 73 = .ok (.iload_n 3, 1) := by decide +kernel
theorem dX12_readsRoot_74 : decode cX12_readsRoot 74 = .ok (.iconst 1, 1) := by decide +kernel
theorem dX12_readsRoot_75 : decode cX12_readsRoot 75 = .ok (.isub, 1) := by decide +kernel
theorem dX12_readsRoot_76 : decode cX12_readsRoot 76 = .ok (.goto 5, 3) := by decide +kernel
theorem dX12_readsRoot_79 : decode cX12_readsRoot 79 = .ok (.bipush 20, 2) := by decide +kernel
theorem dX12_readsRoot_81 : decode cX12_readsRoot 81 = .ok (.invokevirtual 233, 3) := by decide +kernel
theorem dX12_readsRoot_84 : decode cX12_readsRoot 84 = .ok (.iastore, 1) := by decide +kernel
theorem dX12_readsRoot_85 : decode cX12_readsRoot 85 = .ok (.aload_n 0, 1) := by decide +kernel
theorem dX12_readsRoot_86 : decode cX12_readsRoot 86 = .ok (.getfield 50, 3) := by decide +kernel
theorem dX12_readsRoot_89 : decode cX12_readsRoot 89 = .ok (.bipush 21, 2) := by decide +kernel
theorem dX12_readsRoot_91 : decode cX12_readsRoot 91 = .ok (.iload_n 2, 1) := by decide +kernel
theorem dX12_readsRoot_92 : decode cX12_readsRoot 92 = .ok (.iadd, 1) := by decide +kernel
theorem dX12_readsRoot_93 : decode cX12_readsRoot 93 = .ok (.iconst 0, 1) := by decide +kernel
theorem dX12_readsRoot_94 : decode cX12_readsRoot 94 = .ok (.iastore, 1) := by decide +kernel
theorem dX12_readsRoot_95 : decode cX12_readsRoot 95 = .ok (.aload_n 0, 1) := by decide +kernel
theorem dX12_readsRoot_96 : decode cX12_readsRoot 96 = .ok (.getfield 50, 3) := by decide +kernel
theorem dX12_readsRoot_99 : decode cX12_readsRoot 99 = .ok (.bipush 31, 2) := by decide +kernel
theorem dX12_readsRoot_101 : decode cX12_readsRoot 101 = .ok (.iload_n 2, 1) := by decide +kernel
theorem dX12_readsRoot_102 : decode cX12_readsRoot 102 = .ok (.iadd, 1) := by decide +kernel
theorem dX12_readsRoot_103 : decode cX12_readsRoot 103 = .ok (.iconst (-1), 1) := by decide +kernel
theorem dX12_readsRoot_104 : decode cX12_readsRoot 104 = .ok (.iastore, 1) := by decide +kernel
theorem dX12_readsRoot_105 : decode cX12_readsRoot 105 = .ok (.aload_n 0, 1) := by decide +kernel
theorem dX12_readsRoot_106 : decode cX12_readsRoot 106 = .ok (.invokevirtual 173, 3) := by decide +kernel
theorem dX12_readsRoot_109 : decode cX12_readsRoot 109 = .ok (.ifCond .eq 75, 3) := by decide +kernel
theorem dX12_readsRoot_112 : decode cX12_readsRoot 112 = .ok (.aload_n 0, 1) := by decide +kernel
theorem dX12_readsRoot_113 : decode cX12_readsRoot 113 = .ok (.getfield 147, 3) := by decide +kernel
theorem dX12_readsRoot_116 : decode cX12_readsRoot 116 = .ok (.iconst 2, 1) := by decide +kernel
theorem dX12_readsRoot_117 : decode cX12_readsRoot 117 = .ok (.if_icmp .ne 67, 3) := by decide +kernel
theorem dX12_readsRoot_120 : decode cX12_readsRoot 120 = .ok (.aload_n 0, 1) := by decide +kernel
theorem dX12_readsRoot_121 : decode cX12_readsRoot 121 = .ok (.getfield 157, 3) := by decide +kernel
theorem dX12_readsRoot_124 : decode cX12_readsRoot 124 = .ok (.iconst 4, 1) := by decide +kernel
theorem dX12_readsRoot_125 : decode cX12_readsRoot 125 = .ok (.if_icmp .gt 11, 3) := by decide +kernel
theorem dX12_readsRoot_128 : decode cX12_readsRoot 128 = .ok (.aload_n 0, 1) := by decide +kernel
theorem dX12_readsRoot_129 : decode cX12_readsRoot 129 = .ok (.getfield 141, 3) := by decide +kernel
theorem dX12_readsRoot_132 : decode cX12_readsRoot 132 = .ok (.iconst 5, 1) := by decide +kernel
theorem dX12_readsRoot_133 : decode cX12_readsRoot 133 = .ok (.if_icmp .le 11, 3) := by decide +kernel
theorem dX12_readsRoot_136 : decode cX12_readsRoot 136 = .ok (.aload_n 0, 1) := by decide +kernel
theorem dX12_readsRoot_137 : decode cX12_readsRoot 137 = .ok (.iconst 2, 1) := by decide +kernel
theorem dX12_readsRoot_138 : decode cX12_readsRoot 138 = .ok (.invokevirtual 180, 3) := by decide +kernel
theorem dX12_readsRoot_141 : decode cX12_readsRoot 141 = .ok (.goto 19, 3) := by decide +kernel
theorem dX12_readsRoot_144 : decode cX12_readsRoot 144 = .ok (.aload_n 0, 1) := by decide +kernel
theorem dX12_readsRoot_145 : decode cX12_readsRoot 145 = .ok (.aload_n 0, 1) := by decide +kernel
theorem dX12_readsRoot_146 : decode cX12_readsRoot 146 = .ok (.getfield 141, 3) := by decide +kernel
theorem dX12_readsRoot_149 : decode cX12_readsRoot 149 = .ok (.invokevirtual 237, 3) := by decide +kernel
theorem dX12_readsRoot_152 : decode cX12_readsRoot 152 = .ok (.ifCond .eq 8, 3) := by decide +kernel
theorem dX12_readsRoot_155 : decode cX12_readsRoot 155 = .ok (.aload_n 0, 1) := by decide +kernel
theorem dX12_readsRoot_156 : decode cX12_readsRoot 156 = .ok (.iconst 4, 1) := by decide +kernel
theorem dX12_readsRoot_157 : decode cX12_readsRoot 157 = .ok (.invokevirtual 180, 3) := by decide +kernel
theorem dX12_readsRoot_160 : decode cX12_readsRoot 160 = .ok (.aload_n 0, 1) := by decide +kernel
theorem dX12_readsRoot_161 : decode cX12_readsRoot 161 = .ok (.getfield 50, 3) := by decide +kernel
theorem dX12_readsRoot_164 : decode cX12_readsRoot 164 = .ok (.bipush 31, 2) := by decide +kernel
theorem dX12_readsRoot_166 : decode cX12_readsRoot 166 = .ok (.iload_n 2, 1) := by decide +kernel
theorem dX12_readsRoot_167 : decode cX12_readsRoot 167 = .ok (.iadd, 1) := by decide +kernel
theorem dX12_readsRoot_168 : decode cX12_readsRoot 168 = .ok (.aload_n 0, 1) := by decide +kernel
theorem dX12_readsRoot_169 : decode cX12_readsRoot 169 = .ok (.getfield 141, 3) := by decide +kernel
theorem dX12_readsRoot_172 : decode cX12_readsRoot 172 = .ok (.iastore, 1) := by decide +kernel
theorem dX12_readsRoot_173 : decode cX12_readsRoot 173 = .ok (.aload_n 0, 1) := by decide +kernel
theorem dX12_readsRoot_174 : decode cX12_readsRoot 174 = .ok (.invokevirtual 173, 3) := by decide +kernel
theorem dX12_readsRoot_177 : decode cX12_readsRoot 177 = .ok (.ifCond .eq 7, 3) := by decide +kernel
theorem dX12_readsRoot_180 : decode cX12_readsRoot 180 = .ok (.aload_n 0, 1) := by decide +kernel
theorem dX12_readsRoot_181 : decode cX12_readsRoot 181 = .ok (.invokevirtual 177, 3) := by decide +kernel
theorem dX12_readsRoot_184 : decode cX12_readsRoot 184 = .ok (.aload_n 0, 1) := by decide +kernel
theorem dX12_readsRoot_185 : decode cX12_readsRoot 185 = .ok (.invokevirtual 173, 3) := by decide +kernel
theorem dX12_readsRoot_188 : decode cX12_readsRoot 188 = .ok (.ifCond .eq 13, 3) := by decide +kernel
theorem dX12_readsRoot_191 : decode cX12_readsRoot 191 = .ok (.aload_n 0, 1) := by decide +kernel
theorem dX12_readsRoot_192 : decode cX12_readsRoot 192 = .ok (.dup, 1) := by decide +kernel
theorem dX12_readsRoot_193 : decode cX12_readsRoot 193 = .ok (.getfield 230, 3) := by decide +kernel
theorem dX12_readsRoot_196 : decode cX12_readsRoot 196 = .ok (.iconst 1, 1) := by decide +kernel
theorem dX12_readsRoot_197 : decode cX12_readsRoot 197 = .ok (.iadd, 1) := by decide +kernel
theorem dX12_readsRoot_198 : decode cX12_readsRoot 198 = .ok (.putfield 230, 3) := by decide +kernel
theorem dX12_readsRoot_201 : decode cX12_readsRoot 201 = .ok (.return_, 1) := by decide +kernel
theorem dX12_isChange_0 : decode cX12_isChange 0 = .ok (.iload_n 0, 1) := by decide +kernel
theorem dX12_isChange_1 : decode cX12_isChange 1 = .ok (.iconst 0, 1) := by decide +kernel
theorem dX12_isChange_2 : decode cX12_isChange 2 = .ok (.bipush 31, 2) := by decide +kernel
theorem dX12_isChange_4 : decode cX12_isChange 4 = .ok (.invokestatic 240, 3) := by decide +kernel
theorem dX12_isChange_7 : decode cX12_isChange 7 = .ok (.ifCond .eq 15, 3) := by decide +kernel
theorem dX12_isChange_10 : decode cX12_isChange 10 = .ok (.iload_n 0, 1) := by decide +kernel
theorem dX12_isChange_11 : decode cX12_isChange 11 = .ok (.iload_n 0, 1) := by decide +kernel
theorem dX12_isChange_12 : decode cX12_isChange 12 = .ok (.iconst 1, 1) := by decide +kernel
theorem dX12_isChange_13 : decode cX12_isChange 13 = .ok (.ishr, 1) := by decide +kernel
theorem dX12_isChange_14 : decode cX12_isChange 14 = .ok (.iand, 1) := by decide +kernel
theorem dX12_isChange_15 : decode cX12_isChange 15 = .ok (.ifCond .ne 7, 3) := by decide +kernel
theorem dX12_isChange_18 : decode cX12_isChange 18 = .ok (.iconst 1, 1) := by decide +kernel
theorem dX12_isChange_19 : decode cX12_isChange 19 = .ok (.goto 4, 3) := by decide +kernel
theorem dX12_isChange_22 : decode cX12_isChange 22 = .ok (.iconst 0, 1) := by decide +kernel
theorem dX12_isChange_23 : decode cX12_isChange 23 = .ok (.ireturn, 1) := by decide +kernel
theorem dX12_readsMany_0 : decode cX12_readsMany 0 = .ok (.iconst 0, 1) := by decide +kernel
theorem dX12_readsMany_1 : decode cX12_readsMany 1 = .ok (.istore 6, 2) := by decide +kernel
theorem dX12_readsMany_3 : decode cX12_readsMany 3 = .ok (.iconst 1, 1) := by decide +kernel
theorem dX12_readsMany_4 : decode cX12_readsMany 4 = .ok (.istore 7, 2) := by decide +kernel
theorem dX12_readsMany_6 : decode cX12_readsMany 6 = .ok (.iload 7, 2) := by decide +kernel
theorem dX12_readsMany_8 : decode cX12_readsMany 8 = .ok (.ifCond .eq 119, 3) := by decide +kernel
theorem dX12_readsMany_11 : decode cX12_readsMany 11 = .ok (.aload_n 0, 1) := by decide +kernel
theorem dX12_readsMany_12 : decode cX12_readsMany 12 = .ok (.invokevirtual 173, 3) := by decide +kernel
theorem dX12_readsMany_15 : decode cX12_readsMany 15 = .ok (.ifCond .eq 112, 3) := by decide +kernel
theorem dX12_readsMany_18 : decode cX12_readsMany 18 = .ok (.iload 6, 2) := by decide +kernel
theorem dX12_readsMany_20 : decode cX12_readsMany 20 = .ok (.iload_n 3, 1) := by decide +kernel
theorem dX12_readsMany_21 : decode cX12_readsMany 21 = .ok (.if_icmp .ne 16, 3) := by decide +kernel
theorem dX12_readsMany_24 : decode cX12_readsMany 24 = .ok (.aload_n 0, 1) := by decide +kernel
theorem dX12_readsMany_25 : decode cX12_readsMany 25 = .ok (.getfield 147, 3) := by decide +kernel
theorem dX12_readsMany_28 : decode cX12_readsMany 28 = .ok (.iconst 2, 1) := by decide +kernel
theorem dX12_readsMany_29 : decode cX12_readsMany 29 = .ok (.if_icmp .ne 8, 3) := by decide +kernel
theorem dX12_readsMany_32 : decode cX12_readsMany 32 = .ok (.aload_n 0, 1) := by decide +kernel
theorem dX12_readsMany_33 : decode cX12_readsMany 33 = .ok (.iconst 2, 1) := by decide +kernel
theorem dX12_readsMany_34 : decode cX12_readsMany 34 = .ok (.invokevirtual 180, 3) := by decide +kernel
theorem dX12_readsMany_37 : decode cX12_readsMany 37 = .ok (.aload_n 0, 1) := by decide +kernel
theorem dX12_readsMany_38 : decode cX12_readsMany 38 = .ok (.invokevirtual 173, 3) := by decide +kernel
theorem dX12_readsMany_41 : decode cX12_readsMany 41 = .ok (.ifCond .eq 39, 3) := by decide +kernel
theorem dX12_readsMany_44 : decode cX12_readsMany 44 = .ok (.iload 5, 2) := by decide +kernel
theorem dX12_readsMany_46 : decode cX12_readsMany 46 = .ok (.ifCond .eq 34, 3) := by decide +kernel
theorem dX12_readsMany_49 : decode cX12_readsMany 49 = .ok (.aload_n 0, 1) := by decide +kernel
theorem dX12_readsMany_50 : decode cX12_readsMany 50 = .ok (.getfield 147, 3) := by decide +kernel
theorem dX12_readsMany_53 : decode cX12_readsMany 53 = .ok (.iconst 2, 1) := by decide +kernel
theorem dX12_readsMany_54 : decode cX12_readsMany 54 = .ok (.if_icmp .ne 26, 3) := by decide +kernel
theorem dX12_readsMany_57 : decode cX12_readsMany 57 = .ok (.aload_n 0, 1) := by decide +kernel
theorem dX12_readsMany_58 : decode cX12_readsMany 58 = .ok (.getfield 157, 3) := by decide +kernel
theorem dX12_readsMany_61 : decode cX12_readsMany 61 = .ok (.iconst 4, 1) := by decide +kernel
theorem dX12_readsMany_62 : decode cX12_readsMany 62 = .ok (.if_icmp .gt 18, 3) := by decide +kernel
theorem dX12_readsMany_65 : decode cX12_readsMany 65 = .ok (.aload_n 0, 1) := by decide +kernel
theorem dX12_readsMany_66 : decode cX12_readsMany 66 = .ok (.getfield 141, 3) := by decide +kernel
theorem dX12_readsMany_69 : decode cX12_readsMany 69 = .ok (.invokestatic 244, 3) := by decide +kernel
theorem dX12_readsMany_72 : decode cX12_readsMany 72 = .ok (.ifCond .ne 8, 3) := by decide +kernel
theorem dX12_readsMany_75 : decode cX12_readsMany 75 = .ok (.aload_n 0, 1) := by decide +kernel
theorem dX12_readsMany_76 : decode cX12_readsMany 76 = .ok (.iconst 2, 1) := by decide +kernel
theorem dX12_readsMany_77 : decode cX12_readsMany 77 = .ok (.invokevirtual 180, 3) := by decide +kernel
theorem dX12_readsMany_80 : decode cX12_readsMany 80 = .ok (.aload_n 0, 1) := by decide +kernel
theorem dX12_readsMany_81 : decode cX12_readsMany 81 = .ok (.iconst 0, 1) := by decide +kernel
theorem dX12_readsMany_82 : decode cX12_readsMany 82 = .ok (.iload 4, 2) := by decide +kernel
theorem dX12_readsMany_84 : decode cX12_readsMany 84 = .ok (.invokevirtual 233, 3) := by decide +kernel
theorem dX12_readsMany_87 : decode cX12_readsMany 87 = .ok (.istore 8, 2) := by decide +kernel
theorem dX12_readsMany_89 : decode cX12_readsMany 89 = .ok (.aload_n 0, 1) := by decide +kernel
theorem dX12_readsMany_90 : decode cX12_readsMany 90 = .ok (.invokevirtual 173, 3) := by decide +kernel
theorem dX12_readsMany_93 : decode cX12_readsMany 93 = .ok (.ifCond .ne 5, 3) := by decide +kernel
theorem dX12_readsMany_96 : decode cX12_readsMany 96 = .ok (.iconst 0, 1) := by decide +kernel
theorem dX12_readsMany_97 : decode cX12_readsMany 97 = .ok (.ireturn, 1) := by decide +kernel
theorem dX12_readsMany_98 : decode cX12_readsMany 98 = .ok (.aload_n 1, 1) := by decide +kernel
theorem dX12_readsMany_99 : decode cX12_readsMany 99 = .ok (.iload_n 2, 1) := by decide +kernel
theorem dX12_readsMany_100 : decode cX12_readsMany 100 = .ok (.iload 6, 2) := by decide +kernel
theorem dX12_readsMany_102 : decode cX12_readsMany 102 = .ok (.iadd, 1) := by decide +kernel
theorem dX12_readsMany_103 : decode cX12_readsMany 103 = .ok (.iload 8, 2) := by decide +kernel
theorem dX12_readsMany_105 : decode cX12_readsMany 105 = .ok (.iastore, 1) := by decide +kernel
theorem dX12_readsMany_106 : decode cX12_readsMany 106 = .ok (.iinc 6 1, 3) := by decide +kernel
theorem dX12_readsMany_109 : decode cX12_readsMany 109 = .ok (.aload_n 0, 1) := by decide +kernel
theorem dX12_readsMany_110 : decode cX12_readsMany 110 = .ok (.getfield 147, 3) := by decide +kernel
theorem dX12_readsMany_113 : decode cX12_readsMany 113 = .ok (.iconst 2, 1) := by decide +kernel
theorem dX12_readsMany_114 : decode cX12_readsMany 114 = .ok (.if_icmp .ne 7, 3) := by decide +kernel
theorem dX12_readsMany_117 : decode cX12_readsMany 117 = .ok (.iconst 1, 1) := by decide +kernel
theorem dX12_readsMany_118 : decode cX12_readsMany 118 = .ok (.goto 4, 3) := by decide +kernel
theorem dX12_readsMany_121 : decode cX12_readsMany 121 = .ok (.iconst 0, 1) := by decide +kernel
theorem dX12_readsMany_122 : decode cX12_readsMany 122 = .ok (.istore 7, 2) := by decide +kernel
theorem dX12_readsMany_124 : decode cX12_readsMany 124 = .ok (.goto (-118), 3) := by decide +kernel
theorem dX12_readsMany_127 : decode cX12_readsMany 127 = .ok (.iload 6, 2) := by decide +kernel
theorem dX12_readsMany_129 : decode cX12_readsMany 129 = .ok (.ireturn, 1) := by decide +kernel
theorem dX12_begins_0 : decode cX12_begins 0 = .ok (.iload_n 1, 1) := by decide +kernel
theorem dX12_begins_1 : decode cX12_begins 1 = .ok (.ifCond .eq 8, 3) := by decide +kernel
theorem dX12_begins_4 : decode cX12_begins 4 = .ok (.aload_n 0, 1) := by decide +kernel
theorem dX12_begins_5 : decode cX12_begins 5 = .ok (.iconst 5, 1) := by decide +kernel
theorem dX12_begins_6 : decode cX12_begins 6 = .ok (.invokevirtual 180, 3) := by decide +kernel
theorem dX12_begins_9 : decode cX12_begins 9 = .ok (.aload_n 0, 1) := by decide +kernel
theorem dX12_begins_10 : decode cX12_begins 10 = .ok (.invokevirtual 173, 3) := by decide +kernel
theorem dX12_begins_13 : decode cX12_begins 13 = .ok (.ifCond .ne 5, 3) := by decide +kernel
theorem dX12_begins_16 : decode cX12_begins 16 = .ok (.iconst 0, 1) := by decide +kernel
theorem dX12_begins_17 : decode cX12_begins 17 = .ok (.ireturn, 1) := by decide +kernel
theorem dX12_begins_18 : decode cX12_begins 18 = .ok (.aload_n 0, 1) := by decide +kernel
theorem dX12_begins_19 : decode cX12_begins 19 = .ok (.invokevirtual 177, 3) := by decide +kernel
theorem dX12_begins_22 : decode cX12_begins 22 = .ok (.iconst 1, 1) := by decide +kernel
theorem dX12_begins_23 : decode cX12_begins 23 = .ok (.ireturn, 1) := by decide +kernel
theorem dX12_line_0 : decode cX12_line 0 = .ok (.aload_n 0, 1) := by decide +kernel
theorem dX12_line_1 : decode cX12_line 1 = .ok (.invokevirtual 198, 3) := by decide +kernel
theorem dX12_line_4 : decode cX12_line 4 = .ok (.istore_n 1, 1) := by decide +kernel
theorem dX12_line_5 : decode cX12_line 5 = .ok (.iload_n 1, 1) := by decide +kernel
theorem dX12_line_6 : decode cX12_line 6 = .ok (.bipush 7, 2) := by decide +kernel
theorem dX12_line_8 : decode cX12_line 8 = .ok (.if_icmp .lt 20, 3) := by decide +kernel
theorem dX12_line_11 : decode cX12_line 11 = .ok (.iload_n 1, 1) := by decide +kernel
theorem dX12_line_12 : decode cX12_line 12 = .ok (.bipush 10, 2) := by decide +kernel
theorem dX12_line_14 : decode cX12_line 14 = .ok (.if_icmp .gt 14, 3) := by decide +kernel
theorem dX12_line_17 : decode cX12_line 17 = .ok (.aload_n 0, 1) := by decide +kernel
theorem dX12_line_18 : decode cX12_line 18 = .ok (.iload_n 1, 1) := by decide +kernel
theorem dX12_line_19 : decode cX12_line 19 = .ok (.bipush 7, 2) := by decide +kernel
theorem dX12_line_21 : decode cX12_line 21 = .ok (.isub, 1) := by decide +kernel
theorem dX12_line_22 : decode cX12_line 22 = .ok (.invokevirtual 247, 3) := by decide +kernel
theorem dX12_line_25 : decode cX12_line 25 = .ok (.goto 268, 3) := by decide +kernel
theorem dX12_line_28 : decode cX12_line 28 = .ok (.iload_n 1, 1) := by decide +kernel
theorem dX12_line_29 : decode cX12_line 29 = .ok (.iconst 4, 1) := by decide +kernel
theorem dX12_line_30 : decode cX12_line 30 = .ok (.if_icmp .ne 43, 3) := by decide +kernel
theorem dX12_line_33 : decode cX12_line 33 = .ok (.aload_n 0, 1) := by decide +kernel
theorem dX12_line_34 : decode cX12_line 34 = .ok (.aload_n 0, 1) := by decide +kernel
theorem dX12_line_35 : decode cX12_line 35 = .ok (.getfield 250, 3) := by decide +kernel
theorem dX12_line_38 : decode cX12_line 38 = .ok (.ifCond .le 7, 3) := by decide +kernel
theorem dX12_line_41 : decode cX12_line 41 = .ok (.iconst 1, 1) := by decide +kernel
theorem dX12_line_42 : decode cX12_line 42 = .ok (.goto 4, 3) := by decide +kernel
theorem dX12_line_45 : decode cX12_line 45 = .ok (.iconst 0, 1) := by decide +kernel
theorem dX12_line_46 : decode cX12_line 46 = .ok (.invokevirtual 253, 3) := by decide +kernel
theorem dX12_line_49 : decode cX12_line 49 = .ok (.ifCond .eq 244, 3) := by decide +kernel
theorem dX12_line_52 : decode cX12_line 52 = .ok (.aload_n 0, 1) := by decide +kernel
theorem dX12_line_53 : decode cX12_line 53 = .ok (.aload_n 0, 1) := by decide +kernel
theorem dX12_line_54 : decode cX12_line 54 = .ok (.aload_n 0, 1) := by decide +kernel
theorem dX12_line_55 : decode cX12_line 55 = .ok (.getfield 44, 3) := by decide +kernel
theorem dX12_line_58 : decode cX12_line 58 = .ok (.iconst 0, 1) := by decide +kernel
theorem dX12_line_59 : decode cX12_line 59 = .ok (.bipush 10, 2) := by decide +kernel
theorem dX12_line_61 : decode cX12_line 61 = .ok (.bipush 9, 2) := by decide +kernel
theorem dX12_line_63 : decode cX12_line 63 = .ok (.iconst 0, 1) := by decide +kernel
theorem dX12_line_64 : decode cX12_line 64 = .ok (.invokevirtual 257, 3) := by decide +kernel
theorem dX12_line_67 : decode cX12_line 67 = .ok (.putfield 250, 3) := by decide +kernel
theorem dX12_line_70 : decode cX12_line 70 = .ok (.goto 223, 3) := by decide +kernel
theorem dX12_line_73 : decode cX12_line 73 = .ok (.iload_n 1, 1) := by decide +kernel
theorem dX12_line_74 : decode cX12_line 74 = .ok (.bipush 11, 2) := by decide +kernel
theorem dX12_line_76 : decode cX12_line 76 = .ok (.if_icmp .ne 37, 3) := by decide +kernel
theorem dX12_line_79 : decode cX12_line 79 = .ok (.aload_n 0, 1) := by decide +kernel
theorem dX12_line_80 : decode cX12_line 80 = .ok (.aload_n 0, 1) := by decide +kernel
theorem dX12_line_81 : decode cX12_line 81 = .ok (.getfield 261, 3) := by decide +kernel
theorem dX12_line_84 : decode cX12_line 84 = .ok (.iconst (-1), 1) := by decide +kernel
theorem dX12_line_85 : decode cX12_line 85 = .ok (.if_icmp .eq 7, 3) := by decide +kernel
theorem dX12_line_88 : decode cX12_line 88 = .ok (.iconst 1, 1) := by decide +kernel
theorem dX12_line_89 : decode cX12_line 89 = .ok (.goto 4, 3) := by decide +kernel
theorem dX12_line_92 : decode cX12_line 92 = .ok (.iconst 0, 1) := by decide +kernel
theorem dX12_line_93 : decode cX12_line 93 = .ok (.invokevirtual 253, 3) := by decide +kernel
theorem dX12_line_96 : decode cX12_line 96 = .ok (.ifCond .eq 197, 3) := by decide +kernel
theorem dX12_line_99 : decode cX12_line 99 = .ok (.aload_n 0, 1) := by decide +kernel
theorem dX12_line_100 : decode cX12_line 100 = .ok (.aload_n 0, 1) := by decide +kernel
theorem dX12_line_101 : decode cX12_line 101 = .ok (.iconst 1, 1) := by decide +kernel
theorem dX12_line_102 : decode cX12_line 102 = .ok (.bipush 99, 2) := by decide +kernel
theorem dX12_line_104 : decode cX12_line 104 = .ok (.invokevirtual 233, 3) := by decide +kernel
theorem dX12_line_107 : decode cX12_line 107 = .ok (.putfield 261, 3) := by decide +kernel
theorem dX12_line_110 : decode cX12_line 110 = .ok (.goto 183, 3) := by decide +kernel
theorem dX12_line_113 : decode cX12_line 113 = .ok (.iload_n 1, 1) := by decide +kernel
theorem dX12_line_114 : decode cX12_line 114 = .ok (.bipush 12, 2) := by decide +kernel
theorem dX12_line_116 : decode cX12_line 116 = .ok (.if_icmp .ne 43, 3) := by decide +kernel
theorem dX12_line_119 : decode cX12_line 119 = .ok (.aload_n 0, 1) := by decide +kernel
theorem dX12_line_120 : decode cX12_line 120 = .ok (.aload_n 0, 1) := by decide +kernel
theorem dX12_line_121 : decode cX12_line 121 = .ok (.getfield 264, 3) := by decide +kernel
theorem dX12_line_124 : decode cX12_line 124 = .ok (.ifCond .le 7, 3) := by decide +kernel
theorem dX12_line_127 : decode cX12_line 127 = .ok (.iconst 1, 1) := by decide +kernel
theorem dX12_line_128 : decode cX12_line 128 = .ok (.goto 4, 3) := by decide +kernel
theorem dX12_line_131 : decode cX12_line 131 = .ok (.iconst 0, 1) := by decide +kernel
theorem dX12_line_132 : decode cX12_line 132 = .ok (.invokevirtual 253, 3) := by decide +kernel
theorem dX12_line_135 : decode cX12_line 135 = .ok (.ifCond .eq 158, 3) := by decide +kernel
theorem dX12_line_138 : decode cX12_line 138 = .ok (.aload_n 0, 1) := by decide +kernel
theorem dX12_line_139 : decode cX12_line 139 = .ok (.aload_n 0, 1) := by decide +kernel
theorem dX12_line_140 : decode cX12_line 140 = .ok (.aload_n 0, 1) := by decide +kernel
theorem dX12_line_141 : decode cX12_line 141 = .ok (.getfield 47, 3) := by decide +kernel
theorem dX12_line_144 : decode cX12_line 144 = .ok (.iconst 0, 1) := by decide +kernel
theorem dX12_line_145 : decode cX12_line 145 = .ok (.bipush 8, 2) := by decide +kernel
theorem dX12_line_147 : decode cX12_line 147 = .ok (.bipush 15, 2) := by decide +kernel
theorem dX12_line_149 : decode cX12_line 149 = .ok (.iconst 0, 1) := by decide +kernel
theorem dX12_line_150 : decode cX12_line 150 = .ok (.invokevirtual 257, 3) := by decide +kernel
theorem dX12_line_153 : decode cX12_line 153 = .ok (.putfield 264, 3) := by decide +kernel
theorem dX12_line_156 : decode cX12_line 156 = .ok (.goto 137, 3) := by decide +kernel
theorem dX12_line_159 : decode cX12_line 159 = .ok (.iload_n 1, 1) := by decide +kernel
theorem dX12_line_160 : decode cX12_line 160 = .ok (.bipush 13, 2) := by decide +kernel
theorem dX12_line_162 : decode cX12_line 162 = .ok (.if_icmp .ne 44, 3) := by decide +kernel
theorem dX12_line_165 : decode cX12_line 165 = .ok (.aload_n 0, 1) := by decide +kernel
theorem dX12_line_166 : decode cX12_line 166 = .ok (.aload_n 0, 1) := by decide +kernel
theorem dX12_line_167 : decode cX12_line 167 = .ok (.getfield 267, 3) := by decide +kernel
theorem dX12_line_170 : decode cX12_line 170 = .ok (.ifCond .le 7, 3) := by decide +kernel
theorem dX12_line_173 : decode cX12_line 173 = .ok (.iconst 1, 1) := by decide +kernel
theorem dX12_line_174 : decode cX12_line 174 = .ok (.goto 4, 3) := by decide +kernel
theorem dX12_line_177 : decode cX12_line 177 = .ok (.iconst 0, 1) := by decide +kernel
theorem dX12_line_178 : decode cX12_line 178 = .ok (.invokevirtual 253, 3) := by decide +kernel
theorem dX12_line_181 : decode cX12_line 181 = .ok (.ifCond .eq 112, 3) := by decide +kernel
theorem dX12_line_184 : decode cX12_line 184 = .ok (.aload_n 0, 1) := by decide +kernel
theorem dX12_line_185 : decode cX12_line 185 = .ok (.aload_n 0, 1) := by decide +kernel
theorem dX12_line_186 : decode cX12_line 186 = .ok (.aload_n 0, 1) := by decide +kernel
theorem dX12_line_187 : decode cX12_line 187 = .ok (.getfield 50, 3) := by decide +kernel
theorem dX12_line_190 : decode cX12_line 190 = .ok (.bipush 41, 2) := by decide +kernel
theorem dX12_line_192 : decode cX12_line 192 = .ok (.bipush 12, 2) := by decide +kernel
theorem dX12_line_194 : decode cX12_line 194 = .ok (.bipush 31, 2) := by decide +kernel
theorem dX12_line_196 : decode cX12_line 196 = .ok (.iconst 1, 1) := by decide +kernel
theorem dX12_line_197 : decode cX12_line 197 = .ok (.invokevirtual 257, 3) := by decide +kernel
theorem dX12_line_200 : decode cX12_line 200 = .ok (.putfield 267, 3) := by decide +kernel
theorem dX12_line_203 : decode cX12_line 203 = .ok (.goto 90, 3) := by decide +kernel
theorem dX12_line_206 : decode cX12_line 206 = .ok (.iload_n 1, 1) := by decide +kernel
theorem dX12_line_207 : decode cX12_line 207 = .ok (.bipush 14, 2) := by decide +kernel
theorem dX12_line_209 : decode cX12_line 209 = .ok (.if_icmp .ne 38, 3) := by decide +kernel
theorem dX12_line_212 : decode cX12_line 212 = .ok (.aload_n 0, 1) := by decide +kernel
theorem dX12_line_213 : decode cX12_line 213 = .ok (.aload_n 0, 1) := by decide +kernel
theorem dX12_line_214 : decode cX12_line 214 = .ok (.getfield 270, 3) := by decide +kernel
theorem dX12_line_217 : decode cX12_line 217 = .ok (.iconst (-1), 1) := by decide +kernel
theorem dX12_line_218 : decode cX12_line 218 = .ok (.if_icmp .eq 7, 3) := by decide +kernel
theorem dX12_line_221 : decode cX12_line 221 = .ok (.iconst 1, 1) := by decide +kernel
theorem dX12_line_222 : decode cX12_line 222 = .ok (.goto 4, 3) := by decide +kernel
theorem dX12_line_225 : decode cX12_line 225 = .ok (.iconst 0, 1) := by decide +kernel
theorem dX12_line_226 : decode cX12_line 226 = .ok (.invokevirtual 253, 3) := by decide +kernel
theorem dX12_line_229 : decode cX12_line 229 = .ok (.ifCond .eq 64, 3) := by decide +kernel
theorem dX12_line_232 : decode cX12_line 232 = .ok (.aload_n 0, 1) := by decide +kernel
theorem dX12_line_233 : decode cX12_line 233 = .ok (.aload_n 0, 1) := by decide +kernel
theorem dX12_line_234 : decode cX12_line 234 = .ok (.getfield 183, 3) := by decide +kernel
theorem dX12_line_237 : decode cX12_line 237 = .ok (.putfield 270, 3) := by decide +kernel
theorem dX12_line_240 : decode cX12_line 240 = .ok (.aload_n 0, 1) := by decide +kernel
theorem dX12_line_241 : decode cX12_line 241 = .ok (.invokevirtual 273, 3) := by decide +kernel
theorem dX12_line_244 : decode cX12_line 244 = .ok (.goto 49, 3) := by decide +kernel
theorem dX12_line_247 : decode cX12_line 247 = .ok (.iload_n 1, 1) := by decide +kernel
theorem dX12_line_248 : decode cX12_line 248 = .ok (.bipush 15, 2) := by decide +kernel
theorem dX12_line_250 : decode cX12_line 250 = .ok (.if_icmp .ne 38, 3) := by decide +kernel
theorem dX12_line_253 : decode cX12_line 253 = .ok (.aload_n 0, 1) := by decide +kernel
theorem dX12_line_254 : decode cX12_line 254 = .ok (.aload_n 0, 1) := by decide +kernel
theorem dX12_line_255 : decode cX12_line 255 = .ok (.getfield 276, 3) := by decide +kernel
theorem dX12_line_258 : decode cX12_line 258 = .ok (.iconst (-1), 1) := by decide +kernel
theorem dX12_line_259 : decode cX12_line 259 = .ok (.if_icmp .eq 7, 3) := by decide +kernel
theorem dX12_line_262 : decode cX12_line 262 = .ok (.iconst 1, 1) := by decide +kernel
theorem dX12_line_263 : decode cX12_line 263 = .ok (.goto 4, 3) := by decide +kernel
theorem dX12_line_266 : decode cX12_line 266 = .ok (.iconst 0, 1) := by decide +kernel
theorem dX12_line_267 : decode cX12_line 267 = .ok (.invokevirtual 253, 3) := by decide +kernel
theorem dX12_line_270 : decode cX12_line 270 = .ok (.ifCond .eq 23, 3) := by decide +kernel
theorem dX12_line_273 : decode cX12_line 273 = .ok (.aload_n 0, 1) := by decide +kernel
theorem dX12_line_274 : decode cX12_line 274 = .ok (.aload_n 0, 1) := by decide +kernel
theorem dX12_line_275 : decode cX12_line 275 = .ok (.getfield 183, 3) := by decide +kernel
theorem dX12_line_278 : decode cX12_line 278 = .ok (.putfield 276, 3) := by decide +kernel
theorem dX12_line_281 : decode cX12_line 281 = .ok (.aload_n 0, 1) := by decide +kernel
theorem dX12_line_282 : decode cX12_line 282 = .ok (.invokevirtual 273, 3) := by decide +kernel
theorem dX12_line_285 : decode cX12_line 285 = .ok (.goto 8, 3) := by decide +kernel
theorem dX12_line_288 : decode cX12_line 288 = .ok (.aload_n 0, 1) := by decide +kernel
theorem dX12_line_289 : decode cX12_line 289 = .ok (.iconst 1, 1) := by decide +kernel
theorem dX12_line_290 : decode cX12_line 290 = .ok (.invokevirtual 180, 3) := by decide +kernel
theorem dX12_line_293 : decode cX12_line 293 = .ok (.aload_n 0, 1) := by decide +kernel
theorem dX12_line_294 : decode cX12_line 294 = .ok (.aload_n 0, 1) := by decide +kernel
theorem dX12_line_295 : decode cX12_line 295 = .ok (.bipush 59, 2) := by decide +kernel
theorem dX12_line_297 : decode cX12_line 297 = .ok (.invokevirtual 205, 3) := by decide +kernel
theorem dX12_line_300 : decode cX12_line 300 = .ok (.invokevirtual 279, 3) := by decide +kernel
theorem dX12_line_303 : decode cX12_line 303 = .ok (.return_, 1) := by decide +kernel
theorem dX12_tower_0 : decode cX12_tower 0 = .ok (.aload_n 0, 1) := by decide +kernel
theorem dX12_tower_1 : decode cX12_tower 1 = .ok (.iconst 0, 1) := by decide +kernel
theorem dX12_tower_2 : decode cX12_tower 2 = .ok (.putfield 114, 3) := by decide +kernel
theorem dX12_tower_5 : decode cX12_tower 5 = .ok (.aload_n 0, 1) := by decide +kernel
theorem dX12_tower_6 : decode cX12_tower 6 = .ok (.iload_n 1, 1) := by decide +kernel
theorem dX12_tower_7 : decode cX12_tower 7 = .ok (.ifCond .lt 15, 3) := by decide +kernel
theorem dX12_tower_10 : decode cX12_tower 10 = .ok (.iload_n 1, 1) := by decide +kernel
theorem dX12_tower_11 : decode cX12_tower 11 = .ok (.aload_n 0, 1) := by decide +kernel
theorem dX12_tower_12 : decode cX12_tower 12 = .ok (.getfield 117, 3) := by decide +kernel
theorem dX12_tower_15 : decode cX12_tower 15 = .ok (.if_icmp .gt 7, 3) := by decide +kernel
theorem dX12_tower_18 : decode cX12_tower 18 = .ok (.iconst 1, 1) := by decide +kernel
theorem dX12_tower_19 : decode cX12_tower 19 = .ok (.goto 4, 3) := by decide +kernel
theorem dX12_tower_22 : decode cX12_tower 22 = .ok (.iconst 0, 1) := by decide +kernel
theorem dX12_tower_23 : decode cX12_tower 23 = .ok (.iconst 1, 1) := by decide +kernel
theorem dX12_tower_24 : decode cX12_tower 24 = .ok (.invokevirtual 282, 3) := by decide +kernel
theorem dX12_tower_27 : decode cX12_tower 27 = .ok (.ifCond .ne 5, 3) := by decide +kernel
theorem dX12_tower_30 : decode cX12_tower 30 = .ok (.iconst 0, 1) := by decide +kernel
theorem dX12_tower_31 : decode cX12_tower 31 = .ok (.ireturn, 1) := by decide +kernel
theorem dX12_tower_32 : decode cX12_tower 32 = .ok (.aload_n 0, 1) := by decide +kernel
theorem dX12_tower_33 : decode cX12_tower 33 = .ok (.iconst 0, 1) := by decide +kernel
theorem dX12_tower_34 : decode cX12_tower 34 = .ok (.putfield 117, 3) := by decide +kernel
theorem dX12_tower_37 : decode cX12_tower 37 = .ok (.aload_n 0, 1) := by decide +kernel
theorem dX12_tower_38 : decode cX12_tower 38 = .ok (.iconst (-1), 1) := by decide +kernel
theorem dX12_tower_39 : decode cX12_tower 39 = .ok (.putfield 35, 3) := by decide +kernel
theorem dX12_tower_42 : decode cX12_tower 42 = .ok (.aload_n 0, 1) := by decide +kernel
theorem dX12_tower_43 : decode cX12_tower 43 = .ok (.iconst 0, 1) := by decide +kernel
theorem dX12_tower_44 : decode cX12_tower 44 = .ok (.putfield 170, 3) := by decide +kernel
theorem dX12_tower_47 : decode cX12_tower 47 = .ok (.aload_n 0, 1) := by decide +kernel
theorem dX12_tower_48 : decode cX12_tower 48 = .ok (.iload_n 1, 1) := by decide +kernel
theorem dX12_tower_49 : decode cX12_tower 49 = .ok (.putfield 124, 3) := by decide +kernel
theorem dX12_tower_52 : decode cX12_tower 52 = .ok (.aload_n 0, 1) := by decide +kernel
theorem dX12_tower_53 : decode cX12_tower 53 = .ok (.iconst 0, 1) := by decide +kernel
theorem dX12_tower_54 : decode cX12_tower 54 = .ok (.putfield 127, 3) := by decide +kernel
theorem dX12_tower_57 : decode cX12_tower 57 = .ok (.aload_n 0, 1) := by decide +kernel
theorem dX12_tower_58 : decode cX12_tower 58 = .ok (.iconst 0, 1) := by decide +kernel
theorem dX12_tower_59 : decode cX12_tower 59 = .ok (.putfield 230, 3) := by decide +kernel
theorem dX12_tower_62 : decode cX12_tower 62 = .ok (.aload_n 0, 1) := by decide +kernel
theorem dX12_tower_63 : decode cX12_tower 63 = .ok (.iconst 0, 1) := by decide +kernel
theorem dX12_tower_64 : decode cX12_tower 64 = .ok (.putfield 250, 3) := by decide +kernel
theorem dX12_tower_67 : decode cX12_tower 67 = .ok (.aload_n 0, 1) := by decide +kernel
theorem dX12_tower_68 : decode cX12_tower 68 = .ok (.iconst (-1), 1) := by decide +kernel
theorem dX12_tower_69 : decode cX12_tower 69 = .ok (.putfield 261, 3) := by decide +kernel
theorem dX12_tower_72 : decode cX12_tower 72 = .ok (.aload_n 0, 1) := by decide +kernel
theorem dX12_tower_73 : decode cX12_tower 73 = .ok (.iconst 0, 1) := by decide +kernel
theorem dX12_tower_74 : decode cX12_tower 74 = .ok (.putfield 264, 3) := by decide +kernel
theorem dX12_tower_77 : decode cX12_tower 77 = .ok (.aload_n 0, 1) := by decide +kernel
theorem dX12_tower_78 : decode cX12_tower 78 = .ok (.iconst 0, 1) := by decide +kernel
theorem dX12_tower_79 : decode cX12_tower 79 = .ok (.putfield 267, 3) := by decide +kernel
theorem dX12_tower_82 : decode cX12_tower 82 = .ok (.aload_n 0, 1) := by decide +kernel
theorem dX12_tower_83 : decode cX12_tower 83 = .ok (.iconst (-1), 1) := by decide +kernel
theorem dX12_tower_84 : decode cX12_tower 84 = .ok (.putfield 270, 3) := by decide +kernel
theorem dX12_tower_87 : decode cX12_tower 87 = .ok (.aload_n 0, 1) := by decide +kernel
theorem dX12_tower_88 : decode cX12_tower 88 = .ok (.iconst (-1), 1) := by decide +kernel
theorem dX12_tower_89 : decode cX12_tower 89 = .ok (.putfield 276, 3) := by decide +kernel
theorem dX12_tower_92 : decode cX12_tower 92 = .ok (.aload_n 0, 1) := by decide +kernel
theorem dX12_tower_93 : decode cX12_tower 93 = .ok (.getfield 50, 3) := by decide +kernel
theorem dX12_tower_96 : decode cX12_tower 96 = .ok (.iconst 0, 1) := by decide +kernel
theorem dX12_tower_97 : decode cX12_tower 97 = .ok (.iconst 0, 1) := by decide +kernel
theorem dX12_tower_98 : decode cX12_tower 98 = .ok (.iastore, 1) := by decide +kernel
theorem dX12_tower_99 : decode cX12_tower 99 = .ok (.aload_n 0, 1) := by decide +kernel
theorem dX12_tower_100 : decode cX12_tower 100 = .ok (.iconst 0, 1) := by decide +kernel
theorem dX12_tower_101 : decode cX12_tower 101 = .ok (.putfield 183, 3) := by decide +kernel
theorem dX12_tower_104 : decode cX12_tower 104 = .ok (.aload_n 0, 1) := by decide +kernel
theorem dX12_tower_105 : decode cX12_tower 105 = .ok (.invokevirtual 177, 3) := by decide +kernel
theorem dX12_tower_108 : decode cX12_tower 108 = .ok (.aload_n 0, 1) := by decide +kernel
theorem dX12_tower_109 : decode cX12_tower 109 = .ok (.invokevirtual 173, 3) := by decide +kernel
theorem dX12_tower_112 : decode cX12_tower 112 = .ok (.ifCond .eq 17, 3) := by decide +kernel
theorem dX12_tower_115 : decode cX12_tower 115 = .ok (.aload_n 0, 1) := by decide +kernel
theorem dX12_tower_116 : decode cX12_tower 116 = .ok (.getfield 147, 3) := by decide +kernel
theorem dX12_tower_119 : decode cX12_tower 119 = .ok (.ifCond .eq 10, 3) := by decide +kernel
theorem dX12_tower_122 : decode cX12_tower 122 = .ok (.aload_n 0, 1) := by decide +kernel
theorem dX12_tower_123 : decode cX12_tower 123 = .ok (.invokevirtual 286, 3) := by decide +kernel
theorem dX12_tower_126 : decode cX12_tower 126 = .ok (.goto (-18), 3) := by decide +kernel
theorem dX12_tower_129 : decode cX12_tower 129 = .ok (.aload_n 0, 1) := by decide +kernel
theorem dX12_tower_130 : decode cX12_tower 130 = .ok (.invokevirtual 173, 3) := by decide +kernel
theorem dX12_tower_133 : decode cX12_tower 133 = .ok (.ifCond .ne 18, 3) := by decide +kernel
theorem dX12_tower_136 : decode cX12_tower 136 = .ok (.aload_n 0, 1) := by decide +kernel
theorem dX12_tower_137 : decode cX12_tower 137 = .ok (.getfield 38, 3) := by decide +kernel
theorem dX12_tower_140 : decode cX12_tower 140 = .ok (.iconst 0, 1) := by decide +kernel
theorem dX12_tower_141 : decode cX12_tower 141 = .ok (.dup2, 1) := by decide +kernel
theorem dX12_tower_142 : decode cX12_tower 142 = .ok (.iaload, 1) := by decide +kernel
theorem dX12_tower_143 : decode cX12_tower 143 = .ok (.iconst 1, 1) := by decide +kernel
theorem dX12_tower_144 : decode cX12_tower 144 = .ok (.iadd, 1) := by decide +kernel
theorem dX12_tower_145 : decode cX12_tower 145 = .ok (.iastore, 1) := by decide +kernel
theorem dX12_tower_146 : decode cX12_tower 146 = .ok (.aload_n 0, 1) := by decide +kernel
theorem dX12_tower_147 : decode cX12_tower 147 = .ok (.getfield 170, 3) := by decide +kernel
theorem dX12_tower_150 : decode cX12_tower 150 = .ok (.ireturn, 1) := by decide +kernel
theorem dX12_tower_151 : decode cX12_tower 151 = .ok (.aload_n 0, 1) := by decide +kernel
theorem dX12_tower_152 : decode cX12_tower 152 = .ok (.aload_n 0, 1) := by decide +kernel
theorem dX12_tower_153 : decode cX12_tower 153 = .ok (.getfield 230, 3) := by decide +kernel
theorem dX12_tower_156 : decode cX12_tower 156 = .ok (.putfield 289, 3) := by decide +kernel
theorem dX12_tower_159 : decode cX12_tower 159 = .ok (.aload_n 0, 1) := by decide +kernel
theorem dX12_tower_160 : decode cX12_tower 160 = .ok (.aload_n 0, 1) := by decide +kernel
theorem dX12_tower_161 : decode cX12_tower 161 = .ok (.getfield 250, 3) := by decide +kernel
theorem dX12_tower_164 : decode cX12_tower 164 = .ok (.putfield 292, 3) := by decide +kernel
theorem dX12_tower_167 : decode cX12_tower 167 = .ok (.aload_n 0, 1) := by decide +kernel
theorem dX12_tower_168 : decode cX12_tower 168 = .ok (.aload_n 0, 1) := by decide +kernel
theorem dX12_tower_169 : decode cX12_tower 169 = .ok (.getfield 261, 3) := by decide +kernel
theorem dX12_tower_172 : decode cX12_tower 172 = .ok (.iconst (-1), 1) := by decide +kernel
theorem dX12_tower_173 : decode cX12_tower 173 = .ok (.if_icmp .ne 8, 3) := by decide +kernel
theorem dX12_tower_176 : decode cX12_tower 176 = .ok (.bipush 20, 2) := by decide +kernel
theorem dX12_tower_178 : decode cX12_tower 178 = .ok (.goto 7, 3) := by decide +kernel
theorem dX12_tower_181 : decode cX12_tower 181 = .ok (.aload_n 0, 1) := by decide +kernel
theorem dX12_tower_182 : decode cX12_tower 182 = .ok (.getfield 261, 3) := by decide +kernel
theorem dX12_tower_185 : decode cX12_tower 185 = .ok (.putfield 7, 3) := by decide +kernel
theorem dX12_tower_188 : decode cX12_tower 188 = .ok (.aload_n 0, 1) := by decide +kernel
theorem dX12_tower_189 : decode cX12_tower 189 = .ok (.aload_n 0, 1) := by decide +kernel
theorem dX12_tower_190 : decode cX12_tower 190 = .ok (.getfield 264, 3) := by decide +kernel
theorem dX12_tower_193 : decode cX12_tower 193 = .ok (.putfield 295, 3) := by decide +kernel
theorem dX12_tower_196 : decode cX12_tower 196 = .ok (.aload_n 0, 1) := by decide +kernel
theorem dX12_tower_197 : decode cX12_tower 197 = .ok (.aload_n 0, 1) := by decide +kernel
theorem dX12_tower_198 : decode cX12_tower 198 = .ok (.getfield 267, 3) := by decide +kernel
theorem dX12_tower_201 : decode cX12_tower 201 = .ok (.putfield 298, 3) := by decide +kernel
theorem dX12_tower_204 : decode cX12_tower 204 = .ok (.aload_n 0, 1) := by decide +kernel
theorem dX12_tower_205 : decode cX12_tower 205 = .ok (.aload_n 0, 1) := by decide +kernel
theorem dX12_tower_206 : decode cX12_tower 206 = .ok (.getfield 270, 3) := by decide +kernel
theorem dX12_tower_209 : decode cX12_tower 209 = .ok (.putfield 13, 3) := by decide +kernel
theorem dX12_tower_212 : decode cX12_tower 212 = .ok (.aload_n 0, 1) := by decide +kernel
theorem dX12_tower_213 : decode cX12_tower 213 = .ok (.aload_n 0, 1) := by decide +kernel
theorem dX12_tower_214 : decode cX12_tower 214 = .ok (.getfield 276, 3) := by decide +kernel
theorem dX12_tower_217 : decode cX12_tower 217 = .ok (.putfield 16, 3) := by decide +kernel
theorem dX12_tower_220 : decode cX12_tower 220 = .ok (.aload_n 0, 1) := by decide +kernel
theorem dX12_tower_221 : decode cX12_tower 221 = .ok (.aload_n 0, 1) := by decide +kernel
theorem dX12_tower_222 : decode cX12_tower 222 = .ok (.getfield 41, 3) := by decide +kernel
theorem dX12_tower_225 : decode cX12_tower 225 = .ok (.aload_n 0, 1) := by decide +kernel
theorem dX12_tower_226 : decode cX12_tower 226 = .ok (.getfield 19, 3) := by decide +kernel
theorem dX12_tower_229 : decode cX12_tower 229 = .ok (.invokevirtual 301, 3) := by decide +kernel
theorem dX12_tower_232 : decode cX12_tower 232 = .ok (.aload_n 0, 1) := by decide +kernel
theorem dX12_tower_233 : decode cX12_tower 233 = .ok (.aload_n 0, 1) := by decide +kernel
theorem dX12_tower_234 : decode cX12_tower 234 = .ok (.getfield 44, 3) := by decide +kernel
theorem dX12_tower_237 : decode cX12_tower 237 = .ok (.aload_n 0, 1) := by decide +kernel
theorem dX12_tower_238 : decode cX12_tower 238 = .ok (.getfield 23, 3) := by decide +kernel
theorem dX12_tower_241 : decode cX12_tower 241 = .ok (.invokevirtual 301, 3) := by decide +kernel
theorem dX12_tower_244 : decode cX12_tower 244 = .ok (.aload_n 0, 1) := by decide +kernel
theorem dX12_tower_245 : decode cX12_tower 245 = .ok (.aload_n 0, 1) := by decide +kernel
theorem dX12_tower_246 : decode cX12_tower 246 = .ok (.getfield 47, 3) := by decide +kernel
theorem dX12_tower_249 : decode cX12_tower 249 = .ok (.aload_n 0, 1) := by decide +kernel
theorem dX12_tower_250 : decode cX12_tower 250 = .ok (.getfield 26, 3) := by decide +kernel
theorem dX12_tower_253 : decode cX12_tower 253 = .ok (.invokevirtual 301, 3) := by decide +kernel
theorem dX12_tower_256 : decode cX12_tower 256 = .ok (.aload_n 0, 1) := by decide +kernel
theorem dX12_tower_257 : decode cX12_tower 257 = .ok (.aload_n 0, 1) := by decide +kernel
theorem dX12_tower_258 : decode cX12_tower 258 = .ok (.getfield 53, 3) := by decide +kernel
theorem dX12_tower_261 : decode cX12_tower 261 = .ok (.aload_n 0, 1) := by decide +kernel
theorem dX12_tower_262 : decode cX12_tower 262 = .ok (.getfield 29, 3) := by decide +kernel
theorem dX12_tower_265 : decode cX12_tower 265 = .ok (.invokevirtual 301, 3) := by decide +kernel
theorem dX12_tower_268 : decode cX12_tower 268 = .ok (.iconst 0, 1) := by decide +kernel
theorem dX12_tower_269 : decode cX12_tower 269 = .ok (.istore_n 2, 1) := by decide +kernel
theorem dX12_tower_270 : decode cX12_tower 270 = .ok (.iload_n 2, 1) := by decide +kernel
theorem dX12_tower_271 : decode cX12_tower 271 = .ok (.bipush 53, 2) := by decide +kernel
theorem dX12_tower_273 : decode cX12_tower 273 = .ok (.if_icmp .ge 21, 3) := by decide +kernel
theorem dX12_tower_276 : decode cX12_tower 276 = .ok (.aload_n 0, 1) := by decide +kernel
theorem dX12_tower_277 : decode cX12_tower 277 = .ok (.getfield 63, 3) := by decide +kernel
theorem dX12_tower_280 : decode cX12_tower 280 = .ok (.iload_n 2, 1) := by decide +kernel
theorem dX12_tower_281 : decode cX12_tower 281 = .ok (.aload_n 0, 1) := by decide +kernel
theorem dX12_tower_282 : decode cX12_tower 282 = .ok (.getfield 50, 3) := by decide +kernel
theorem dX12_tower_285 : decode cX12_tower 285 = .ok (.iload_n 2, 1) := by decide +kernel
theorem dX12_tower_286 : decode cX12_tower 286 = .ok (.iaload, 1) := by decide +kernel
theorem dX12_tower_287 : decode cX12_tower 287 = .ok (.iastore, 1) := by decide +kernel
theorem dX12_tower_288 : decode cX12_tower 288 = .ok (.iinc 2 1, 3) := by decide +kernel
theorem dX12_tower_291 : decode cX12_tower 291 = .ok (.goto (-21), 3) := by decide +kernel
theorem dX12_tower_294 : decode cX12_tower 294 = .ok (.aload_n 0, 1) := by decide +kernel
theorem dX12_tower_295 : decode cX12_tower 295 = .ok (.iconst 0, 1) := by decide +kernel
theorem dX12_tower_296 : decode cX12_tower 296 = .ok (.putfield 305, 3) := by decide +kernel
theorem dX12_tower_299 : decode cX12_tower 299 = .ok (.aload_n 0, 1) := by decide +kernel
theorem dX12_tower_300 : decode cX12_tower 300 = .ok (.iconst 0, 1) := by decide +kernel
theorem dX12_tower_301 : decode cX12_tower 301 = .ok (.putfield 308, 3) := by decide +kernel
theorem dX12_tower_304 : decode cX12_tower 304 = .ok (.aload_n 0, 1) := by decide +kernel
theorem dX12_tower_305 : decode cX12_tower 305 = .ok (.iconst 0, 1) := by decide +kernel
theorem dX12_tower_306 : decode cX12_tower 306 = .ok (.putfield 311, 3) := by decide +kernel
theorem dX12_tower_309 : decode cX12_tower 309 = .ok (.iconst 0, 1) := by decide +kernel
theorem dX12_tower_310 : decode cX12_tower 310 = .ok (.ireturn, 1) := by decide +kernel
theorem dX12_fault_0 : decode cX12_fault 0 = .ok (.aload_n 0, 1) := by decide +kernel
theorem dX12_fault_1 : decode cX12_fault 1 = .ok (.iconst 0, 1) := by decide +kernel
theorem dX12_fault_2 : decode cX12_fault 2 = .ok (.putfield 114, 3) := by decide +kernel
theorem dX12_fault_5 : decode cX12_fault 5 = .ok (.aload_n 0, 1) := by decide +kernel
theorem dX12_fault_6 : decode cX12_fault 6 = .ok (.getfield 35, 3) := by decide +kernel
theorem dX12_fault_9 : decode cX12_fault 9 = .ok (.ireturn, 1) := by decide +kernel
theorem dX12_keeps_0 : decode cX12_keeps 0 = .ok (.aload_n 0, 1) := by decide +kernel
theorem dX12_keeps_1 : decode cX12_keeps 1 = .ok (.getfield 305, 3) := by decide +kernel
theorem dX12_keeps_4 : decode cX12_keeps 4 = .ok (.bipush 40, 2) := by decide +kernel
theorem dX12_keeps_6 : decode cX12_keeps 6 = .ok (.if_icmp .ne 44, 3) := by decide +kernel
theorem dX12_keeps_9 : decode cX12_keeps 9 = .ok (.bipush 53, 2) := by decide +kernel
theorem dX12_keeps_11 : decode cX12_keeps 11 = .ok (.istore_n 1, 1) := by decide +kernel
theorem dX12_keeps_12 : decode cX12_keeps 12 = .ok (.iload_n 1, 1) := by decide +kernel
theorem dX12_keeps_13 : decode cX12_keeps 13 = .ok (.sipush 2120, 3) := by decide +kernel
theorem dX12_keeps_16 : decode cX12_keeps 16 = .ok (.if_icmp .ge 24, 3) := by decide +kernel
theorem dX12_keeps_19 : decode cX12_keeps 19 = .ok (.aload_n 0, 1) := by decide +kernel
theorem dX12_keeps_20 : decode cX12_keeps 20 = .ok (.getfield 66, 3) := by decide +kernel
theorem dX12_keeps_23 : decode cX12_keeps 23 = .ok (.iload_n 1, 1) := by decide +kernel
theorem dX12_keeps_24 : decode cX12_keeps 24 = .ok (.bipush 53, 2) := by decide +kernel
theorem dX12_keeps_26 : decode cX12_keeps 26 = .ok (.isub, 1) := by decide +kernel
theorem dX12_keeps_27 : decode cX12_keeps 27 = .ok (.aload_n 0, 1) := by decide +kernel
theorem dX12_keeps_28 : decode cX12_keeps 28 = .ok (.getfield 66, 3) := by decide +kernel
theorem dX12_keeps_31 : decode cX12_keeps 31 = .ok (.iload_n 1, 1) := by decide +kernel
theorem dX12_keeps_32 : decode cX12_keeps 32 = .ok (.iaload, 1) := by decide +kernel
theorem dX12_keeps_33 : decode cX12_keeps 33 = .ok (.iastore, 1) := by decide +kernel
theorem dX12_keeps_34 : decode cX12_keeps 34 = .ok (.iinc 1 1, 3) := by decide +kernel
theorem dX12_keeps_37 : decode cX12_keeps 37 = .ok (.goto (-25), 3) := by decide +kernel
theorem dX12_keeps_40 : decode cX12_keeps 40 = .ok (.aload_n 0, 1) := by decide +kernel
theorem dX12_keeps_41 : decode cX12_keeps 41 = .ok (.dup, 1) := by decide +kernel
theorem dX12_keeps_42 : decode cX12_keeps 42 = .ok (.getfield 305, 3) := by decide +kernel
theorem dX12_keeps_45 : decode cX12_keeps 45 = .ok (.iconst 1, 1) := by decide +kernel
theorem dX12_keeps_46 : decode cX12_keeps 46 = .ok (.isub, 1) := by decide +kernel
theorem dX12_keeps_47 : decode cX12_keeps 47 = .ok (.putfield 305, 3) := by decide +kernel
theorem dX12_keeps_50 : decode cX12_keeps 50 = .ok (.iconst 0, 1) := by decide +kernel
theorem dX12_keeps_51 : decode cX12_keeps 51 = .ok (.istore_n 1, 1) := by decide +kernel
theorem dX12_keeps_52 : decode cX12_keeps 52 = .ok (.iload_n 1, 1) := by decide +kernel
theorem dX12_keeps_53 : decode cX12_keeps 53 = .ok (.bipush 53, 2) := by decide +kernel
theorem dX12_keeps_55 : decode cX12_keeps 55 = .ok (.if_icmp .ge 29, 3) := by decide +kernel
theorem dX12_keeps_58 : decode cX12_keeps 58 = .ok (.aload_n 0, 1) := by decide +kernel
theorem dX12_keeps_59 : decode cX12_keeps 59 = .ok (.getfield 66, 3) := by decide +kernel
theorem dX12_keeps_62 : decode cX12_keeps 62 = .ok (.bipush 53, 2) := by decide +kernel
theorem dX12_keeps_64 : decode cX12_keeps 64 = .ok (.aload_n 0, 1) := by decide +kernel
theorem dX12_keeps_65 : decode cX12_keeps 65 = .ok (.getfield 305, 3) := by decide +kernel
theorem dX12_keeps_68 : decode cX12_keeps 68 = .ok (.imul, 1) := by decide +kernel
theorem dX12_keeps_69 : decode cX12_keeps 69 = .ok (.iload_n 1, 1) := by decide +kernel
theorem dX12_keeps_70 : decode cX12_keeps 70 = .ok (.iadd, 1) := by decide +kernel
theorem dX12_keeps_71 : decode cX12_keeps 71 = .ok (.aload_n 0, 1) := by decide +kernel
theorem dX12_keeps_72 : decode cX12_keeps 72 = .ok (.getfield 63, 3) := by decide +kernel
theorem dX12_keeps_75 : decode cX12_keeps 75 = .ok (.iload_n 1, 1) := by decide +kernel
theorem dX12_keeps_76 : decode cX12_keeps 76 = .ok (.iaload, 1) := by decide +kernel
theorem dX12_keeps_77 : decode cX12_keeps 77 = .ok (.iastore, 1) := by decide +kernel
theorem dX12_keeps_78 : decode cX12_keeps 78 = .ok (.iinc 1 1, 3) := by decide +kernel
theorem dX12_keeps_81 : decode cX12_keeps 81 = .ok (.goto (-29), 3) := by decide +kernel
theorem dX12_keeps_84 : decode cX12_keeps 84 = .ok (.aload_n 0, 1) := by decide +kernel
theorem dX12_keeps_85 : decode cX12_keeps 85 = .ok (.dup, 1) := by decide +kernel
theorem dX12_keeps_86 : decode cX12_keeps 86 = .ok (.getfield 305, 3) := by decide +kernel
theorem dX12_keeps_89 : decode cX12_keeps 89 = .ok (.iconst 1, 1) := by decide +kernel
theorem dX12_keeps_90 : decode cX12_keeps 90 = .ok (.iadd, 1) := by decide +kernel
theorem dX12_keeps_91 : decode cX12_keeps 91 = .ok (.putfield 305, 3) := by decide +kernel
theorem dX12_keeps_94 : decode cX12_keeps 94 = .ok (.return_, 1) := by decide +kernel
theorem dX12_refuses_0 : decode cX12_refuses 0 = .ok (.aload_n 0, 1) := by decide +kernel
theorem dX12_refuses_1 : decode cX12_refuses 1 = .ok (.getfield 38, 3) := by decide +kernel
theorem dX12_refuses_4 : decode cX12_refuses 4 = .ok (.iload_n 1, 1) := by decide +kernel
theorem dX12_refuses_5 : decode cX12_refuses 5 = .ok (.dup2, 1) := by decide +kernel
theorem dX12_refuses_6 : decode cX12_refuses 6 = .ok (.iaload, 1) := by decide +kernel
theorem dX12_refuses_7 : decode cX12_refuses 7 = .ok (.iconst 1, 1) := by decide +kernel
theorem dX12_refuses_8 : decode cX12_refuses 8 = .ok (.iadd, 1) := by decide +kernel
theorem dX12_refuses_9 : decode cX12_refuses 9 = .ok (.iastore, 1) := by decide +kernel
theorem dX12_refuses_10 : decode cX12_refuses 10 = .ok (.iconst (-1), 1) := by decide +kernel
theorem dX12_refuses_11 : decode cX12_refuses 11 = .ok (.ireturn, 1) := by decide +kernel
theorem dX12_undo_0 : decode cX12_undo 0 = .ok (.aload_n 0, 1) := by decide +kernel
theorem dX12_undo_1 : decode cX12_undo 1 = .ok (.iconst 0, 1) := by decide +kernel
theorem dX12_undo_2 : decode cX12_undo 2 = .ok (.putfield 114, 3) := by decide +kernel
theorem dX12_undo_5 : decode cX12_undo 5 = .ok (.aload_n 0, 1) := by decide +kernel
theorem dX12_undo_6 : decode cX12_undo 6 = .ok (.getfield 305, 3) := by decide +kernel
theorem dX12_undo_9 : decode cX12_undo 9 = .ok (.ifCond .ne 5, 3) := by decide +kernel
theorem dX12_undo_12 : decode cX12_undo 12 = .ok (.iconst (-1), 1) := by decide +kernel
theorem dX12_undo_13 : decode cX12_undo 13 = .ok (.ireturn, 1) := by decide +kernel
theorem dX12_undo_14 : decode cX12_undo 14 = .ok (.aload_n 0, 1) := by decide +kernel
theorem dX12_undo_15 : decode cX12_undo 15 = .ok (.dup, 1) := by decide +kernel
theorem dX12_undo_16 : decode cX12_undo 16 = .ok (.getfield 305, 3) := by decide +kernel
theorem dX12_undo_19 : decode cX12_undo 19 = .ok (.iconst 1, 1) := by decide +kernel
theorem dX12_undo_20 : decode cX12_undo 20 = .ok (.isub, 1) := by decide +kernel
theorem dX12_undo_21 : decode cX12_undo 21 = .ok (.putfield 305, 3) := by decide +kernel
theorem dX12_undo_24 : decode cX12_undo 24 = .ok (.iconst 0, 1) := by decide +kernel
theorem dX12_undo_25 : decode cX12_undo 25 = .ok (.istore_n 1, 1) := by decide +kernel
theorem dX12_undo_26 : decode cX12_undo 26 = .ok (.iload_n 1, 1) := by decide +kernel
theorem dX12_undo_27 : decode cX12_undo 27 = .ok (.bipush 53, 2) := by decide +kernel
theorem dX12_undo_29 : decode cX12_undo 29 = .ok (.if_icmp .ge 29, 3) := by decide +kernel
theorem dX12_undo_32 : decode cX12_undo 32 = .ok (.aload_n 0, 1) := by decide +kernel
theorem dX12_undo_33 : decode cX12_undo 33 = .ok (.getfield 63, 3) := by decide +kernel
theorem dX12_undo_36 : decode cX12_undo 36 = .ok (.iload_n 1, 1) := by decide +kernel
theorem dX12_undo_37 : decode cX12_undo 37 = .ok (.aload_n 0, 1) := by decide +kernel
theorem dX12_undo_38 : decode cX12_undo 38 = .ok (.getfield 66, 3) := by decide +kernel
theorem dX12_undo_41 : decode cX12_undo 41 = .ok (.bipush 53, 2) := by decide +kernel
theorem dX12_undo_43 : decode cX12_undo 43 = .ok (.aload_n 0, 1) := by decide +kernel
theorem dX12_undo_44 : decode cX12_undo 44 = .ok (.getfield 305, 3) := by decide +kernel
theorem dX12_undo_47 : decode cX12_undo 47 = .ok (.imul, 1) := by decide +kernel
theorem dX12_undo_48 : decode cX12_undo 48 = .ok (.iload_n 1, 1) := by decide +kernel
theorem dX12_undo_49 : decode cX12_undo 49 = .ok (.iadd, 1) := by decide +kernel
theorem dX12_undo_50 : decode cX12_undo 50 = .ok (.iaload, 1) := by decide +kernel
theorem dX12_undo_51 : decode cX12_undo 51 = .ok (.iastore, 1) := by decide +kernel
theorem dX12_undo_52 : decode cX12_undo 52 = .ok (.iinc 1 1, 3) := by decide +kernel
theorem dX12_undo_55 : decode cX12_undo 55 = .ok (.goto (-29), 3) := by decide +kernel
theorem dX12_undo_58 : decode cX12_undo 58 = .ok (.aload_n 0, 1) := by decide +kernel
theorem dX12_undo_59 : decode cX12_undo 59 = .ok (.getfield 305, 3) := by decide +kernel
theorem dX12_undo_62 : decode cX12_undo 62 = .ok (.ireturn, 1) := by decide +kernel
theorem dX12_tries_0 : decode cX12_tries 0 = .ok (.iconst 0, 1) := by decide +kernel
theorem dX12_tries_1 : decode cX12_tries 1 = .ok (.istore_n 1, 1) := by decide +kernel
theorem dX12_tries_2 : decode cX12_tries 2 = .ok (.iload_n 1, 1) := by decide +kernel
theorem dX12_tries_3 : decode cX12_tries 3 = .ok (.bipush 53, 2) := by decide +kernel
theorem dX12_tries_5 : decode cX12_tries 5 = .ok (.if_icmp .ge 24, 3) := by decide +kernel
theorem dX12_tries_8 : decode cX12_tries 8 = .ok (.aload_n 0, 1) := by decide +kernel
theorem dX12_tries_9 : decode cX12_tries 9 = .ok (.getfield 63, 3) := by decide +kernel
theorem dX12_tries_12 : decode cX12_tries 12 = .ok (.bipush 53, 2) := by decide +kernel
theorem dX12_tries_14 : decode cX12_tries 14 = .ok (.iload_n 1, 1) := by decide +kernel
theorem dX12_tries_15 : decode cX12_tries 15 = .ok (.iadd, 1) := by decide +kernel
theorem dX12_tries_16 : decode cX12_tries 16 = .ok (.aload_n 0, 1) := by decide +kernel
theorem dX12_tries_17 : decode cX12_tries 17 = .ok (.getfield 63, 3) := by decide +kernel
theorem dX12_tries_20 : decode cX12_tries 20 = .ok (.iload_n 1, 1) := by decide +kernel
theorem dX12_tries_21 : decode cX12_tries 21 = .ok (.iaload, 1) := by decide +kernel
theorem dX12_tries_22 : decode cX12_tries 22 = .ok (.iastore, 1) := by decide +kernel
theorem dX12_tries_23 : decode cX12_tries 23 = .ok (.iinc 1 1, 3) := by decide +kernel
theorem dX12_tries_26 : decode cX12_tries 26 = .ok (.goto (-24), 3) := by decide +kernel
theorem dX12_tries_29 : decode cX12_tries 29 = .ok (.return_, 1) := by decide +kernel
theorem dX12_works_0 : decode cX12_works 0 = .ok (.iload_n 0, 1) := by decide +kernel
theorem dX12_works_1 : decode cX12_works 1 = .ok (.tableswitch 105 4 10 #[43, 57, 71, 82, 93, 97, 101], 43) := by decide +kernel
theorem dX12_works_44 : decode cX12_works 44 = .ok (.iload_n 1, 1) := by decide +kernel
theorem dX12_works_45 : decode cX12_works 45 = .ok (.ifCond .eq 11, 3) := by decide +kernel
theorem dX12_works_48 : decode cX12_works 48 = .ok (.iload_n 2, 1) := by decide +kernel
theorem dX12_works_49 : decode cX12_works 49 = .ok (.ifCond .eq 7, 3) := by decide +kernel
theorem dX12_works_52 : decode cX12_works 52 = .ok (.iconst 1, 1) := by decide +kernel
theorem dX12_works_53 : decode cX12_works 53 = .ok (.goto 4, 3) := by decide +kernel
theorem dX12_works_56 : decode cX12_works 56 = .ok (.iconst 0, 1) := by decide +kernel
theorem dX12_works_57 : decode cX12_works 57 = .ok (.ireturn, 1) := by decide +kernel
theorem dX12_works_58 : decode cX12_works 58 = .ok (.iload_n 1, 1) := by decide +kernel
theorem dX12_works_59 : decode cX12_works 59 = .ok (.ifCond .ne 7, 3) := by decide +kernel
theorem dX12_works_62 : decode cX12_works 62 = .ok (.iload_n 2, 1) := by decide +kernel
theorem dX12_works_63 : decode cX12_works 63 = .ok (.ifCond .eq 7, 3) := by decide +kernel
theorem dX12_works_66 : decode cX12_works 66 = .ok (.iconst 1, 1) := by decide +kernel
theorem dX12_works_67 : decode cX12_works 67 = .ok (.goto 4, 3) := by decide +kernel
theorem dX12_works_70 : decode cX12_works 70 = .ok (.iconst 0, 1) := by decide +kernel
theorem dX12_works_71 : decode cX12_works 71 = .ok (.ireturn, 1) := by decide +kernel
theorem dX12_works_72 : decode cX12_works 72 = .ok (.iload_n 1, 1) := by decide +kernel
theorem dX12_works_73 : decode cX12_works 73 = .ok (.iload_n 2, 1) := by decide +kernel
theorem dX12_works_74 : decode cX12_works 74 = .ok (.if_icmp .ge 7, 3) := by decide +kernel
theorem dX12_works_77 : decode cX12_works 77 = .ok (.iconst 1, 1) := by decide +kernel
theorem dX12_works_78 : decode cX12_works 78 = .ok (.goto 4, 3) := by decide +kernel
theorem dX12_works_81 : decode cX12_works 81 = .ok (.iconst 0, 1) := by decide +kernel
theorem dX12_works_82 : decode cX12_works 82 = .ok (.ireturn, 1) := by decide +kernel
theorem dX12_works_83 : decode cX12_works 83 = .ok (.iload_n 1, 1) := by decide +kernel
theorem dX12_works_84 : decode cX12_works 84 = .ok (.iload_n 2, 1) := by decide +kernel
theorem dX12_works_85 : decode cX12_works 85 = .ok (.if_icmp .ne 7, 3) := by decide +kernel
theorem dX12_works_88 : decode cX12_works 88 = .ok (.iconst 1, 1) := by decide +kernel
theorem dX12_works_89 : decode cX12_works 89 = .ok (.goto 4, 3) := by decide +kernel
theorem dX12_works_92 : decode cX12_works 92 = .ok (.iconst 0, 1) := by decide +kernel
theorem dX12_works_93 : decode cX12_works 93 = .ok (.ireturn, 1) := by decide +kernel
theorem dX12_works_94 : decode cX12_works 94 = .ok (.iload_n 1, 1) := by decide +kernel
theorem dX12_works_95 : decode cX12_works 95 = .ok (.iload_n 2, 1) := by decide +kernel
theorem dX12_works_96 : decode cX12_works 96 = .ok (.iadd, 1) := by decide +kernel
theorem dX12_works_97 : decode cX12_works 97 = .ok (.ireturn, 1) := by decide +kernel
theorem dX12_works_98 : decode cX12_works 98 = .ok (.iload_n 1, 1) := by decide +kernel
theorem dX12_works_99 : decode cX12_works 99 = .ok (.iload_n 2, 1) := by decide +kernel
theorem dX12_works_100 : decode cX12_works 100 = .ok (.isub, 1) := by decide +kernel
theorem dX12_works_101 : decode cX12_works 101 = .ok (.ireturn, 1) := by decide +kernel
theorem dX12_works_102 : decode cX12_works 102 = .ok (.iload_n 1, 1) := by decide +kernel
theorem dX12_works_103 : decode cX12_works 103 = .ok (.iload_n 2, 1) := by decide +kernel
theorem dX12_works_104 : decode cX12_works 104 = .ok (.imul, 1) := by decide +kernel
theorem dX12_works_105 : decode cX12_works 105 = .ok (.ireturn, 1) := by decide +kernel
theorem dX12_works_106 : decode cX12_works 106 = .ok (.iload_n 2, 1) := by decide +kernel
theorem dX12_works_107 : decode cX12_works 107 = .ok (.ifCond .ne 7, 3) := by decide +kernel
theorem dX12_works_110 : decode cX12_works 110 = .ok (.iconst 0, 1) := by decide +kernel
theorem dX12_works_111 : decode cX12_works 111 = .ok (.goto 6, 3) := by decide +kernel
theorem dX12_works_114 : decode cX12_works 114 = .ok (.iload_n 1, 1) := by decide +kernel
theorem dX12_works_115 : decode cX12_works 115 = .ok (.iload_n 2, 1) := by decide +kernel
theorem dX12_works_116 : decode cX12_works 116 = .ok (.idiv, 1) := by decide +kernel
theorem dX12_works_117 : decode cX12_works 117 = .ok (.ireturn, 1) := by decide +kernel
theorem dX12_reckons_0 : decode cX12_reckons 0 = .ok (.iconst 0, 1) := by decide +kernel
theorem dX12_reckons_1 : decode cX12_reckons 1 = .ok (.istore_n 2, 1) := by decide +kernel
theorem dX12_reckons_2 : decode cX12_reckons 2 = .ok (.iload_n 1, 1) := by decide +kernel
theorem dX12_reckons_3 : decode cX12_reckons 3 = .ok (.istore_n 3, 1) := by decide +kernel
theorem dX12_reckons_4 : decode cX12_reckons 4 = .ok (.aload_n 0, 1) := by decide +kernel
theorem dX12_reckons_5 : decode cX12_reckons 5 = .ok (.getfield 29, 3) := by decide +kernel
theorem dX12_reckons_8 : decode cX12_reckons 8 = .ok (.iload_n 3, 1) := by decide +kernel
theorem dX12_reckons_9 : decode cX12_reckons 9 = .ok (.iaload, 1) := by decide +kernel
theorem dX12_reckons_10 : decode cX12_reckons 10 = .ok (.ifCond .eq 133, 3) := by decide +kernel
theorem dX12_reckons_13 : decode cX12_reckons 13 = .ok (.aload_n 0, 1) := by decide +kernel
theorem dX12_reckons_14 : decode cX12_reckons 14 = .ok (.getfield 29, 3) := by decide +kernel
theorem dX12_reckons_17 : decode cX12_reckons 17 = .ok (.iload_n 3, 1) := by decide +kernel
theorem dX12_reckons_18 : decode cX12_reckons 18 = .ok (.iaload, 1) := by decide +kernel
theorem dX12_reckons_19 : decode cX12_reckons 19 = .ok (.istore 4, 2) := by decide +kernel
theorem dX12_reckons_21 : decode cX12_reckons 21 = .ok (.iinc 3 1, 3) := by decide +kernel
theorem dX12_reckons_24 : decode cX12_reckons 24 = .ok (.iload 4, 2) := by decide +kernel
theorem dX12_reckons_26 : decode cX12_reckons 26 = .ok (.iconst 1, 1) := by decide +kernel
theorem dX12_reckons_27 : decode cX12_reckons 27 = .ok (.if_icmp .eq 9, 3) := by decide +kernel
theorem dX12_reckons_30 : decode cX12_reckons 30 = .ok (.iload 4, 2) := by decide +kernel
theorem dX12_reckons_32 : decode cX12_reckons 32 = .ok (.iconst 2, 1) := by decide +kernel
theorem dX12_reckons_33 : decode cX12_reckons 33 = .ok (.if_icmp .ne 44, 3) := by decide +kernel
theorem dX12_reckons_36 : decode cX12_reckons 36 = .ok (.aload_n 0, 1) := by decide +kernel
theorem dX12_reckons_37 : decode cX12_reckons 37 = .ok (.getfield 72, 3) := by decide +kernel
theorem dX12_reckons_40 : decode cX12_reckons 40 = .ok (.iload_n 2, 1) := by decide +kernel
theorem dX12_reckons_41 : decode cX12_reckons 41 = .ok (.iload 4, 2) := by decide +kernel
theorem dX12_reckons_43 : decode cX12_reckons 43 = .ok (.iconst 1, 1) := by decide +kernel
theorem dX12_reckons_44 : decode cX12_reckons 44 = .ok (.if_icmp .ne 12, 3) := by decide +kernel
theorem dX12_reckons_47 : decode cX12_reckons 47 = .ok (.aload_n 0, 1) := by decide +kernel
theorem dX12_reckons_48 : decode cX12_reckons 48 = .ok (.getfield 29, 3) := by decide +kernel
theorem dX12_reckons_51 : decode cX12_reckons 51 = .ok (.iload_n 3, 1) := by decide +kernel
theorem dX12_reckons_52 : decode cX12_reckons 52 = .ok (.iaload, 1) := by decide +kernel
theorem dX12_reckons_53 : decode cX12_reckons 53 = .ok (.goto 14, 3) := by decide +kernel
theorem dX12_reckons_56 : decode cX12_reckons 56 = .ok (.aload_n 0, 1) := by decide +kernel
theorem dX12_reckons_57 : decode cX12_reckons 57 = .ok (.getfield 69, 3) := by decide +kernel
theorem dX12_reckons_60 : decode cX12_reckons 60 = .ok (.aload_n 0, 1) := by decide +kernel
theorem dX12_reckons_61 : decode cX12_reckons 61 = .ok (.getfield 29, 3) := by decide +kernel
theorem dX12_reckons_64 : decode cX12_reckons 64 = .ok (.iload_n 3, 1) := by decide +kernel
theorem dX12_reckons_65 : decode cX12_reckons 65 = .ok (.iaload, 1) := by decide +kernel
theorem dX12_reckons_66 : decode cX12_reckons 66 = .ok (.iaload, 1) := by decide +kernel
theorem dX12_reckons_67 : decode cX12_reckons 67 = .ok (.iastore, 1) := by decide +kernel
theorem dX12_reckons_68 : decode cX12_reckons 68 = .ok (.iinc 3 1, 3) := by decide +kernel
theorem dX12_reckons_71 : decode cX12_reckons 71 = .ok (.iinc 2 1, 3) := by decide +kernel
theorem dX12_reckons_74 : decode cX12_reckons 74 = .ok (.goto 66, 3) := by decide +kernel
theorem dX12_reckons_77 : decode cX12_reckons 77 = .ok (.iload 4, 2) := by decide +kernel
theorem dX12_reckons_79 : decode cX12_reckons 79 = .ok (.iconst 3, 1) := by decide +kernel
theorem dX12_reckons_80 : decode cX12_reckons 80 = .ok (.if_icmp .ne 30, 3) := by decide +kernel
theorem dX12_reckons_83 : decode cX12_reckons 83 = .ok (.aload_n 0, 1) := by decide +kernel
theorem dX12_reckons_84 : decode cX12_reckons 84 = .ok (.getfield 72, 3) := by decide +kernel
theorem dX12_reckons_87 : decode cX12_reckons 87 = .ok (.iload_n 2, 1) := by decide +kernel
theorem dX12_reckons_88 : decode cX12_reckons 88 = .ok (.iconst 1, 1) := by decide +kernel
theorem dX12_reckons_89 : decode cX12_reckons 89 = .ok (.isub, 1) := by decide +kernel
theorem dX12_reckons_90 : decode cX12_reckons 90 = .ok (.aload_n 0, 1) := by decide +kernel
theorem dX12_reckons_91 : decode cX12_reckons 91 = .ok (.getfield 72, 3) := by decide +kernel
theorem dX12_reckons_94 : decode cX12_reckons 94 = .ok (.iload_n 2, 1) := by decide +kernel
theorem dX12_reckons_95 : decode cX12_reckons 95 = .ok (.iconst 1, 1) := by decide +kernel
theorem dX12_reckons_96 : decode cX12_reckons 96 = .ok (.isub, 1) := by decide +kernel
theorem dX12_reckons_97 : decode cX12_reckons 97 = .ok (.iaload, 1) := by decide +kernel
theorem dX12_reckons_98 : decode cX12_reckons 98 = .ok (.ifCond .ne 7, 3) := by decide +kernel
theorem dX12_reckons_101 : decode cX12_reckons 101 = .ok (.iconst 1, 1) := by decide +kernel
theorem dX12_reckons_102 : decode cX12_reckons 102 = .ok (.goto 4, 3) := by decide +kernel
theorem dX12_reckons_105 : decode cX12_reckons 105 = .ok (.iconst 0, 1) := by decide +kernel
theorem dX12_reckons_106 : decode cX12_reckons 106 = .ok (.iastore, 1) := by decide +kernel
theorem dX12_reckons_107 : decode cX12_reckons 107 = .ok (.goto 33, 3) := by decide +kernel
theorem dX12_reckons_110 : decode cX12_reckons 110 = .ok (.iinc 2 (-1), 3) := by decide +kernel
theorem dX12_reckons_113 : decode cX12_reckons 113 = .ok (.aload_n 0, 1) := by decide +kernel
theorem dX12_reckons_114 : decode cX12_reckons 114 = .ok (.getfield 72, 3) := by decide +kernel
theorem dX12_reckons_117 : decode cX12_reckons 117 = .ok (.iload_n 2, 1) := by decide +kernel
theorem dX12_reckons_118 : decode cX12_reckons 118 = .ok (.iconst 1, 1) := by decide +kernel
theorem dX12_reckons_119 : decode cX12_reckons 119 = .ok (.isub, 1) := by decide +kernel
theorem dX12_reckons_120 : decode cX12_reckons 120 = .ok (.iload 4, 2) := by decide +kernel
theorem dX12_reckons_122 : decode cX12_reckons 122 = .ok (.aload_n 0, 1) := by decide +kernel
theorem dX12_reckons_123 : decode cX12_reckons 123 = .ok (.getfield 72, 3) := by decide +kernel
theorem dX12_reckons_126 : decode cX12_reckons 126 = .ok (.iload_n 2, 1) := by decide +kernel
theorem dX12_reckons_127 : decode cX12_reckons 127 = .ok (.iconst 1, 1) := by decide +kernel
theorem dX12_reckons_128 : decode cX12_reckons 128 = .ok (.isub, 1) := by decide +kernel
theorem dX12_reckons_129 : decode cX12_reckons 129 = .ok (.iaload, 1) := by decide +kernel
theorem dX12_reckons_130 : decode cX12_reckons 130 = .ok (.aload_n 0, 1) := by decide +kernel
theorem dX12_reckons_131 : decode cX12_reckons 131 = .ok (.getfield 72, 3) := by decide +kernel
theorem dX12_reckons_134 : decode cX12_reckons 134 = .ok (.iload_n 2, 1) := by decide +kernel
theorem dX12_reckons_135 : decode cX12_reckons 135 = .ok (.iaload, 1) := by decide +kernel
theorem dX12_reckons_136 : decode cX12_reckons 136 = .ok (.invokestatic 315, 3) := by decide +kernel
theorem dX12_reckons_139 : decode cX12_reckons 139 = .ok (.iastore, 1) := by decide +kernel
theorem dX12_reckons_140 : decode cX12_reckons 140 = .ok (.goto (-136), 3) := by decide +kernel
theorem dX12_reckons_143 : decode cX12_reckons 143 = .ok (.aload_n 0, 1) := by decide +kernel
theorem dX12_reckons_144 : decode cX12_reckons 144 = .ok (.getfield 72, 3) := by decide +kernel
theorem dX12_reckons_147 : decode cX12_reckons 147 = .ok (.iconst 0, 1) := by decide +kernel
theorem dX12_reckons_148 : decode cX12_reckons 148 = .ok (.iaload, 1) := by decide +kernel
theorem dX12_reckons_149 : decode cX12_reckons 149 = .ok (.ireturn, 1) := by decide +kernel
theorem dX12_weatherOf_0 : decode cX12_weatherOf 0 = .ok (.aload_n 0, 1) := by decide +kernel
theorem dX12_weatherOf_1 : decode cX12_weatherOf 1 = .ok (.getfield 75, 3) := by decide +kernel
theorem dX12_weatherOf_4 : decode cX12_weatherOf 4 = .ok (.iconst (-1), 1) := by decide +kernel
theorem dX12_weatherOf_5 : decode cX12_weatherOf 5 = .ok (.if_icmp .eq 8, 3) := by decide +kernel
theorem dX12_weatherOf_8 : decode cX12_weatherOf 8 = .ok (.aload_n 0, 1) := by decide +kernel
theorem dX12_weatherOf_9 : decode cX12_weatherOf 9 = .ok (.getfield 75, 3) := by decide +kernel
theorem dX12_weatherOf_12 : decode cX12_weatherOf 12 = .ok (.ireturn, 1) := by decide +kernel
theorem dX12_weatherOf_13 : decode cX12_weatherOf 13 = .ok (.aload_n 0, 1) := by decide +kernel
theorem dX12_weatherOf_14 : decode cX12_weatherOf 14 = .ok (.getfield 292, 3) := by decide +kernel
theorem dX12_weatherOf_17 : decode cX12_weatherOf 17 = .ok (.ifCond .ne 7, 3) := by decide +kernel
theorem dX12_weatherOf_20 : decode cX12_weatherOf 20 = .ok (.iconst 4, 1) := by decide +kernel
theorem dX12_weatherOf_21 : decode cX12_weatherOf 21 = .ok (.goto 14, 3) := by decide +kernel
theorem dX12_weatherOf_24 : decode cX12_weatherOf 24 = .ok (.aload_n 0, 1) := by decide +kernel
theorem dX12_weatherOf_25 : decode cX12_weatherOf 25 = .ok (.getfield 23, 3) := by decide +kernel
theorem dX12_weatherOf_28 : decode cX12_weatherOf 28 = .ok (.iload_n 1, 1) := by decide +kernel
theorem dX12_weatherOf_29 : decode cX12_weatherOf 29 = .ok (.aload_n 0, 1) := by decide +kernel
theorem dX12_weatherOf_30 : decode cX12_weatherOf 30 = .ok (.getfield 292, 3) := by decide +kernel
theorem dX12_weatherOf_33 : decode cX12_weatherOf 33 = .ok (.irem, 1) := by decide +kernel
theorem dX12_weatherOf_34 : decode cX12_weatherOf 34 = .ok (.iaload, 1) := by decide +kernel
theorem dX12_weatherOf_35 : decode cX12_weatherOf 35 = .ok (.ireturn, 1) := by decide +kernel
theorem dX12_hangs_0 : decode cX12_hangs 0 = .ok (.aload_n 0, 1) := by decide +kernel
theorem dX12_hangs_1 : decode cX12_hangs 1 = .ok (.getfield 63, 3) := by decide +kernel
theorem dX12_hangs_4 : decode cX12_hangs 4 = .ok (.iload_n 1, 1) := by decide +kernel
theorem dX12_hangs_5 : decode cX12_hangs 5 = .ok (.bipush 31, 2) := by decide +kernel
theorem dX12_hangs_7 : decode cX12_hangs 7 = .ok (.iadd, 1) := by decide +kernel
theorem dX12_hangs_8 : decode cX12_hangs 8 = .ok (.iload_n 2, 1) := by decide +kernel
theorem dX12_hangs_9 : decode cX12_hangs 9 = .ok (.iadd, 1) := by decide +kernel
theorem dX12_hangs_10 : decode cX12_hangs 10 = .ok (.iaload, 1) := by decide +kernel
theorem dX12_hangs_11 : decode cX12_hangs 11 = .ok (.ifCond .lt 7, 3) := by decide +kernel
theorem dX12_hangs_14 : decode cX12_hangs 14 = .ok (.iconst 1, 1) := by decide +kernel
theorem dX12_hangs_15 : decode cX12_hangs 15 = .ok (.goto 4, 3) := by decide +kernel
theorem dX12_hangs_18 : decode cX12_hangs 18 = .ok (.iconst 0, 1) := by decide +kernel
theorem dX12_hangs_19 : decode cX12_hangs 19 = .ok (.ireturn, 1) := by decide +kernel
theorem dX12_tells_0 : decode cX12_tells 0 = .ok (.aload_n 0, 1) := by decide +kernel
theorem dX12_tells_1 : decode cX12_tells 1 = .ok (.getfield 69, 3) := by decide +kernel
theorem dX12_tells_4 : decode cX12_tells 4 = .ok (.iconst 0, 1) := by decide +kernel
theorem dX12_tells_5 : decode cX12_tells 5 = .ok (.aload_n 0, 1) := by decide +kernel
theorem dX12_tells_6 : decode cX12_tells 6 = .ok (.getfield 63, 3) := by decide +kernel
theorem dX12_tells_9 : decode cX12_tells 9 = .ok (.iload_n 1, 1) := by decide +kernel
theorem dX12_tells_10 : decode cX12_tells 10 = .ok (.iconst 1, 1) := by decide +kernel
theorem dX12_tells_11 : decode cX12_tells 11 = .ok (.iadd, 1) := by decide +kernel
theorem dX12_tells_12 : decode cX12_tells 12 = .ok (.iload_n 2, 1) := by decide +kernel
theorem dX12_tells_13 : decode cX12_tells 13 = .ok (.iadd, 1) := by decide +kernel
theorem dX12_tells_14 : decode cX12_tells 14 = .ok (.iaload, 1) := by decide +kernel
theorem dX12_tells_15 : decode cX12_tells 15 = .ok (.iastore, 1) := by decide +kernel
theorem dX12_tells_16 : decode cX12_tells 16 = .ok (.aload_n 0, 1) := by decide +kernel
theorem dX12_tells_17 : decode cX12_tells 17 = .ok (.getfield 69, 3) := by decide +kernel
theorem dX12_tells_20 : decode cX12_tells 20 = .ok (.iconst 1, 1) := by decide +kernel
theorem dX12_tells_21 : decode cX12_tells 21 = .ok (.aload_n 0, 1) := by decide +kernel
theorem dX12_tells_22 : decode cX12_tells 22 = .ok (.getfield 63, 3) := by decide +kernel
theorem dX12_tells_25 : decode cX12_tells 25 = .ok (.iload_n 1, 1) := by decide +kernel
theorem dX12_tells_26 : decode cX12_tells 26 = .ok (.bipush 11, 2) := by decide +kernel
theorem dX12_tells_28 : decode cX12_tells 28 = .ok (.iadd, 1) := by decide +kernel
theorem dX12_tells_29 : decode cX12_tells 29 = .ok (.iload_n 2, 1) := by decide +kernel
theorem dX12_tells_30 : decode cX12_tells 30 = .ok (.iadd, 1) := by decide +kernel
theorem dX12_tells_31 : decode cX12_tells 31 = .ok (.iaload, 1) := by decide +kernel
theorem dX12_tells_32 : decode cX12_tells 32 = .ok (.iastore, 1) := by decide +kernel
theorem dX12_tells_33 : decode cX12_tells 33 = .ok (.aload_n 0, 1) := by decide +kernel
theorem dX12_tells_34 : decode cX12_tells 34 = .ok (.getfield 69, 3) := by decide +kernel
theorem dX12_tells_37 : decode cX12_tells 37 = .ok (.iconst 2, 1) := by decide +kernel
theorem dX12_tells_38 : decode cX12_tells 38 = .ok (.aload_n 0, 1) := by decide +kernel
theorem dX12_tells_39 : decode cX12_tells 39 = .ok (.getfield 19, 3) := by decide +kernel
theorem dX12_tells_42 : decode cX12_tells 42 = .ok (.iload_n 2, 1) := by decide +kernel
theorem dX12_tells_43 : decode cX12_tells 43 = .ok (.iaload, 1) := by decide +kernel
theorem dX12_tells_44 : decode cX12_tells 44 = .ok (.iastore, 1) := by decide +kernel
theorem dX12_tells_45 : decode cX12_tells 45 = .ok (.aload_n 0, 1) := by decide +kernel
theorem dX12_tells_46 : decode cX12_tells 46 = .ok (.getfield 69, 3) := by decide +kernel
theorem dX12_tells_49 : decode cX12_tells 49 = .ok (.iconst 3, 1) := by decide +kernel
theorem dX12_tells_50 : decode cX12_tells 50 = .ok (.aload_n 0, 1) := by decide +kernel
theorem dX12_tells_51 : decode cX12_tells 51 = .ok (.getfield 63, 3) := by decide +kernel
theorem dX12_tells_54 : decode cX12_tells 54 = .ok (.iload_n 1, 1) := by decide +kernel
theorem dX12_tells_55 : decode cX12_tells 55 = .ok (.bipush 21, 2) := by decide +kernel
theorem dX12_tells_57 : decode cX12_tells 57 = .ok (.iadd, 1) := by decide +kernel
theorem dX12_tells_58 : decode cX12_tells 58 = .ok (.iload_n 2, 1) := by decide +kernel
theorem dX12_tells_59 : decode cX12_tells 59 = .ok (.iadd, 1) := by decide +kernel
theorem dX12_tells_60 : decode cX12_tells 60 = .ok (.iaload, 1) := by decide +kernel
theorem dX12_tells_61 : decode cX12_tells 61 = .ok (.iastore, 1) := by decide +kernel
theorem dX12_tells_62 : decode cX12_tells 62 = .ok (.aload_n 0, 1) := by decide +kernel
theorem dX12_tells_63 : decode cX12_tells 63 = .ok (.getfield 69, 3) := by decide +kernel
theorem dX12_tells_66 : decode cX12_tells 66 = .ok (.iconst 4, 1) := by decide +kernel
theorem dX12_tells_67 : decode cX12_tells 67 = .ok (.aload_n 0, 1) := by decide +kernel
theorem dX12_tells_68 : decode cX12_tells 68 = .ok (.aload_n 0, 1) := by decide +kernel
theorem dX12_tells_69 : decode cX12_tells 69 = .ok (.getfield 63, 3) := by decide +kernel
theorem dX12_tells_72 : decode cX12_tells 72 = .ok (.iload_n 1, 1) := by decide +kernel
theorem dX12_tells_73 : decode cX12_tells 73 = .ok (.iconst 0, 1) := by decide +kernel
theorem dX12_tells_74 : decode cX12_tells 74 = .ok (.iadd, 1) := by decide +kernel
theorem dX12_tells_75 : decode cX12_tells 75 = .ok (.iaload, 1) := by decide +kernel
theorem dX12_tells_76 : decode cX12_tells 76 = .ok (.invokevirtual 319, 3) := by decide +kernel
theorem dX12_tells_79 : decode cX12_tells 79 = .ok (.iastore, 1) := by decide +kernel
theorem dX12_tells_80 : decode cX12_tells 80 = .ok (.aload_n 0, 1) := by decide +kernel
theorem dX12_tells_81 : decode cX12_tells 81 = .ok (.getfield 69, 3) := by decide +kernel
theorem dX12_tells_84 : decode cX12_tells 84 = .ok (.iconst 5, 1) := by decide +kernel
theorem dX12_tells_85 : decode cX12_tells 85 = .ok (.aload_n 0, 1) := by decide +kernel
theorem dX12_tells_86 : decode cX12_tells 86 = .ok (.getfield 63, 3) := by decide +kernel
theorem dX12_tells_89 : decode cX12_tells 89 = .ok (.iload_n 1, 1) := by decide +kernel
theorem dX12_tells_90 : decode cX12_tells 90 = .ok (.iconst 0, 1) := by decide +kernel
theorem dX12_tells_91 : decode cX12_tells 91 = .ok (.iadd, 1) := by decide +kernel
theorem dX12_tells_92 : decode cX12_tells 92 = .ok (.iaload, 1) := by decide +kernel
theorem dX12_tells_93 : decode cX12_tells 93 = .ok (.iastore, 1) := by decide +kernel
theorem dX12_tells_94 : decode cX12_tells 94 = .ok (.aload_n 0, 1) := by decide +kernel
theorem dX12_tells_95 : decode cX12_tells 95 = .ok (.getfield 69, 3) := by decide +kernel
theorem dX12_tells_98 : decode cX12_tells 98 = .ok (.bipush 6, 2) := by decide +kernel
theorem dX12_tells_100 : decode cX12_tells 100 = .ok (.aload_n 0, 1) := by decide +kernel
theorem dX12_tells_101 : decode cX12_tells 101 = .ok (.iload_n 1, 1) := by decide +kernel
theorem dX12_tells_102 : decode cX12_tells 102 = .ok (.iload_n 2, 1) := by decide +kernel
theorem dX12_tells_103 : decode cX12_tells 103 = .ok (.invokevirtual 322, 3) := by decide +kernel
theorem dX12_tells_106 : decode cX12_tells 106 = .ok (.ifCond .eq 7, 3) := by decide +kernel
theorem dX12_tells_109 : decode cX12_tells 109 = .ok (.iconst 1, 1) := by decide +kernel
theorem dX12_tells_110 : decode cX12_tells 110 = .ok (.goto 4, 3) := by decide +kernel
theorem dX12_tells_113 : decode cX12_tells 113 = .ok (.iconst 0, 1) := by decide +kernel
theorem dX12_tells_114 : decode cX12_tells 114 = .ok (.iastore, 1) := by decide +kernel
theorem dX12_tells_115 : decode cX12_tells 115 = .ok (.return_, 1) := by decide +kernel
theorem dX12_noteOf_0 : decode cX12_noteOf 0 = .ok (.aload_n 0, 1) := by decide +kernel
theorem dX12_noteOf_1 : decode cX12_noteOf 1 = .ok (.getfield 13, 3) := by decide +kernel
theorem dX12_noteOf_4 : decode cX12_noteOf 4 = .ok (.iconst (-1), 1) := by decide +kernel
theorem dX12_noteOf_5 : decode cX12_noteOf 5 = .ok (.if_icmp .ne 37, 3) := by decide +kernel
theorem dX12_noteOf_8 : decode cX12_noteOf 8 = .ok (.bipush 15, 2) := by decide +kernel
theorem dX12_noteOf_10 : decode cX12_noteOf 10 = .ok (.aload_n 0, 1) := by decide +kernel
theorem dX12_noteOf_11 : decode cX12_noteOf 11 = .ok (.getfield 63, 3) := by decide +kernel
theorem dX12_noteOf_14 : decode cX12_noteOf 14 = .ok (.iload_n 1, 1) := by decide +kernel
theorem dX12_noteOf_15 : decode cX12_noteOf 15 = .ok (.iconst 1, 1) := by decide +kernel
theorem dX12_noteOf_16 : decode cX12_noteOf 16 = .ok (.iadd, 1) := by decide +kernel
theorem dX12_noteOf_17 : decode cX12_noteOf 17 = .ok (.iload_n 2, 1) := by decide +kernel
theorem dX12_noteOf_18 : decode cX12_noteOf 18 = .ok (.iadd, 1) := by decide +kernel
theorem dX12_noteOf_19 : decode cX12_noteOf 19 = .ok (.iaload, 1) := by decide +kernel
theorem dX12_noteOf_20 : decode cX12_noteOf 20 = .ok (.aload_n 0, 1) := by decide +kernel
theorem dX12_noteOf_21 : decode cX12_noteOf 21 = .ok (.getfield 63, 3) := by decide +kernel
theorem dX12_noteOf_24 : decode cX12_noteOf 24 = .ok (.iload_n 1, 1) := by decide +kernel
theorem dX12_noteOf_25 : decode cX12_noteOf 25 = .ok (.bipush 11, 2) := by decide +kernel
theorem dX12_noteOf_27 : decode cX12_noteOf 27 = .ok (.iadd, 1) := by decide +kernel
theorem dX12_noteOf_28 : decode cX12_noteOf 28 = .ok (.iload_n 2, 1) := by decide +kernel
theorem dX12_noteOf_29 : decode cX12_noteOf 29 = .ok (.iadd, 1) := by decide +kernel
theorem dX12_noteOf_30 : decode cX12_noteOf 30 = .ok (.iaload, 1) := by decide +kernel
theorem dX12_noteOf_31 : decode cX12_noteOf 31 = .ok (.isub, 1) := by decide +kernel
theorem dX12_noteOf_32 : decode cX12_noteOf 32 = .ok (.iconst 2, 1) := by decide +kernel
theorem dX12_noteOf_33 : decode cX12_noteOf 33 = .ok (.idiv, 1) := by decide +kernel
theorem dX12_noteOf_34 : decode cX12_noteOf 34 = .ok (.isub, 1) := by decide +kernel
theorem dX12_noteOf_35 : decode cX12_noteOf 35 = .ok (.iconst 0, 1) := by decide +kernel
theorem dX12_noteOf_36 : decode cX12_noteOf 36 = .ok (.bipush 15, 2) := by decide +kernel
theorem dX12_noteOf_38 : decode cX12_noteOf 38 = .ok (.invokestatic 326, 3) := by decide +kernel
theorem dX12_noteOf_41 : decode cX12_noteOf 41 = .ok (.ireturn, 1) := by decide +kernel
theorem dX12_noteOf_42 : decode cX12_noteOf 42 = .ok (.aload_n 0, 1) := by decide +kernel
theorem dX12_noteOf_43 : decode cX12_noteOf 43 = .ok (.iload_n 1, 1) := by decide +kernel
theorem dX12_noteOf_44 : decode cX12_noteOf 44 = .ok (.iload_n 2, 1) := by decide +kernel
theorem dX12_noteOf_45 : decode cX12_noteOf 45 = .ok (.invokevirtual 329, 3) := by decide +kernel
theorem dX12_noteOf_48 : decode cX12_noteOf 48 = .ok (.aload_n 0, 1) := by decide +kernel
theorem dX12_noteOf_49 : decode cX12_noteOf 49 = .ok (.aload_n 0, 1) := by decide +kernel
theorem dX12_noteOf_50 : decode cX12_noteOf 50 = .ok (.getfield 13, 3) := by decide +kernel
theorem dX12_noteOf_53 : decode cX12_noteOf 53 = .ok (.invokevirtual 333, 3) := by decide +kernel
theorem dX12_noteOf_56 : decode cX12_noteOf 56 = .ok (.iconst 0, 1) := by decide +kernel
theorem dX12_noteOf_57 : decode cX12_noteOf 57 = .ok (.bipush 15, 2) := by decide +kernel
theorem dX12_noteOf_59 : decode cX12_noteOf 59 = .ok (.invokestatic 326, 3) := by decide +kernel
theorem dX12_noteOf_62 : decode cX12_noteOf 62 = .ok (.ireturn, 1) := by decide +kernel
theorem dX12_sounds_0 : decode cX12_sounds 0 = .ok (.aload_n 0, 1) := by decide +kernel
theorem dX12_sounds_1 : decode cX12_sounds 1 = .ok (.iload_n 1, 1) := by decide +kernel
theorem dX12_sounds_2 : decode cX12_sounds 2 = .ok (.iload_n 2, 1) := by decide +kernel
theorem dX12_sounds_3 : decode cX12_sounds 3 = .ok (.invokevirtual 322, 3) := by decide +kernel
theorem dX12_sounds_6 : decode cX12_sounds 6 = .ok (.ifCond .eq 25, 3) := by decide +kernel
theorem dX12_sounds_9 : decode cX12_sounds 9 = .ok (.aload_n 0, 1) := by decide +kernel
theorem dX12_sounds_10 : decode cX12_sounds 10 = .ok (.getfield 63, 3) := by decide +kernel
theorem dX12_sounds_13 : decode cX12_sounds 13 = .ok (.iload_n 1, 1) := by decide +kernel
theorem dX12_sounds_14 : decode cX12_sounds 14 = .ok (.bipush 21, 2) := by decide +kernel
theorem dX12_sounds_16 : decode cX12_sounds 16 = .ok (.iadd, 1) := by decide +kernel
theorem dX12_sounds_17 : decode cX12_sounds 17 = .ok (.iload_n 2, 1) := by decide +kernel
theorem dX12_sounds_18 : decode cX12_sounds 18 = .ok (.iadd, 1) := by decide +kernel
theorem dX12_sounds_19 : decode cX12_sounds 19 = .ok (.iaload, 1) := by decide +kernel
theorem dX12_sounds_20 : decode cX12_sounds 20 = .ok (.aload_n 0, 1) := by decide +kernel
theorem dX12_sounds_21 : decode cX12_sounds 21 = .ok (.getfield 7, 3) := by decide +kernel
theorem dX12_sounds_24 : decode cX12_sounds 24 = .ok (.if_icmp .ge 7, 3) := by decide +kernel
theorem dX12_sounds_27 : decode cX12_sounds 27 = .ok (.iconst 1, 1) := by decide +kernel
theorem dX12_sounds_28 : decode cX12_sounds 28 = .ok (.goto 4, 3) := by decide +kernel
theorem dX12_sounds_31 : decode cX12_sounds 31 = .ok (.iconst 0, 1) := by decide +kernel
theorem dX12_sounds_32 : decode cX12_sounds 32 = .ok (.ireturn, 1) := by decide +kernel
theorem dX12_growth_0 : decode cX12_growth 0 = .ok (.aload_n 0, 1) := by decide +kernel
theorem dX12_growth_1 : decode cX12_growth 1 = .ok (.getfield 16, 3) := by decide +kernel
theorem dX12_growth_4 : decode cX12_growth 4 = .ok (.iconst (-1), 1) := by decide +kernel
theorem dX12_growth_5 : decode cX12_growth 5 = .ok (.if_icmp .ne 25, 3) := by decide +kernel
theorem dX12_growth_8 : decode cX12_growth 8 = .ok (.aload_n 0, 1) := by decide +kernel
theorem dX12_growth_9 : decode cX12_growth 9 = .ok (.aload_n 0, 1) := by decide +kernel
theorem dX12_growth_10 : decode cX12_growth 10 = .ok (.getfield 63, 3) := by decide +kernel
theorem dX12_growth_13 : decode cX12_growth 13 = .ok (.iload_n 1, 1) := by decide +kernel
theorem dX12_growth_14 : decode cX12_growth 14 = .ok (.iconst 0, 1) := by decide +kernel
theorem dX12_growth_15 : decode cX12_growth 15 = .ok (.iadd, 1) := by decide +kernel
theorem dX12_growth_16 : decode cX12_growth 16 = .ok (.iaload, 1) := by decide +kernel
theorem dX12_growth_17 : decode cX12_growth 17 = .ok (.invokevirtual 319, 3) := by decide +kernel
theorem dX12_growth_20 : decode cX12_growth 20 = .ok (.iconst 5, 1) := by decide +kernel
theorem dX12_growth_21 : decode cX12_growth 21 = .ok (.if_icmp .ge 7, 3) := by decide +kernel
theorem dX12_growth_24 : decode cX12_growth 24 = .ok (.iconst 1, 1) := by decide +kernel
theorem dX12_growth_25 : decode cX12_growth 25 = .ok (.goto 4, 3) := by decide +kernel
theorem dX12_growth_28 : decode cX12_growth 28 = .ok (.iconst 0, 1) := by decide +kernel
theorem dX12_growth_29 : decode cX12_growth 29 = .ok (.ireturn, 1) := by decide +kernel
theorem dX12_growth_30 : decode cX12_growth 30 = .ok (.aload_n 0, 1) := by decide +kernel
theorem dX12_growth_31 : decode cX12_growth 31 = .ok (.iload_n 1, 1) := by decide +kernel
theorem dX12_growth_32 : decode cX12_growth 32 = .ok (.iload_n 2, 1) := by decide +kernel
theorem dX12_growth_33 : decode cX12_growth 33 = .ok (.invokevirtual 329, 3) := by decide +kernel
theorem dX12_growth_36 : decode cX12_growth 36 = .ok (.aload_n 0, 1) := by decide +kernel
theorem dX12_growth_37 : decode cX12_growth 37 = .ok (.aload_n 0, 1) := by decide +kernel
theorem dX12_growth_38 : decode cX12_growth 38 = .ok (.getfield 16, 3) := by decide +kernel
theorem dX12_growth_41 : decode cX12_growth 41 = .ok (.invokevirtual 333, 3) := by decide +kernel
theorem dX12_growth_44 : decode cX12_growth 44 = .ok (.iconst 0, 1) := by decide +kernel
theorem dX12_growth_45 : decode cX12_growth 45 = .ok (.bipush 9, 2) := by decide +kernel
theorem dX12_growth_47 : decode cX12_growth 47 = .ok (.invokestatic 326, 3) := by decide +kernel
theorem dX12_growth_50 : decode cX12_growth 50 = .ok (.ireturn, 1) := by decide +kernel
theorem dX12_dayGoes_0 : decode cX12_dayGoes 0 = .ok (.aload_n 0, 1) := by decide +kernel
theorem dX12_dayGoes_1 : decode cX12_dayGoes 1 = .ok (.aload_n 0, 1) := by decide +kernel
theorem dX12_dayGoes_2 : decode cX12_dayGoes 2 = .ok (.getfield 63, 3) := by decide +kernel
theorem dX12_dayGoes_5 : decode cX12_dayGoes 5 = .ok (.iload_n 1, 1) := by decide +kernel
theorem dX12_dayGoes_6 : decode cX12_dayGoes 6 = .ok (.iconst 0, 1) := by decide +kernel
theorem dX12_dayGoes_7 : decode cX12_dayGoes 7 = .ok (.iadd, 1) := by decide +kernel
theorem dX12_dayGoes_8 : decode cX12_dayGoes 8 = .ok (.iaload, 1) := by decide +kernel
theorem dX12_dayGoes_9 : decode cX12_dayGoes 9 = .ok (.invokevirtual 319, 3) := by decide +kernel
theorem dX12_dayGoes_12 : decode cX12_dayGoes 12 = .ok (.istore_n 2, 1) := by decide +kernel
theorem dX12_dayGoes_13 : decode cX12_dayGoes 13 = .ok (.iconst 0, 1) := by decide +kernel
theorem dX12_dayGoes_14 : decode cX12_dayGoes 14 = .ok (.istore_n 3, 1) := by decide +kernel
theorem dX12_dayGoes_15 : decode cX12_dayGoes 15 = .ok (.iload_n 3, 1) := by decide +kernel
theorem dX12_dayGoes_16 : decode cX12_dayGoes 16 = .ok (.aload_n 0, 1) := by decide +kernel
theorem dX12_dayGoes_17 : decode cX12_dayGoes 17 = .ok (.getfield 289, 3) := by decide +kernel
theorem dX12_dayGoes_20 : decode cX12_dayGoes 20 = .ok (.if_icmp .ge 100, 3) := by decide +kernel
theorem dX12_dayGoes_23 : decode cX12_dayGoes 23 = .ok (.aload_n 0, 1) := by decide +kernel
theorem dX12_dayGoes_24 : decode cX12_dayGoes 24 = .ok (.getfield 63, 3) := by decide +kernel
theorem dX12_dayGoes_27 : decode cX12_dayGoes 27 = .ok (.iload_n 1, 1) := by decide +kernel
theorem dX12_dayGoes_28 : decode cX12_dayGoes 28 = .ok (.bipush 31, 2) := by decide +kernel
theorem dX12_dayGoes_30 : decode cX12_dayGoes 30 = .ok (.iadd, 1) := by decide +kernel
theorem dX12_dayGoes_31 : decode cX12_dayGoes 31 = .ok (.iload_n 3, 1) := by decide +kernel
theorem dX12_dayGoes_32 : decode cX12_dayGoes 32 = .ok (.iadd, 1) := by decide +kernel
theorem dX12_dayGoes_33 : decode cX12_dayGoes 33 = .ok (.iaload, 1) := by decide +kernel
theorem dX12_dayGoes_34 : decode cX12_dayGoes 34 = .ok (.iconst (-1), 1) := by decide +kernel
theorem dX12_dayGoes_35 : decode cX12_dayGoes 35 = .ok (.if_icmp .ne 36, 3) := by decide +kernel
theorem dX12_dayGoes_38 : decode cX12_dayGoes 38 = .ok (.aload_n 0, 1) := by decide +kernel
theorem dX12_dayGoes_39 : decode cX12_dayGoes 39 = .ok (.getfield 63, 3) := by decide +kernel
theorem dX12_dayGoes_42 : decode cX12_dayGoes 42 = .ok (.iload_n 1, 1) := by decide +kernel
theorem dX12_dayGoes_43 : decode cX12_dayGoes 43 = .ok (.iconst 1, 1) := by decide +kernel
theorem dX12_dayGoes_44 : decode cX12_dayGoes 44 = .ok (.iadd, 1) := by decide +kernel
theorem dX12_dayGoes_45 : decode cX12_dayGoes 45 = .ok (.iload_n 3, 1) := by decide +kernel
theorem dX12_dayGoes_46 : decode cX12_dayGoes 46 = .ok (.iadd, 1) := by decide +kernel
theorem dX12_dayGoes_47 : decode cX12_dayGoes 47 = .ok (.aload_n 0, 1) := by decide +kernel
theorem dX12_dayGoes_48 : decode cX12_dayGoes 48 = .ok (.getfield 63, 3) := by decide +kernel
theorem dX12_dayGoes_51 : decode cX12_dayGoes 51 = .ok (.iload_n 1, 1) := by decide +kernel
theorem dX12_dayGoes_52 : decode cX12_dayGoes 52 = .ok (.iconst 1, 1) := by decide +kernel
theorem dX12_dayGoes_53 : decode cX12_dayGoes 53 = .ok (.iadd, 1) := by decide +kernel
theorem dX12_dayGoes_54 : decode cX12_dayGoes 54 = .ok (.iload_n 3, 1) := by decide +kernel
theorem dX12_dayGoes_55 : decode cX12_dayGoes 55 = .ok (.iadd, 1) := by decide +kernel
theorem dX12_dayGoes_56 : decode cX12_dayGoes 56 = .ok (.iaload, 1) := by decide +kernel
theorem dX12_dayGoes_57 : decode cX12_dayGoes 57 = .ok (.aload_n 0, 1) := by decide +kernel
theorem dX12_dayGoes_58 : decode cX12_dayGoes 58 = .ok (.iload_n 1, 1) := by decide +kernel
theorem dX12_dayGoes_59 : decode cX12_dayGoes 59 = .ok (.iload_n 3, 1) := by decide +kernel
theorem dX12_dayGoes_60 : decode cX12_dayGoes 60 = .ok (.invokevirtual 336, 3) := by decide +kernel
theorem dX12_dayGoes_63 : decode cX12_dayGoes 63 = .ok (.iadd, 1) := by decide +kernel
theorem dX12_dayGoes_64 : decode cX12_dayGoes 64 = .ok (.iconst 0, 1) := by decide +kernel
theorem dX12_dayGoes_65 : decode cX12_dayGoes 65 = .ok (.bipush 60, 2) := by decide +kernel
theorem dX12_dayGoes_67 : decode cX12_dayGoes 67 = .ok (.invokestatic 326, 3) := by decide +kernel
theorem dX12_dayGoes_70 : decode cX12_dayGoes 70 = .ok (.iastore, 1) := by decide +kernel
theorem dX12_dayGoes_71 : decode cX12_dayGoes 71 = .ok (.aload_n 0, 1) := by decide +kernel
theorem dX12_dayGoes_72 : decode cX12_dayGoes 72 = .ok (.iload_n 1, 1) := by decide +kernel
theorem dX12_dayGoes_73 : decode cX12_dayGoes 73 = .ok (.iload_n 3, 1) := by decide +kernel
theorem dX12_dayGoes_74 : decode cX12_dayGoes 74 = .ok (.invokevirtual 322, 3) := by decide +kernel
theorem dX12_dayGoes_77 : decode cX12_dayGoes 77 = .ok (.ifCond .eq 37, 3) := by decide +kernel
theorem dX12_dayGoes_80 : decode cX12_dayGoes 80 = .ok (.aload_n 0, 1) := by decide +kernel
theorem dX12_dayGoes_81 : decode cX12_dayGoes 81 = .ok (.getfield 63, 3) := by decide +kernel
theorem dX12_dayGoes_84 : decode cX12_dayGoes 84 = .ok (.iload_n 1, 1) := by decide +kernel
theorem dX12_dayGoes_85 : decode cX12_dayGoes 85 = .ok (.bipush 21, 2) := by decide +kernel
theorem dX12_dayGoes_87 : decode cX12_dayGoes 87 = .ok (.iadd, 1) := by decide +kernel
theorem dX12_dayGoes_88 : decode cX12_dayGoes 88 = .ok (.iload_n 3, 1) := by decide +kernel
theorem dX12_dayGoes_89 : decode cX12_dayGoes 89 = .ok (.iadd, 1) := by decide +kernel
theorem dX12_dayGoes_90 : decode cX12_dayGoes 90 = .ok (.aload_n 0, 1) := by decide +kernel
theorem dX12_dayGoes_91 : decode cX12_dayGoes 91 = .ok (.getfield 63, 3) := by decide +kernel
theorem dX12_dayGoes_94 : decode cX12_dayGoes 94 = .ok (.iload_n 1, 1) := by decide +kernel
theorem dX12_dayGoes_95 : decode cX12_dayGoes 95 = .ok (.bipush 21, 2) := by decide +kernel
theorem dX12_dayGoes_97 : decode cX12_dayGoes 97 = .ok (.iadd, 1) := by decide +kernel
theorem dX12_dayGoes_98 : decode cX12_dayGoes 98 = .ok (.iload_n 3, 1) := by decide +kernel
theorem dX12_dayGoes_99 : decode cX12_dayGoes 99 = .ok (.iadd, 1) := by decide +kernel
theorem dX12_dayGoes_100 : decode cX12_dayGoes 100 = .ok (.iaload, 1) := by decide +kernel
theorem dX12_dayGoes_101 : decode cX12_dayGoes 101 = .ok (.iconst 1, 1) := by decide +kernel
theorem dX12_dayGoes_102 : decode cX12_dayGoes 102 = .ok (.iadd, 1) := by decide +kernel
theorem dX12_dayGoes_103 : decode cX12_dayGoes 103 = .ok (.iload_n 2, 1) := by decide +kernel
theorem dX12_dayGoes_104 : decode cX12_dayGoes 104 = .ok (.iconst 2, 1) := by decide +kernel
theorem dX12_dayGoes_105 : decode cX12_dayGoes 105 = .ok (.idiv, 1) := by decide +kernel
theorem dX12_dayGoes_106 : decode cX12_dayGoes 106 = .ok (.iadd, 1) := by decide +kernel
theorem dX12_dayGoes_107 : decode cX12_dayGoes 107 = .ok (.iconst 0, 1) := by decide +kernel
theorem dX12_dayGoes_108 : decode cX12_dayGoes 108 = .ok (.bipush 99, 2) := by decide +kernel
theorem dX12_dayGoes_110 : decode cX12_dayGoes 110 = .ok (.invokestatic 326, 3) := by decide +kernel
theorem dX12_dayGoes_113 : decode cX12_dayGoes 113 = .ok (.iastore, 1) := by decide +kernel
theorem dX12_dayGoes_114 : decode cX12_dayGoes 114 = .ok (.iinc 3 1, 3) := by decide +kernel
theorem dX12_dayGoes_117 : decode cX12_dayGoes 117 = .ok (.goto (-102), 3) := by decide +kernel
theorem dX12_dayGoes_120 : decode cX12_dayGoes 120 = .ok (.aload_n 0, 1) := by decide +kernel
theorem dX12_dayGoes_121 : decode cX12_dayGoes 121 = .ok (.getfield 63, 3) := by decide +kernel
theorem dX12_dayGoes_124 : decode cX12_dayGoes 124 = .ok (.iload_n 1, 1) := by decide +kernel
theorem dX12_dayGoes_125 : decode cX12_dayGoes 125 = .ok (.iconst 0, 1) := by decide +kernel
theorem dX12_dayGoes_126 : decode cX12_dayGoes 126 = .ok (.iadd, 1) := by decide +kernel
theorem dX12_dayGoes_127 : decode cX12_dayGoes 127 = .ok (.dup2, 1) := by decide +kernel
theorem dX12_dayGoes_128 : decode cX12_dayGoes 128 = .ok (.iaload, 1) := by decide +kernel
theorem dX12_dayGoes_129 : decode cX12_dayGoes 129 = .ok (.iconst 1, 1) := by decide +kernel
theorem dX12_dayGoes_130 : decode cX12_dayGoes 130 = .ok (.iadd, 1) := by decide +kernel
theorem dX12_dayGoes_131 : decode cX12_dayGoes 131 = .ok (.iastore, 1) := by decide +kernel
theorem dX12_dayGoes_132 : decode cX12_dayGoes 132 = .ok (.return_, 1) := by decide +kernel
theorem dX12_daysGo_0 : decode cX12_daysGo 0 = .ok (.aload_n 0, 1) := by decide +kernel
theorem dX12_daysGo_1 : decode cX12_daysGo 1 = .ok (.invokevirtual 339, 3) := by decide +kernel
theorem dX12_daysGo_4 : decode cX12_daysGo 4 = .ok (.iconst 0, 1) := by decide +kernel
theorem dX12_daysGo_5 : decode cX12_daysGo 5 = .ok (.istore_n 2, 1) := by decide +kernel
theorem dX12_daysGo_6 : decode cX12_daysGo 6 = .ok (.iload_n 2, 1) := by decide +kernel
theorem dX12_daysGo_7 : decode cX12_daysGo 7 = .ok (.iload_n 1, 1) := by decide +kernel
theorem dX12_daysGo_8 : decode cX12_daysGo 8 = .ok (.if_icmp .ge 15, 3) := by decide +kernel
theorem dX12_daysGo_11 : decode cX12_daysGo 11 = .ok (.aload_n 0, 1) := by decide +kernel
theorem dX12_daysGo_12 : decode cX12_daysGo 12 = .ok (.bipush 53, 2) := by decide +kernel
theorem dX12_daysGo_14 : decode cX12_daysGo 14 = .ok (.invokevirtual 342, 3) := by decide +kernel
theorem dX12_daysGo_17 : decode cX12_daysGo 17 = .ok (.iinc 2 1, 3) := by decide +kernel
theorem dX12_daysGo_20 : decode cX12_daysGo 20 = .ok (.goto (-14), 3) := by decide +kernel
theorem dX12_daysGo_23 : decode cX12_daysGo 23 = .ok (.return_, 1) := by decide +kernel
theorem dX12_notesIn_0 : decode cX12_notesIn 0 = .ok (.iconst 0, 1) := by decide +kernel
theorem dX12_notesIn_1 : decode cX12_notesIn 1 = .ok (.istore_n 2, 1) := by decide +kernel
theorem dX12_notesIn_2 : decode cX12_notesIn 2 = .ok (.iconst 0, 1) := by decide +kernel
theorem dX12_notesIn_3 : decode cX12_notesIn 3 = .ok (.istore_n 3, 1) := by decide +kernel
theorem dX12_notesIn_4 : decode cX12_notesIn 4 = .ok (.iload_n 3, 1) := by decide +kernel
theorem dX12_notesIn_5 : decode cX12_notesIn 5 = .ok (.aload_n 0, 1) := by decide +kernel
theorem dX12_notesIn_6 : decode cX12_notesIn 6 = .ok (.getfield 289, 3) := by decide +kernel
theorem dX12_notesIn_9 : decode cX12_notesIn 9 = .ok (.if_icmp .ge 33, 3) := by decide +kernel
theorem dX12_notesIn_12 : decode cX12_notesIn 12 = .ok (.iload_n 2, 1) := by decide +kernel
theorem dX12_notesIn_13 : decode cX12_notesIn 13 = .ok (.aload_n 0, 1) := by decide +kernel
theorem dX12_notesIn_14 : decode cX12_notesIn 14 = .ok (.iload_n 1, 1) := by decide +kernel
theorem dX12_notesIn_15 : decode cX12_notesIn 15 = .ok (.iload_n 3, 1) := by decide +kernel
theorem dX12_notesIn_16 : decode cX12_notesIn 16 = .ok (.invokevirtual 345, 3) := by decide +kernel
theorem dX12_notesIn_19 : decode cX12_notesIn 19 = .ok (.ifCond .eq 14, 3) := by decide +kernel
theorem dX12_notesIn_22 : decode cX12_notesIn 22 = .ok (.iconst 1, 1) := by decide +kernel
theorem dX12_notesIn_23 : decode cX12_notesIn 23 = .ok (.aload_n 0, 1) := by decide +kernel
theorem dX12_notesIn_24 : decode cX12_notesIn 24 = .ok (.iload_n 1, 1) := by decide +kernel
theorem dX12_notesIn_25 : decode cX12_notesIn 25 = .ok (.iload_n 3, 1) := by decide +kernel
theorem dX12_notesIn_26 : decode cX12_notesIn 26 = .ok (.invokevirtual 348, 3) := by decide +kernel
theorem dX12_notesIn_29 : decode cX12_notesIn 29 = .ok (.ishl, 1) := by decide +kernel
theorem dX12_notesIn_30 : decode cX12_notesIn 30 = .ok (.goto 4, 3) := by decide +kernel
theorem dX12_notesIn_33 : decode cX12_notesIn 33 = .ok (.iconst 0, 1) := by decide +kernel
theorem dX12_notesIn_34 : decode cX12_notesIn 34 = .ok (.ior, 1) := by decide +kernel
theorem dX12_notesIn_35 : decode cX12_notesIn 35 = .ok (.istore_n 2, 1) := by decide +kernel
theorem dX12_notesIn_36 : decode cX12_notesIn 36 = .ok (.iinc 3 1, 3) := by decide +kernel
theorem dX12_notesIn_39 : decode cX12_notesIn 39 = .ok (.goto (-35), 3) := by decide +kernel
theorem dX12_notesIn_42 : decode cX12_notesIn 42 = .ok (.iload_n 2, 1) := by decide +kernel
theorem dX12_notesIn_43 : decode cX12_notesIn 43 = .ok (.ireturn, 1) := by decide +kernel
theorem dX12_soundingIn_0 : decode cX12_soundingIn 0 = .ok (.iconst 0, 1) := by decide +kernel
theorem dX12_soundingIn_1 : decode cX12_soundingIn 1 = .ok (.istore_n 2, 1) := by decide +kernel
theorem dX12_soundingIn_2 : decode cX12_soundingIn 2 = .ok (.iconst 0, 1) := by decide +kernel
theorem dX12_soundingIn_3 : decode cX12_soundingIn 3 = .ok (.istore_n 3, 1) := by decide +kernel
theorem dX12_soundingIn_4 : decode cX12_soundingIn 4 = .ok (.iload_n 3, 1) := by decide +kernel
theorem dX12_soundingIn_5 : decode cX12_soundingIn 5 = .ok (.aload_n 0, 1) := by decide +kernel
theorem dX12_soundingIn_6 : decode cX12_soundingIn 6 = .ok (.getfield 289, 3) := by decide +kernel
theorem dX12_soundingIn_9 : decode cX12_soundingIn 9 = .ok (.if_icmp .ge 28, 3) := by decide +kernel
theorem dX12_soundingIn_12 : decode cX12_soundingIn 12 = .ok (.iload_n 2, 1) := by decide +kernel
theorem dX12_soundingIn_13 : decode cX12_soundingIn 13 = .ok (.aload_n 0, 1) := by decide +kernel
theorem dX12_soundingIn_14 : decode cX12_soundingIn 14 = .ok (.iload_n 1, 1) := by decide +kernel
theorem dX12_soundingIn_15 : decode cX12_soundingIn 15 = .ok (.iload_n 3, 1) := by decide +kernel
theorem dX12_soundingIn_16 : decode cX12_soundingIn 16 = .ok (.invokevirtual 345, 3) := by decide +kernel
theorem dX12_soundingIn_19 : decode cX12_soundingIn 19 = .ok (.ifCond .eq 9, 3) := by decide +kernel
theorem dX12_soundingIn_22 : decode cX12_soundingIn 22 = .ok (.iconst 1, 1) := by decide +kernel
theorem dX12_soundingIn_23 : decode cX12_soundingIn 23 = .ok (.iload_n 3, 1) := by decide +kernel
theorem dX12_soundingIn_24 : decode cX12_soundingIn 24 = .ok (.ishl, 1) := by decide +kernel
theorem dX12_soundingIn_25 : decode cX12_soundingIn 25 = .ok (.goto 4, 3) := by decide +kernel
theorem dX12_soundingIn_28 : decode cX12_soundingIn 28 = .ok (.iconst 0, 1) := by decide +kernel
theorem dX12_soundingIn_29 : decode cX12_soundingIn 29 = .ok (.ior, 1) := by decide +kernel
theorem dX12_soundingIn_30 : decode cX12_soundingIn 30 = .ok (.istore_n 2, 1) := by decide +kernel
theorem dX12_soundingIn_31 : decode cX12_soundingIn 31 = .ok (.iinc 3 1, 3) := by decide +kernel
theorem dX12_soundingIn_34 : decode cX12_soundingIn 34 = .ok (.goto (-30), 3) := by decide +kernel
theorem dX12_soundingIn_37 : decode cX12_soundingIn 37 = .ok (.iload_n 2, 1) := by decide +kernel
theorem dX12_soundingIn_38 : decode cX12_soundingIn 38 = .ok (.ireturn, 1) := by decide +kernel
theorem dX12_whereIn_0 : decode cX12_whereIn 0 = .ok (.iconst 0, 1) := by decide +kernel
theorem dX12_whereIn_1 : decode cX12_whereIn 1 = .ok (.istore_n 3, 1) := by decide +kernel
theorem dX12_whereIn_2 : decode cX12_whereIn 2 = .ok (.iconst 0, 1) := by decide +kernel
theorem dX12_whereIn_3 : decode cX12_whereIn 3 = .ok (.istore 4, 2) := by decide +kernel
theorem dX12_whereIn_5 : decode cX12_whereIn 5 = .ok (.iload 4, 2) := by decide +kernel
theorem dX12_whereIn_7 : decode cX12_whereIn 7 = .ok (.aload_n 0, 1) := by decide +kernel
theorem dX12_whereIn_8 : decode cX12_whereIn 8 = .ok (.getfield 289, 3) := by decide +kernel
theorem dX12_whereIn_11 : decode cX12_whereIn 11 = .ok (.if_icmp .ge 36, 3) := by decide +kernel
theorem dX12_whereIn_14 : decode cX12_whereIn 14 = .ok (.iload_n 3, 1) := by decide +kernel
theorem dX12_whereIn_15 : decode cX12_whereIn 15 = .ok (.aload_n 0, 1) := by decide +kernel
theorem dX12_whereIn_16 : decode cX12_whereIn 16 = .ok (.getfield 63, 3) := by decide +kernel
theorem dX12_whereIn_19 : decode cX12_whereIn 19 = .ok (.iload_n 1, 1) := by decide +kernel
theorem dX12_whereIn_20 : decode cX12_whereIn 20 = .ok (.bipush 31, 2) := by decide +kernel
theorem dX12_whereIn_22 : decode cX12_whereIn 22 = .ok (.iadd, 1) := by decide +kernel
theorem dX12_whereIn_23 : decode cX12_whereIn 23 = .ok (.iload 4, 2) := by decide +kernel
theorem dX12_whereIn_25 : decode cX12_whereIn 25 = .ok (.iadd, 1) := by decide +kernel
theorem dX12_whereIn_26 : decode cX12_whereIn 26 = .ok (.iaload, 1) := by decide +kernel
theorem dX12_whereIn_27 : decode cX12_whereIn 27 = .ok (.iload_n 2, 1) := by decide +kernel
theorem dX12_whereIn_28 : decode cX12_whereIn 28 = .ok (.if_icmp .ne 10, 3) := by decide +kernel
theorem dX12_whereIn_31 : decode cX12_whereIn 31 = .ok (.iconst 1, 1) := by decide +kernel
theorem dX12_whereIn_32 : decode cX12_whereIn 32 = .ok (.iload 4, 2) := by decide +kernel
theorem dX12_whereIn_34 : decode cX12_whereIn 34 = .ok (.ishl, 1) := by decide +kernel
theorem dX12_whereIn_35 : decode cX12_whereIn 35 = .ok (.goto 4, 3) := by decide +kernel
theorem dX12_whereIn_38 : decode cX12_whereIn 38 = .ok (.iconst 0, 1) := by decide +kernel
theorem dX12_whereIn_39 : decode cX12_whereIn 39 = .ok (.ior, 1) := by decide +kernel
theorem dX12_whereIn_40 : decode cX12_whereIn 40 = .ok (.istore_n 3, 1) := by decide +kernel
theorem dX12_whereIn_41 : decode cX12_whereIn 41 = .ok (.iinc 4 1, 3) := by decide +kernel
theorem dX12_whereIn_44 : decode cX12_whereIn 44 = .ok (.goto (-39), 3) := by decide +kernel
theorem dX12_whereIn_47 : decode cX12_whereIn 47 = .ok (.iload_n 3, 1) := by decide +kernel
theorem dX12_whereIn_48 : decode cX12_whereIn 48 = .ok (.ireturn, 1) := by decide +kernel
theorem dX12_hasTune_0 : decode cX12_hasTune 0 = .ok (.iconst 0, 1) := by decide +kernel
theorem dX12_hasTune_1 : decode cX12_hasTune 1 = .ok (.istore_n 2, 1) := by decide +kernel
theorem dX12_hasTune_2 : decode cX12_hasTune 2 = .ok (.iload_n 2, 1) := by decide +kernel
theorem dX12_hasTune_3 : decode cX12_hasTune 3 = .ok (.aload_n 0, 1) := by decide +kernel
theorem dX12_hasTune_4 : decode cX12_hasTune 4 = .ok (.getfield 295, 3) := by decide +kernel
theorem dX12_hasTune_7 : decode cX12_hasTune 7 = .ok (.if_icmp .ge 24, 3) := by decide +kernel
theorem dX12_hasTune_10 : decode cX12_hasTune 10 = .ok (.iload_n 1, 1) := by decide +kernel
theorem dX12_hasTune_11 : decode cX12_hasTune 11 = .ok (.aload_n 0, 1) := by decide +kernel
theorem dX12_hasTune_12 : decode cX12_hasTune 12 = .ok (.getfield 26, 3) := by decide +kernel
theorem dX12_hasTune_15 : decode cX12_hasTune 15 = .ok (.iload_n 2, 1) := by decide +kernel
theorem dX12_hasTune_16 : decode cX12_hasTune 16 = .ok (.iaload, 1) := by decide +kernel
theorem dX12_hasTune_17 : decode cX12_hasTune 17 = .ok (.ishr, 1) := by decide +kernel
theorem dX12_hasTune_18 : decode cX12_hasTune 18 = .ok (.iconst 1, 1) := by decide +kernel
theorem dX12_hasTune_19 : decode cX12_hasTune 19 = .ok (.iand, 1) := by decide +kernel
theorem dX12_hasTune_20 : decode cX12_hasTune 20 = .ok (.ifCond .ne 5, 3) := by decide +kernel
theorem dX12_hasTune_23 : decode cX12_hasTune 23 = .ok (.iconst 0, 1) := by decide +kernel
theorem dX12_hasTune_24 : decode cX12_hasTune 24 = .ok (.ireturn, 1) := by decide +kernel
theorem dX12_hasTune_25 : decode cX12_hasTune 25 = .ok (.iinc 2 1, 3) := by decide +kernel
theorem dX12_hasTune_28 : decode cX12_hasTune 28 = .ok (.goto (-26), 3) := by decide +kernel
theorem dX12_hasTune_31 : decode cX12_hasTune 31 = .ok (.iconst 1, 1) := by decide +kernel
theorem dX12_hasTune_32 : decode cX12_hasTune 32 = .ok (.ireturn, 1) := by decide +kernel
theorem dX12_bells_0 : decode cX12_bells 0 = .ok (.iconst 0, 1) := by decide +kernel
theorem dX12_bells_1 : decode cX12_bells 1 = .ok (.istore_n 1, 1) := by decide +kernel
theorem dX12_bells_2 : decode cX12_bells 2 = .ok (.iconst 0, 1) := by decide +kernel
theorem dX12_bells_3 : decode cX12_bells 3 = .ok (.istore_n 2, 1) := by decide +kernel
theorem dX12_bells_4 : decode cX12_bells 4 = .ok (.iload_n 2, 1) := by decide +kernel
theorem dX12_bells_5 : decode cX12_bells 5 = .ok (.bipush 6, 2) := by decide +kernel
theorem dX12_bells_7 : decode cX12_bells 7 = .ok (.if_icmp .ge 64, 3) := by decide +kernel
theorem dX12_bells_10 : decode cX12_bells 10 = .ok (.aload_n 0, 1) := by decide +kernel
theorem dX12_bells_11 : decode cX12_bells 11 = .ok (.iconst 0, 1) := by decide +kernel
theorem dX12_bells_12 : decode cX12_bells 12 = .ok (.iload_n 2, 1) := by decide +kernel
theorem dX12_bells_13 : decode cX12_bells 13 = .ok (.invokevirtual 351, 3) := by decide +kernel
theorem dX12_bells_16 : decode cX12_bells 16 = .ok (.istore_n 3, 1) := by decide +kernel
theorem dX12_bells_17 : decode cX12_bells 17 = .ok (.iconst 0, 1) := by decide +kernel
theorem dX12_bells_18 : decode cX12_bells 18 = .ok (.istore 4, 2) := by decide +kernel
theorem dX12_bells_20 : decode cX12_bells 20 = .ok (.iload 4, 2) := by decide +kernel
theorem dX12_bells_22 : decode cX12_bells 22 = .ok (.aload_n 0, 1) := by decide +kernel
theorem dX12_bells_23 : decode cX12_bells 23 = .ok (.getfield 289, 3) := by decide +kernel
theorem dX12_bells_26 : decode cX12_bells 26 = .ok (.if_icmp .ge 27, 3) := by decide +kernel
theorem dX12_bells_29 : decode cX12_bells 29 = .ok (.iload_n 3, 1) := by decide +kernel
theorem dX12_bells_30 : decode cX12_bells 30 = .ok (.iload 4, 2) := by decide +kernel
theorem dX12_bells_32 : decode cX12_bells 32 = .ok (.ishr, 1) := by decide +kernel
theorem dX12_bells_33 : decode cX12_bells 33 = .ok (.iconst 1, 1) := by decide +kernel
theorem dX12_bells_34 : decode cX12_bells 34 = .ok (.iand, 1) := by decide +kernel
theorem dX12_bells_35 : decode cX12_bells 35 = .ok (.iconst 1, 1) := by decide +kernel
theorem dX12_bells_36 : decode cX12_bells 36 = .ok (.if_icmp .ne 11, 3) := by decide +kernel
theorem dX12_bells_39 : decode cX12_bells 39 = .ok (.aload_n 0, 1) := by decide +kernel
theorem dX12_bells_40 : decode cX12_bells 40 = .ok (.getfield 78, 3) := by decide +kernel
theorem dX12_bells_43 : decode cX12_bells 43 = .ok (.iload_n 1, 1) := by decide +kernel
theorem dX12_bells_44 : decode cX12_bells 44 = .ok (.iload 4, 2) := by decide +kernel
theorem dX12_bells_46 : decode cX12_bells 46 = .ok (.iastore, 1) := by decide +kernel
theorem dX12_bells_47 : decode cX12_bells 47 = .ok (.iinc 4 1, 3) := by decide +kernel
theorem dX12_bells_50 : decode cX12_bells 50 = .ok (.goto (-30), 3) := by decide +kernel
theorem dX12_bells_53 : decode cX12_bells 53 = .ok (.iload_n 1, 1) := by decide +kernel
theorem dX12_bells_54 : decode cX12_bells 54 = .ok (.iload_n 3, 1) := by decide +kernel
theorem dX12_bells_55 : decode cX12_bells 55 = .ok (.ifCond .eq 7, 3) := by decide +kernel
theorem dX12_bells_58 : decode cX12_bells 58 = .ok (.iconst 1, 1) := by decide +kernel
theorem dX12_bells_59 : decode cX12_bells 59 = .ok (.goto 4, 3) := by decide +kernel
theorem dX12_bells_62 : decode cX12_bells 62 = .ok (.iconst 0, 1) := by decide +kernel
theorem dX12_bells_63 : decode cX12_bells 63 = .ok (.iadd, 1) := by decide +kernel
theorem dX12_bells_64 : decode cX12_bells 64 = .ok (.istore_n 1, 1) := by decide +kernel
theorem dX12_bells_65 : decode cX12_bells 65 = .ok (.iinc 2 1, 3) := by decide +kernel
theorem dX12_bells_68 : decode cX12_bells 68 = .ok (.goto (-64), 3) := by decide +kernel
theorem dX12_bells_71 : decode cX12_bells 71 = .ok (.iload_n 1, 1) := by decide +kernel
theorem dX12_bells_72 : decode cX12_bells 72 = .ok (.ireturn, 1) := by decide +kernel
theorem dX12_count_0 : decode cX12_count 0 = .ok (.aload_n 0, 1) := by decide +kernel
theorem dX12_count_1 : decode cX12_count 1 = .ok (.iconst 0, 1) := by decide +kernel
theorem dX12_count_2 : decode cX12_count 2 = .ok (.putfield 114, 3) := by decide +kernel
theorem dX12_count_5 : decode cX12_count 5 = .ok (.aload_n 0, 1) := by decide +kernel
theorem dX12_count_6 : decode cX12_count 6 = .ok (.iload_n 1, 1) := by decide +kernel
theorem dX12_count_7 : decode cX12_count 7 = .ok (.iconst 0, 1) := by decide +kernel
theorem dX12_count_8 : decode cX12_count 8 = .ok (.bipush 16, 2) := by decide +kernel
theorem dX12_count_10 : decode cX12_count 10 = .ok (.invokestatic 240, 3) := by decide +kernel
theorem dX12_count_13 : decode cX12_count 13 = .ok (.iconst 1, 1) := by decide +kernel
theorem dX12_count_14 : decode cX12_count 14 = .ok (.invokevirtual 282, 3) := by decide +kernel
theorem dX12_count_17 : decode cX12_count 17 = .ok (.ifCond .ne 5, 3) := by decide +kernel
theorem dX12_count_20 : decode cX12_count 20 = .ok (.iconst 0, 1) := by decide +kernel
theorem dX12_count_21 : decode cX12_count 21 = .ok (.ireturn, 1) := by decide +kernel
theorem dX12_count_22 : decode cX12_count 22 = .ok (.iload_n 1, 1) := by decide +kernel
theorem dX12_count_23 : decode cX12_count 23 = .ok (.tableswitch 154 0 13 #[69, 74, 79, 86, 97, 102, 107, 112, 118, 125, 133, 139, 144, 149], 69) := by decide +kernel
theorem dX12_count_92 : decode cX12_count 92 = .ok (.aload_n 0, 1) := by decide +kernel
theorem dX12_count_93 : decode cX12_count 93 = .ok (.getfield 289, 3) := by decide +kernel
theorem dX12_count_96 : decode cX12_count 96 = .ok (.ireturn, 1) := by decide +kernel
theorem dX12_count_97 : decode cX12_count 97 = .ok (.aload_n 0, 1) := by decide +kernel
theorem dX12_count_98 : decode cX12_count 98 = .ok (.invokevirtual 354, 3) := by decide +kernel
theorem dX12_count_101 : decode cX12_count 101 = .ok (.ireturn, 1) := by decide +kernel
theorem dX12_count_102 : decode cX12_count 102 = .ok (.aload_n 0, 1) := by decide +kernel
theorem dX12_count_103 : decode cX12_count 103 = .ok (.getfield 63, 3) := by decide +kernel
theorem dX12_count_106 : decode cX12_count 106 = .ok (.iconst 0, 1) := by decide +kernel
theorem dX12_count_107 : decode cX12_count 107 = .ok (.iaload, 1) := by decide +kernel
theorem dX12_count_108 : decode cX12_count 108 = .ok (.ireturn, 1) := by decide +kernel
theorem dX12_count_109 : decode cX12_count 109 = .ok (.aload_n 0, 1) := by decide +kernel
theorem dX12_count_110 : decode cX12_count 110 = .ok (.aload_n 0, 1) := by decide +kernel
theorem dX12_count_111 : decode cX12_count 111 = .ok (.getfield 63, 3) := by decide +kernel
theorem dX12_count_114 : decode cX12_count 114 = .ok (.iconst 0, 1) := by decide +kernel
theorem dX12_count_115 : decode cX12_count 115 = .ok (.iaload, 1) := by decide +kernel
theorem dX12_count_116 : decode cX12_count 116 = .ok (.invokevirtual 319, 3) := by decide +kernel
theorem dX12_count_119 : decode cX12_count 119 = .ok (.ireturn, 1) := by decide +kernel
theorem dX12_count_120 : decode cX12_count 120 = .ok (.aload_n 0, 1) := by decide +kernel
theorem dX12_count_121 : decode cX12_count 121 = .ok (.getfield 7, 3) := by decide +kernel
theorem dX12_count_124 : decode cX12_count 124 = .ok (.ireturn, 1) := by decide +kernel
theorem dX12_count_125 : decode cX12_count 125 = .ok (.aload_n 0, 1) := by decide +kernel
theorem dX12_count_126 : decode cX12_count 126 = .ok (.getfield 295, 3) := by decide +kernel
theorem dX12_count_129 : decode cX12_count 129 = .ok (.ireturn, 1) := by decide +kernel
theorem dX12_count_130 : decode cX12_count 130 = .ok (.aload_n 0, 1) := by decide +kernel
theorem dX12_count_131 : decode cX12_count 131 = .ok (.getfield 298, 3) := by decide +kernel
theorem dX12_count_134 : decode cX12_count 134 = .ok (.ireturn, 1) := by decide +kernel
theorem dX12_count_135 : decode cX12_count 135 = .ok (.aload_n 0, 1) := by decide +kernel
theorem dX12_count_136 : decode cX12_count 136 = .ok (.iconst 0, 1) := by decide +kernel
theorem dX12_count_137 : decode cX12_count 137 = .ok (.invokevirtual 357, 3) := by decide +kernel
theorem dX12_count_140 : decode cX12_count 140 = .ok (.ireturn, 1) := by decide +kernel
theorem dX12_count_141 : decode cX12_count 141 = .ok (.aload_n 0, 1) := by decide +kernel
theorem dX12_count_142 : decode cX12_count 142 = .ok (.iconst 0, 1) := by decide +kernel
theorem dX12_count_143 : decode cX12_count 143 = .ok (.iconst (-1), 1) := by decide +kernel
theorem dX12_count_144 : decode cX12_count 144 = .ok (.invokevirtual 351, 3) := by decide +kernel
theorem dX12_count_147 : decode cX12_count 147 = .ok (.ireturn, 1) := by decide +kernel
theorem dX12_count_148 : decode cX12_count 148 = .ok (.aload_n 0, 1) := by decide +kernel
theorem dX12_count_149 : decode cX12_count 149 = .ok (.iconst 0, 1) := by decide +kernel
theorem dX12_count_150 : decode cX12_count 150 = .ok (.bipush (-2), 2) := by decide +kernel
theorem dX12_count_152 : decode cX12_count 152 = .ok (.invokevirtual 351, 3) := by decide +kernel
theorem dX12_count_155 : decode cX12_count 155 = .ok (.ireturn, 1) := by decide +kernel
theorem dX12_count_156 : decode cX12_count 156 = .ok (.aload_n 0, 1) := by decide +kernel
theorem dX12_count_157 : decode cX12_count 157 = .ok (.iconst 0, 1) := by decide +kernel
theorem dX12_count_158 : decode cX12_count 158 = .ok (.invokevirtual 360, 3) := by decide +kernel
theorem dX12_count_161 : decode cX12_count 161 = .ok (.ireturn, 1) := by decide +kernel
theorem dX12_count_162 : decode cX12_count 162 = .ok (.aload_n 0, 1) := by decide +kernel
theorem dX12_count_163 : decode cX12_count 163 = .ok (.getfield 305, 3) := by decide +kernel
theorem dX12_count_166 : decode cX12_count 166 = .ok (.ireturn, 1) := by decide +kernel
theorem dX12_count_167 : decode cX12_count 167 = .ok (.aload_n 0, 1) := by decide +kernel
theorem dX12_count_168 : decode cX12_count 168 = .ok (.getfield 308, 3) := by decide +kernel
theorem dX12_count_171 : decode cX12_count 171 = .ok (.ireturn, 1) := by decide +kernel
theorem dX12_count_172 : decode cX12_count 172 = .ok (.aload_n 0, 1) := by decide +kernel
theorem dX12_count_173 : decode cX12_count 173 = .ok (.getfield 117, 3) := by decide +kernel
theorem dX12_count_176 : decode cX12_count 176 = .ok (.ireturn, 1) := by decide +kernel
theorem dX12_count_177 : decode cX12_count 177 = .ok (.aload_n 0, 1) := by decide +kernel
theorem dX12_count_178 : decode cX12_count 178 = .ok (.getfield 38, 3) := by decide +kernel
theorem dX12_count_181 : decode cX12_count 181 = .ok (.iload_n 1, 1) := by decide +kernel
theorem dX12_count_182 : decode cX12_count 182 = .ok (.bipush 14, 2) := by decide +kernel
theorem dX12_count_184 : decode cX12_count 184 = .ok (.isub, 1) := by decide +kernel
theorem dX12_count_185 : decode cX12_count 185 = .ok (.iaload, 1) := by decide +kernel
theorem dX12_count_186 : decode cX12_count 186 = .ok (.ireturn, 1) := by decide +kernel
theorem dX12_isRoot_0 : decode cX12_isRoot 0 = .ok (.aload_n 0, 1) := by decide +kernel
theorem dX12_isRoot_1 : decode cX12_isRoot 1 = .ok (.iload_n 1, 1) := by decide +kernel
theorem dX12_isRoot_2 : decode cX12_isRoot 2 = .ok (.ifCond .lt 15, 3) := by decide +kernel
theorem dX12_isRoot_5 : decode cX12_isRoot 5 = .ok (.iload_n 1, 1) := by decide +kernel
theorem dX12_isRoot_6 : decode cX12_isRoot 6 = .ok (.aload_n 0, 1) := by decide +kernel
theorem dX12_isRoot_7 : decode cX12_isRoot 7 = .ok (.getfield 289, 3) := by decide +kernel
theorem dX12_isRoot_10 : decode cX12_isRoot 10 = .ok (.if_icmp .ge 7, 3) := by decide +kernel
theorem dX12_isRoot_13 : decode cX12_isRoot 13 = .ok (.iconst 1, 1) := by decide +kernel
theorem dX12_isRoot_14 : decode cX12_isRoot 14 = .ok (.goto 4, 3) := by decide +kernel
theorem dX12_isRoot_17 : decode cX12_isRoot 17 = .ok (.iconst 0, 1) := by decide +kernel
theorem dX12_isRoot_18 : decode cX12_isRoot 18 = .ok (.iconst 1, 1) := by decide +kernel
theorem dX12_isRoot_19 : decode cX12_isRoot 19 = .ok (.invokevirtual 282, 3) := by decide +kernel
theorem dX12_isRoot_22 : decode cX12_isRoot 22 = .ok (.ireturn, 1) := by decide +kernel
theorem dX12_isWhat_0 : decode cX12_isWhat 0 = .ok (.aload_n 0, 1) := by decide +kernel
theorem dX12_isWhat_1 : decode cX12_isWhat 1 = .ok (.iload_n 1, 1) := by decide +kernel
theorem dX12_isWhat_2 : decode cX12_isWhat 2 = .ok (.iconst 0, 1) := by decide +kernel
theorem dX12_isWhat_3 : decode cX12_isWhat 3 = .ok (.iload_n 2, 1) := by decide +kernel
theorem dX12_isWhat_4 : decode cX12_isWhat 4 = .ok (.invokestatic 240, 3) := by decide +kernel
theorem dX12_isWhat_7 : decode cX12_isWhat 7 = .ok (.iconst 1, 1) := by decide +kernel
theorem dX12_isWhat_8 : decode cX12_isWhat 8 = .ok (.invokevirtual 282, 3) := by decide +kernel
theorem dX12_isWhat_11 : decode cX12_isWhat 11 = .ok (.ireturn, 1) := by decide +kernel
theorem dX12_mayBe_0 : decode cX12_mayBe 0 = .ok (.aload_n 0, 1) := by decide +kernel
theorem dX12_mayBe_1 : decode cX12_mayBe 1 = .ok (.getfield 63, 3) := by decide +kernel
theorem dX12_mayBe_4 : decode cX12_mayBe 4 = .ok (.bipush 31, 2) := by decide +kernel
theorem dX12_mayBe_6 : decode cX12_mayBe 6 = .ok (.iload_n 1, 1) := by decide +kernel
theorem dX12_mayBe_7 : decode cX12_mayBe 7 = .ok (.iadd, 1) := by decide +kernel
theorem dX12_mayBe_8 : decode cX12_mayBe 8 = .ok (.iaload, 1) := by decide +kernel
theorem dX12_mayBe_9 : decode cX12_mayBe 9 = .ok (.bipush (-2), 2) := by decide +kernel
theorem dX12_mayBe_11 : decode cX12_mayBe 11 = .ok (.if_icmp .ne 5, 3) := by decide +kernel
theorem dX12_mayBe_14 : decode cX12_mayBe 14 = .ok (.iconst 0, 1) := by decide +kernel
theorem dX12_mayBe_15 : decode cX12_mayBe 15 = .ok (.ireturn, 1) := by decide +kernel
theorem dX12_mayBe_16 : decode cX12_mayBe 16 = .ok (.bipush 20, 2) := by decide +kernel
theorem dX12_mayBe_18 : decode cX12_mayBe 18 = .ok (.aload_n 0, 1) := by decide +kernel
theorem dX12_mayBe_19 : decode cX12_mayBe 19 = .ok (.getfield 63, 3) := by decide +kernel
theorem dX12_mayBe_22 : decode cX12_mayBe 22 = .ok (.bipush 11, 2) := by decide +kernel
theorem dX12_mayBe_24 : decode cX12_mayBe 24 = .ok (.iload_n 1, 1) := by decide +kernel
theorem dX12_mayBe_25 : decode cX12_mayBe 25 = .ok (.iadd, 1) := by decide +kernel
theorem dX12_mayBe_26 : decode cX12_mayBe 26 = .ok (.iaload, 1) := by decide +kernel
theorem dX12_mayBe_27 : decode cX12_mayBe 27 = .ok (.isub, 1) := by decide +kernel
theorem dX12_mayBe_28 : decode cX12_mayBe 28 = .ok (.istore_n 2, 1) := by decide +kernel
theorem dX12_mayBe_29 : decode cX12_mayBe 29 = .ok (.aload_n 0, 1) := by decide +kernel
theorem dX12_mayBe_30 : decode cX12_mayBe 30 = .ok (.getfield 63, 3) := by decide +kernel
theorem dX12_mayBe_33 : decode cX12_mayBe 33 = .ok (.iconst 1, 1) := by decide +kernel
theorem dX12_mayBe_34 : decode cX12_mayBe 34 = .ok (.iload_n 1, 1) := by decide +kernel
theorem dX12_mayBe_35 : decode cX12_mayBe 35 = .ok (.iadd, 1) := by decide +kernel
theorem dX12_mayBe_36 : decode cX12_mayBe 36 = .ok (.iaload, 1) := by decide +kernel
theorem dX12_mayBe_37 : decode cX12_mayBe 37 = .ok (.iconst 1, 1) := by decide +kernel
theorem dX12_mayBe_38 : decode cX12_mayBe 38 = .ok (.isub, 1) := by decide +kernel
theorem dX12_mayBe_39 : decode cX12_mayBe 39 = .ok (.aload_n 0, 1) := by decide +kernel
theorem dX12_mayBe_40 : decode cX12_mayBe 40 = .ok (.getfield 63, 3) := by decide +kernel
theorem dX12_mayBe_43 : decode cX12_mayBe 43 = .ok (.bipush 11, 2) := by decide +kernel
theorem dX12_mayBe_45 : decode cX12_mayBe 45 = .ok (.iload_n 1, 1) := by decide +kernel
theorem dX12_mayBe_46 : decode cX12_mayBe 46 = .ok (.iadd, 1) := by decide +kernel
theorem dX12_mayBe_47 : decode cX12_mayBe 47 = .ok (.iaload, 1) := by decide +kernel
theorem dX12_mayBe_48 : decode cX12_mayBe 48 = .ok (.isub, 1) := by decide +kernel
theorem dX12_mayBe_49 : decode cX12_mayBe 49 = .ok (.istore_n 3, 1) := by decide +kernel
theorem dX12_mayBe_50 : decode cX12_mayBe 50 = .ok (.iload_n 2, 1) := by decide +kernel
theorem dX12_mayBe_51 : decode cX12_mayBe 51 = .ok (.iload_n 3, 1) := by decide +kernel
theorem dX12_mayBe_52 : decode cX12_mayBe 52 = .ok (.if_icmp .ge 7, 3) := by decide +kernel
theorem dX12_mayBe_55 : decode cX12_mayBe 55 = .ok (.iload_n 2, 1) := by decide +kernel
theorem dX12_mayBe_56 : decode cX12_mayBe 56 = .ok (.goto 4, 3) := by decide +kernel
theorem dX12_mayBe_59 : decode cX12_mayBe 59 = .ok (.iload_n 3, 1) := by decide +kernel
theorem dX12_mayBe_60 : decode cX12_mayBe 60 = .ok (.ireturn, 1) := by decide +kernel
theorem dX12_root_0 : decode cX12_root 0 = .ok (.aload_n 0, 1) := by decide +kernel
theorem dX12_root_1 : decode cX12_root 1 = .ok (.iconst 0, 1) := by decide +kernel
theorem dX12_root_2 : decode cX12_root 2 = .ok (.putfield 114, 3) := by decide +kernel
theorem dX12_root_5 : decode cX12_root 5 = .ok (.aload_n 0, 1) := by decide +kernel
theorem dX12_root_6 : decode cX12_root 6 = .ok (.iload_n 1, 1) := by decide +kernel
theorem dX12_root_7 : decode cX12_root 7 = .ok (.invokevirtual 363, 3) := by decide +kernel
theorem dX12_root_10 : decode cX12_root 10 = .ok (.ifCond .eq 13, 3) := by decide +kernel
theorem dX12_root_13 : decode cX12_root 13 = .ok (.aload_n 0, 1) := by decide +kernel
theorem dX12_root_14 : decode cX12_root 14 = .ok (.iload_n 2, 1) := by decide +kernel
theorem dX12_root_15 : decode cX12_root 15 = .ok (.bipush 7, 2) := by decide +kernel
theorem dX12_root_17 : decode cX12_root 17 = .ok (.invokevirtual 366, 3) := by decide +kernel
theorem dX12_root_20 : decode cX12_root 20 = .ok (.ifCond .ne 5, 3) := by decide +kernel
theorem dX12_root_23 : decode cX12_root 23 = .ok (.iconst 0, 1) := by decide +kernel
theorem dX12_root_24 : decode cX12_root 24 = .ok (.ireturn, 1) := by decide +kernel
theorem dX12_root_25 : decode cX12_root 25 = .ok (.iload_n 2, 1) := by decide +kernel
theorem dX12_root_26 : decode cX12_root 26 = .ok (.tableswitch 110 0 6 #[42, 49, 58, 68, 78, 85, 95], 42) := by decide +kernel
theorem dX12_root_68 : decode cX12_root 68 = .ok (.aload_n 0, 1) := by decide +kernel
theorem dX12_root_69 : decode cX12_root 69 = .ok (.getfield 19, 3) := by decide +kernel
theorem dX12_root_72 : decode cX12_root 72 = .ok (.iload_n 1, 1) := by decide +kernel
theorem dX12_root_73 : decode cX12_root 73 = .ok (.iaload, 1) := by decide +kernel
theorem dX12_root_74 : decode cX12_root 74 = .ok (.ireturn, 1) := by decide +kernel
theorem dX12_root_75 : decode cX12_root 75 = .ok (.aload_n 0, 1) := by decide +kernel
theorem dX12_root_76 : decode cX12_root 76 = .ok (.getfield 63, 3) := by decide +kernel
theorem dX12_root_79 : decode cX12_root 79 = .ok (.iconst 1, 1) := by decide +kernel
theorem dX12_root_80 : decode cX12_root 80 = .ok (.iload_n 1, 1) := by decide +kernel
theorem dX12_root_81 : decode cX12_root 81 = .ok (.iadd, 1) := by decide +kernel
theorem dX12_root_82 : decode cX12_root 82 = .ok (.iaload, 1) := by decide +kernel
theorem dX12_root_83 : decode cX12_root 83 = .ok (.ireturn, 1) := by decide +kernel
theorem dX12_root_84 : decode cX12_root 84 = .ok (.aload_n 0, 1) := by decide +kernel
theorem dX12_root_85 : decode cX12_root 85 = .ok (.getfield 63, 3) := by decide +kernel
theorem dX12_root_88 : decode cX12_root 88 = .ok (.bipush 11, 2) := by decide +kernel
theorem dX12_root_90 : decode cX12_root 90 = .ok (.iload_n 1, 1) := by decide +kernel
theorem dX12_root_91 : decode cX12_root 91 = .ok (.iadd, 1) := by decide +kernel
theorem dX12_root_92 : decode cX12_root 92 = .ok (.iaload, 1) := by decide +kernel
theorem dX12_root_93 : decode cX12_root 93 = .ok (.ireturn, 1) := by decide +kernel
theorem dX12_root_94 : decode cX12_root 94 = .ok (.aload_n 0, 1) := by decide +kernel
theorem dX12_root_95 : decode cX12_root 95 = .ok (.getfield 63, 3) := by decide +kernel
theorem dX12_root_98 : decode cX12_root 98 = .ok (.bipush 21, 2) := by decide +kernel
theorem dX12_root_100 : decode cX12_root 100 = .ok (.iload_n 1, 1) := by decide +kernel
theorem dX12_root_101 : decode cX12_root 101 = .ok (.iadd, 1) := by decide +kernel
theorem dX12_root_102 : decode cX12_root 102 = .ok (.iaload, 1) := by decide +kernel
theorem dX12_root_103 : decode cX12_root 103 = .ok (.ireturn, 1) := by decide +kernel
theorem dX12_root_104 : decode cX12_root 104 = .ok (.aload_n 0, 1) := by decide +kernel
theorem dX12_root_105 : decode cX12_root 105 = .ok (.iconst 0, 1) := by decide +kernel
theorem dX12_root_106 : decode cX12_root 106 = .ok (.iload_n 1, 1) := by decide +kernel
theorem dX12_root_107 : decode cX12_root 107 = .ok (.invokevirtual 348, 3) := by decide +kernel
theorem dX12_root_110 : decode cX12_root 110 = .ok (.ireturn, 1) := by decide +kernel
theorem dX12_root_111 : decode cX12_root 111 = .ok (.aload_n 0, 1) := by decide +kernel
theorem dX12_root_112 : decode cX12_root 112 = .ok (.getfield 63, 3) := by decide +kernel
theorem dX12_root_115 : decode cX12_root 115 = .ok (.bipush 31, 2) := by decide +kernel
theorem dX12_root_117 : decode cX12_root 117 = .ok (.iload_n 1, 1) := by decide +kernel
theorem dX12_root_118 : decode cX12_root 118 = .ok (.iadd, 1) := by decide +kernel
theorem dX12_root_119 : decode cX12_root 119 = .ok (.iaload, 1) := by decide +kernel
theorem dX12_root_120 : decode cX12_root 120 = .ok (.ireturn, 1) := by decide +kernel
theorem dX12_root_121 : decode cX12_root 121 = .ok (.aload_n 0, 1) := by decide +kernel
theorem dX12_root_122 : decode cX12_root 122 = .ok (.iconst 0, 1) := by decide +kernel
theorem dX12_root_123 : decode cX12_root 123 = .ok (.iload_n 1, 1) := by decide +kernel
theorem dX12_root_124 : decode cX12_root 124 = .ok (.invokevirtual 345, 3) := by decide +kernel
theorem dX12_root_127 : decode cX12_root 127 = .ok (.ifCond .eq 7, 3) := by decide +kernel
theorem dX12_root_130 : decode cX12_root 130 = .ok (.iconst 1, 1) := by decide +kernel
theorem dX12_root_131 : decode cX12_root 131 = .ok (.goto 4, 3) := by decide +kernel
theorem dX12_root_134 : decode cX12_root 134 = .ok (.iconst 0, 1) := by decide +kernel
theorem dX12_root_135 : decode cX12_root 135 = .ok (.ireturn, 1) := by decide +kernel
theorem dX12_root_136 : decode cX12_root 136 = .ok (.aload_n 0, 1) := by decide +kernel
theorem dX12_root_137 : decode cX12_root 137 = .ok (.iload_n 1, 1) := by decide +kernel
theorem dX12_root_138 : decode cX12_root 138 = .ok (.invokevirtual 369, 3) := by decide +kernel
theorem dX12_root_141 : decode cX12_root 141 = .ok (.ireturn, 1) := by decide +kernel
theorem dX12_hook_0 : decode cX12_hook 0 = .ok (.aload_n 0, 1) := by decide +kernel
theorem dX12_hook_1 : decode cX12_hook 1 = .ok (.iconst 0, 1) := by decide +kernel
theorem dX12_hook_2 : decode cX12_hook 2 = .ok (.putfield 114, 3) := by decide +kernel
theorem dX12_hook_5 : decode cX12_hook 5 = .ok (.aload_n 0, 1) := by decide +kernel
theorem dX12_hook_6 : decode cX12_hook 6 = .ok (.iload_n 1, 1) := by decide +kernel
theorem dX12_hook_7 : decode cX12_hook 7 = .ok (.iconst 5, 1) := by decide +kernel
theorem dX12_hook_8 : decode cX12_hook 8 = .ok (.invokevirtual 366, 3) := by decide +kernel
theorem dX12_hook_11 : decode cX12_hook 11 = .ok (.ifCond .ne 5, 3) := by decide +kernel
theorem dX12_hook_14 : decode cX12_hook 14 = .ok (.iconst 0, 1) := by decide +kernel
theorem dX12_hook_15 : decode cX12_hook 15 = .ok (.ireturn, 1) := by decide +kernel
theorem dX12_hook_16 : decode cX12_hook 16 = .ok (.iconst 0, 1) := by decide +kernel
theorem dX12_hook_17 : decode cX12_hook 17 = .ok (.istore_n 2, 1) := by decide +kernel
theorem dX12_hook_18 : decode cX12_hook 18 = .ok (.iload_n 2, 1) := by decide +kernel
theorem dX12_hook_19 : decode cX12_hook 19 = .ok (.aload_n 0, 1) := by decide +kernel
theorem dX12_hook_20 : decode cX12_hook 20 = .ok (.getfield 289, 3) := by decide +kernel
theorem dX12_hook_23 : decode cX12_hook 23 = .ok (.if_icmp .ge 24, 3) := by decide +kernel
theorem dX12_hook_26 : decode cX12_hook 26 = .ok (.aload_n 0, 1) := by decide +kernel
theorem dX12_hook_27 : decode cX12_hook 27 = .ok (.getfield 63, 3) := by decide +kernel
theorem dX12_hook_30 : decode cX12_hook 30 = .ok (.bipush 31, 2) := by decide +kernel
theorem dX12_hook_32 : decode cX12_hook 32 = .ok (.iload_n 2, 1) := by decide +kernel
theorem dX12_hook_33 : decode cX12_hook 33 = .ok (.iadd, 1) := by decide +kernel
theorem dX12_hook_34 : decode cX12_hook 34 = .ok (.iaload, 1) := by decide +kernel
theorem dX12_hook_35 : decode cX12_hook 35 = .ok (.iload_n 1, 1) := by decide +kernel
theorem dX12_hook_36 : decode cX12_hook 36 = .ok (.if_icmp .ne 5, 3) := by decide +kernel
theorem dX12_hook_39 : decode cX12_hook 39 = .ok (.iload_n 2, 1) := by decide +kernel
theorem dX12_hook_40 : decode cX12_hook 40 = .ok (.ireturn, 1) := by decide +kernel
theorem dX12_hook_41 : decode cX12_hook 41 = .ok (.iinc 2 1, 3) := by decide +kernel
theorem dX12_hook_44 : decode cX12_hook 44 = .ok (.goto (-26), 3) := by decide +kernel
theorem dX12_hook_47 : decode cX12_hook 47 = .ok (.iconst (-1), 1) := by decide +kernel
theorem dX12_hook_48 : decode cX12_hook 48 = .ok (.ireturn, 1) := by decide +kernel
theorem dX12_tune_0 : decode cX12_tune 0 = .ok (.aload_n 0, 1) := by decide +kernel
theorem dX12_tune_1 : decode cX12_tune 1 = .ok (.iconst 0, 1) := by decide +kernel
theorem dX12_tune_2 : decode cX12_tune 2 = .ok (.putfield 114, 3) := by decide +kernel
theorem dX12_tune_5 : decode cX12_tune 5 = .ok (.aload_n 0, 1) := by decide +kernel
theorem dX12_tune_6 : decode cX12_tune 6 = .ok (.iload_n 1, 1) := by decide +kernel
theorem dX12_tune_7 : decode cX12_tune 7 = .ok (.ifCond .lt 15, 3) := by decide +kernel
theorem dX12_tune_10 : decode cX12_tune 10 = .ok (.iload_n 1, 1) := by decide +kernel
theorem dX12_tune_11 : decode cX12_tune 11 = .ok (.aload_n 0, 1) := by decide +kernel
theorem dX12_tune_12 : decode cX12_tune 12 = .ok (.getfield 295, 3) := by decide +kernel
theorem dX12_tune_15 : decode cX12_tune 15 = .ok (.if_icmp .ge 7, 3) := by decide +kernel
theorem dX12_tune_18 : decode cX12_tune 18 = .ok (.iconst 1, 1) := by decide +kernel
theorem dX12_tune_19 : decode cX12_tune 19 = .ok (.goto 4, 3) := by decide +kernel
theorem dX12_tune_22 : decode cX12_tune 22 = .ok (.iconst 0, 1) := by decide +kernel
theorem dX12_tune_23 : decode cX12_tune 23 = .ok (.iconst 1, 1) := by decide +kernel
theorem dX12_tune_24 : decode cX12_tune 24 = .ok (.invokevirtual 282, 3) := by decide +kernel
theorem dX12_tune_27 : decode cX12_tune 27 = .ok (.ifCond .eq 12, 3) := by decide +kernel
theorem dX12_tune_30 : decode cX12_tune 30 = .ok (.aload_n 0, 1) := by decide +kernel
theorem dX12_tune_31 : decode cX12_tune 31 = .ok (.getfield 26, 3) := by decide +kernel
theorem dX12_tune_34 : decode cX12_tune 34 = .ok (.iload_n 1, 1) := by decide +kernel
theorem dX12_tune_35 : decode cX12_tune 35 = .ok (.iaload, 1) := by decide +kernel
theorem dX12_tune_36 : decode cX12_tune 36 = .ok (.goto 4, 3) := by decide +kernel
theorem dX12_tune_39 : decode cX12_tune 39 = .ok (.iconst 0, 1) := by decide +kernel
theorem dX12_tune_40 : decode cX12_tune 40 = .ok (.ireturn, 1) := by decide +kernel
theorem dX12_change_0 : decode cX12_change 0 = .ok (.aload_n 0, 1) := by decide +kernel
theorem dX12_change_1 : decode cX12_change 1 = .ok (.iconst 0, 1) := by decide +kernel
theorem dX12_change_2 : decode cX12_change 2 = .ok (.putfield 114, 3) := by decide +kernel
theorem dX12_change_5 : decode cX12_change 5 = .ok (.aload_n 0, 1) := by decide +kernel
theorem dX12_change_6 : decode cX12_change 6 = .ok (.iload_n 1, 1) := by decide +kernel
theorem dX12_change_7 : decode cX12_change 7 = .ok (.ifCond .lt 15, 3) := by decide +kernel
theorem dX12_change_10 : decode cX12_change 10 = .ok (.iload_n 1, 1) := by decide +kernel
theorem dX12_change_11 : decode cX12_change 11 = .ok (.aload_n 0, 1) := by decide +kernel
theorem dX12_change_12 : decode cX12_change 12 = .ok (.getfield 298, 3) := by decide +kernel
theorem dX12_change_15 : decode cX12_change 15 = .ok (.if_icmp .ge 7, 3) := by decide +kernel
theorem dX12_change_18 : decode cX12_change 18 = .ok (.iconst 1, 1) := by decide +kernel
theorem dX12_change_19 : decode cX12_change 19 = .ok (.goto 4, 3) := by decide +kernel
theorem dX12_change_22 : decode cX12_change 22 = .ok (.iconst 0, 1) := by decide +kernel
theorem dX12_change_23 : decode cX12_change 23 = .ok (.iconst 1, 1) := by decide +kernel
theorem dX12_change_24 : decode cX12_change 24 = .ok (.invokevirtual 282, 3) := by decide +kernel
theorem dX12_change_27 : decode cX12_change 27 = .ok (.ifCond .eq 15, 3) := by decide +kernel
theorem dX12_change_30 : decode cX12_change 30 = .ok (.aload_n 0, 1) := by decide +kernel
theorem dX12_change_31 : decode cX12_change 31 = .ok (.getfield 63, 3) := by decide +kernel
theorem dX12_change_34 : decode cX12_change 34 = .ok (.bipush 41, 2) := by decide +kernel
theorem dX12_change_36 : decode cX12_change 36 = .ok (.iload_n 1, 1) := by decide +kernel
theorem dX12_change_37 : decode cX12_change 37 = .ok (.iadd, 1) := by decide +kernel
theorem dX12_change_38 : decode cX12_change 38 = .ok (.iaload, 1) := by decide +kernel
theorem dX12_change_39 : decode cX12_change 39 = .ok (.goto 4, 3) := by decide +kernel
theorem dX12_change_42 : decode cX12_change 42 = .ok (.iconst 0, 1) := by decide +kernel
theorem dX12_change_43 : decode cX12_change 43 = .ok (.ireturn, 1) := by decide +kernel
theorem dX12_days_0 : decode cX12_days 0 = .ok (.aload_n 0, 1) := by decide +kernel
theorem dX12_days_1 : decode cX12_days 1 = .ok (.iconst 0, 1) := by decide +kernel
theorem dX12_days_2 : decode cX12_days 2 = .ok (.putfield 114, 3) := by decide +kernel
theorem dX12_days_5 : decode cX12_days 5 = .ok (.iload_n 1, 1) := by decide +kernel
theorem dX12_days_6 : decode cX12_days 6 = .ok (.iconst 1, 1) := by decide +kernel
theorem dX12_days_7 : decode cX12_days 7 = .ok (.bipush 30, 2) := by decide +kernel
theorem dX12_days_9 : decode cX12_days 9 = .ok (.invokestatic 240, 3) := by decide +kernel
theorem dX12_days_12 : decode cX12_days 12 = .ok (.ifCond .eq 17, 3) := by decide +kernel
theorem dX12_days_15 : decode cX12_days 15 = .ok (.aload_n 0, 1) := by decide +kernel
theorem dX12_days_16 : decode cX12_days 16 = .ok (.getfield 63, 3) := by decide +kernel
theorem dX12_days_19 : decode cX12_days 19 = .ok (.iconst 0, 1) := by decide +kernel
theorem dX12_days_20 : decode cX12_days 20 = .ok (.iaload, 1) := by decide +kernel
theorem dX12_days_21 : decode cX12_days 21 = .ok (.iload_n 1, 1) := by decide +kernel
theorem dX12_days_22 : decode cX12_days 22 = .ok (.iadd, 1) := by decide +kernel
theorem dX12_days_23 : decode cX12_days 23 = .ok (.sipush 999, 3) := by decide +kernel
theorem dX12_days_26 : decode cX12_days 26 = .ok (.if_icmp .le 9, 3) := by decide +kernel
theorem dX12_days_29 : decode cX12_days 29 = .ok (.aload_n 0, 1) := by decide +kernel
theorem dX12_days_30 : decode cX12_days 30 = .ok (.iconst 1, 1) := by decide +kernel
theorem dX12_days_31 : decode cX12_days 31 = .ok (.invokevirtual 372, 3) := by decide +kernel
theorem dX12_days_34 : decode cX12_days 34 = .ok (.ireturn, 1) := by decide +kernel
theorem dX12_days_35 : decode cX12_days 35 = .ok (.aload_n 0, 1) := by decide +kernel
theorem dX12_days_36 : decode cX12_days 36 = .ok (.invokevirtual 375, 3) := by decide +kernel
theorem dX12_days_39 : decode cX12_days 39 = .ok (.iconst 0, 1) := by decide +kernel
theorem dX12_days_40 : decode cX12_days 40 = .ok (.istore_n 2, 1) := by decide +kernel
theorem dX12_days_41 : decode cX12_days 41 = .ok (.iload_n 2, 1) := by decide +kernel
theorem dX12_days_42 : decode cX12_days 42 = .ok (.iload_n 1, 1) := by decide +kernel
theorem dX12_days_43 : decode cX12_days 43 = .ok (.if_icmp .ge 14, 3) := by decide +kernel
theorem dX12_days_46 : decode cX12_days 46 = .ok (.aload_n 0, 1) := by decide +kernel
theorem dX12_days_47 : decode cX12_days 47 = .ok (.iconst 0, 1) := by decide +kernel
theorem dX12_days_48 : decode cX12_days 48 = .ok (.invokevirtual 342, 3) := by decide +kernel
theorem dX12_days_51 : decode cX12_days 51 = .ok (.iinc 2 1, 3) := by decide +kernel
theorem dX12_days_54 : decode cX12_days 54 = .ok (.goto (-13), 3) := by decide +kernel
theorem dX12_days_57 : decode cX12_days 57 = .ok (.aload_n 0, 1) := by decide +kernel
theorem dX12_days_58 : decode cX12_days 58 = .ok (.getfield 63, 3) := by decide +kernel
theorem dX12_days_61 : decode cX12_days 61 = .ok (.iconst 0, 1) := by decide +kernel
theorem dX12_days_62 : decode cX12_days 62 = .ok (.iaload, 1) := by decide +kernel
theorem dX12_days_63 : decode cX12_days 63 = .ok (.ireturn, 1) := by decide +kernel
theorem dX12_hang_0 : decode cX12_hang 0 = .ok (.aload_n 0, 1) := by decide +kernel
theorem dX12_hang_1 : decode cX12_hang 1 = .ok (.iconst 0, 1) := by decide +kernel
theorem dX12_hang_2 : decode cX12_hang 2 = .ok (.putfield 114, 3) := by decide +kernel
theorem dX12_hang_5 : decode cX12_hang 5 = .ok (.aload_n 0, 1) := by decide +kernel
theorem dX12_hang_6 : decode cX12_hang 6 = .ok (.iload_n 1, 1) := by decide +kernel
theorem dX12_hang_7 : decode cX12_hang 7 = .ok (.invokevirtual 363, 3) := by decide +kernel
theorem dX12_hang_10 : decode cX12_hang 10 = .ok (.ifCond .eq 12, 3) := by decide +kernel
theorem dX12_hang_13 : decode cX12_hang 13 = .ok (.aload_n 0, 1) := by decide +kernel
theorem dX12_hang_14 : decode cX12_hang 14 = .ok (.iload_n 2, 1) := by decide +kernel
theorem dX12_hang_15 : decode cX12_hang 15 = .ok (.iconst 5, 1) := by decide +kernel
theorem dX12_hang_16 : decode cX12_hang 16 = .ok (.invokevirtual 366, 3) := by decide +kernel
theorem dX12_hang_19 : decode cX12_hang 19 = .ok (.ifCond .ne 5, 3) := by decide +kernel
theorem dX12_hang_22 : decode cX12_hang 22 = .ok (.iconst 0, 1) := by decide +kernel
theorem dX12_hang_23 : decode cX12_hang 23 = .ok (.ireturn, 1) := by decide +kernel
theorem dX12_hang_24 : decode cX12_hang 24 = .ok (.aload_n 0, 1) := by decide +kernel
theorem dX12_hang_25 : decode cX12_hang 25 = .ok (.getfield 63, 3) := by decide +kernel
theorem dX12_hang_28 : decode cX12_hang 28 = .ok (.bipush 31, 2) := by decide +kernel
theorem dX12_hang_30 : decode cX12_hang 30 = .ok (.iload_n 1, 1) := by decide +kernel
theorem dX12_hang_31 : decode cX12_hang 31 = .ok (.iadd, 1) := by decide +kernel
theorem dX12_hang_32 : decode cX12_hang 32 = .ok (.iaload, 1) := by decide +kernel
theorem dX12_hang_33 : decode cX12_hang 33 = .ok (.bipush (-2), 2) := by decide +kernel
theorem dX12_hang_35 : decode cX12_hang 35 = .ok (.if_icmp .eq 12, 3) := by decide +kernel
theorem dX12_hang_38 : decode cX12_hang 38 = .ok (.aload_n 0, 1) := by decide +kernel
theorem dX12_hang_39 : decode cX12_hang 39 = .ok (.iconst 0, 1) := by decide +kernel
theorem dX12_hang_40 : decode cX12_hang 40 = .ok (.iload_n 2, 1) := by decide +kernel
theorem dX12_hang_41 : decode cX12_hang 41 = .ok (.invokevirtual 351, 3) := by decide +kernel
theorem dX12_hang_44 : decode cX12_hang 44 = .ok (.ifCond .eq 11, 3) := by decide +kernel
theorem dX12_hang_47 : decode cX12_hang 47 = .ok (.aload_n 0, 1) := by decide +kernel
theorem dX12_hang_48 : decode cX12_hang 48 = .ok (.iconst 1, 1) := by decide +kernel
theorem dX12_hang_49 : decode cX12_hang 49 = .ok (.invokevirtual 372, 3) := by decide +kernel
theorem dX12_hang_52 : decode cX12_hang 52 = .ok (.iconst 1, 1) := by decide +kernel
theorem dX12_hang_53 : decode cX12_hang 53 = .ok (.isub, 1) := by decide +kernel
theorem dX12_hang_54 : decode cX12_hang 54 = .ok (.ireturn, 1) := by decide +kernel
theorem dX12_hang_55 : decode cX12_hang 55 = .ok (.aload_n 0, 1) := by decide +kernel
theorem dX12_hang_56 : decode cX12_hang 56 = .ok (.invokevirtual 375, 3) := by decide +kernel
theorem dX12_hang_59 : decode cX12_hang 59 = .ok (.aload_n 0, 1) := by decide +kernel
theorem dX12_hang_60 : decode cX12_hang 60 = .ok (.getfield 63, 3) := by decide +kernel
theorem dX12_hang_63 : decode cX12_hang 63 = .ok (.bipush 31, 2) := by decide +kernel
theorem dX12_hang_65 : decode cX12_hang 65 = .ok (.iload_n 1, 1) := by decide +kernel
theorem dX12_hang_66 : decode cX12_hang 66 = .ok (.iadd, 1) := by decide +kernel
theorem dX12_hang_67 : decode cX12_hang 67 = .ok (.iaload, 1) := by decide +kernel
theorem dX12_hang_68 : decode cX12_hang 68 = .ok (.istore_n 3, 1) := by decide +kernel
theorem dX12_hang_69 : decode cX12_hang 69 = .ok (.aload_n 0, 1) := by decide +kernel
theorem dX12_hang_70 : decode cX12_hang 70 = .ok (.getfield 63, 3) := by decide +kernel
theorem dX12_hang_73 : decode cX12_hang 73 = .ok (.bipush 31, 2) := by decide +kernel
theorem dX12_hang_75 : decode cX12_hang 75 = .ok (.iload_n 1, 1) := by decide +kernel
theorem dX12_hang_76 : decode cX12_hang 76 = .ok (.iadd, 1) := by decide +kernel
theorem dX12_hang_77 : decode cX12_hang 77 = .ok (.iload_n 2, 1) := by decide +kernel
theorem dX12_hang_78 : decode cX12_hang 78 = .ok (.iastore, 1) := by decide +kernel
theorem dX12_hang_79 : decode cX12_hang 79 = .ok (.iload_n 3, 1) := by decide +kernel
theorem dX12_hang_80 : decode cX12_hang 80 = .ok (.ireturn, 1) := by decide +kernel
theorem dX12_take_0 : decode cX12_take 0 = .ok (.aload_n 0, 1) := by decide +kernel
theorem dX12_take_1 : decode cX12_take 1 = .ok (.iconst 0, 1) := by decide +kernel
theorem dX12_take_2 : decode cX12_take 2 = .ok (.putfield 114, 3) := by decide +kernel
theorem dX12_take_5 : decode cX12_take 5 = .ok (.aload_n 0, 1) := by decide +kernel
theorem dX12_take_6 : decode cX12_take 6 = .ok (.iload_n 1, 1) := by decide +kernel
theorem dX12_take_7 : decode cX12_take 7 = .ok (.invokevirtual 363, 3) := by decide +kernel
theorem dX12_take_10 : decode cX12_take 10 = .ok (.ifCond .ne 5, 3) := by decide +kernel
theorem dX12_take_13 : decode cX12_take 13 = .ok (.iconst 0, 1) := by decide +kernel
theorem dX12_take_14 : decode cX12_take 14 = .ok (.ireturn, 1) := by decide +kernel
theorem dX12_take_15 : decode cX12_take 15 = .ok (.aload_n 0, 1) := by decide +kernel
theorem dX12_take_16 : decode cX12_take 16 = .ok (.getfield 63, 3) := by decide +kernel
theorem dX12_take_19 : decode cX12_take 19 = .ok (.bipush 31, 2) := by decide +kernel
theorem dX12_take_21 : decode cX12_take 21 = .ok (.iload_n 1, 1) := by decide +kernel
theorem dX12_take_22 : decode cX12_take 22 = .ok (.iadd, 1) := by decide +kernel
theorem dX12_take_23 : decode cX12_take 23 = .ok (.iaload, 1) := by decide +kernel
theorem dX12_take_24 : decode cX12_take 24 = .ok (.istore_n 2, 1) := by decide +kernel
theorem dX12_take_25 : decode cX12_take 25 = .ok (.iload_n 2, 1) := by decide +kernel
theorem dX12_take_26 : decode cX12_take 26 = .ok (.ifCond .ge 9, 3) := by decide +kernel
theorem dX12_take_29 : decode cX12_take 29 = .ok (.aload_n 0, 1) := by decide +kernel
theorem dX12_take_30 : decode cX12_take 30 = .ok (.iconst 1, 1) := by decide +kernel
theorem dX12_take_31 : decode cX12_take 31 = .ok (.invokevirtual 372, 3) := by decide +kernel
theorem dX12_take_34 : decode cX12_take 34 = .ok (.ireturn, 1) := by decide +kernel
theorem dX12_take_35 : decode cX12_take 35 = .ok (.aload_n 0, 1) := by decide +kernel
theorem dX12_take_36 : decode cX12_take 36 = .ok (.invokevirtual 375, 3) := by decide +kernel
theorem dX12_take_39 : decode cX12_take 39 = .ok (.aload_n 0, 1) := by decide +kernel
theorem dX12_take_40 : decode cX12_take 40 = .ok (.getfield 63, 3) := by decide +kernel
theorem dX12_take_43 : decode cX12_take 43 = .ok (.bipush 31, 2) := by decide +kernel
theorem dX12_take_45 : decode cX12_take 45 = .ok (.iload_n 1, 1) := by decide +kernel
theorem dX12_take_46 : decode cX12_take 46 = .ok (.iadd, 1) := by decide +kernel
theorem dX12_take_47 : decode cX12_take 47 = .ok (.iconst (-1), 1) := by decide +kernel
theorem dX12_take_48 : decode cX12_take 48 = .ok (.iastore, 1) := by decide +kernel
theorem dX12_take_49 : decode cX12_take 49 = .ok (.iload_n 2, 1) := by decide +kernel
theorem dX12_take_50 : decode cX12_take 50 = .ok (.ireturn, 1) := by decide +kernel
theorem dX12_hollow_0 : decode cX12_hollow 0 = .ok (.aload_n 0, 1) := by decide +kernel
theorem dX12_hollow_1 : decode cX12_hollow 1 = .ok (.iconst 0, 1) := by decide +kernel
theorem dX12_hollow_2 : decode cX12_hollow 2 = .ok (.putfield 114, 3) := by decide +kernel
theorem dX12_hollow_5 : decode cX12_hollow 5 = .ok (.aload_n 0, 1) := by decide +kernel
theorem dX12_hollow_6 : decode cX12_hollow 6 = .ok (.iload_n 1, 1) := by decide +kernel
theorem dX12_hollow_7 : decode cX12_hollow 7 = .ok (.invokevirtual 363, 3) := by decide +kernel
theorem dX12_hollow_10 : decode cX12_hollow 10 = .ok (.ifCond .ne 5, 3) := by decide +kernel
theorem dX12_hollow_13 : decode cX12_hollow 13 = .ok (.iconst 0, 1) := by decide +kernel
theorem dX12_hollow_14 : decode cX12_hollow 14 = .ok (.ireturn, 1) := by decide +kernel
theorem dX12_hollow_15 : decode cX12_hollow 15 = .ok (.iload_n 2, 1) := by decide +kernel
theorem dX12_hollow_16 : decode cX12_hollow 16 = .ok (.iconst 1, 1) := by decide +kernel
theorem dX12_hollow_17 : decode cX12_hollow 17 = .ok (.aload_n 0, 1) := by decide +kernel
theorem dX12_hollow_18 : decode cX12_hollow 18 = .ok (.iload_n 1, 1) := by decide +kernel
theorem dX12_hollow_19 : decode cX12_hollow 19 = .ok (.invokevirtual 369, 3) := by decide +kernel
theorem dX12_hollow_22 : decode cX12_hollow 22 = .ok (.invokestatic 240, 3) := by decide +kernel
theorem dX12_hollow_25 : decode cX12_hollow 25 = .ok (.ifCond .ne 9, 3) := by decide +kernel
theorem dX12_hollow_28 : decode cX12_hollow 28 = .ok (.aload_n 0, 1) := by decide +kernel
theorem dX12_hollow_29 : decode cX12_hollow 29 = .ok (.iconst 1, 1) := by decide +kernel
theorem dX12_hollow_30 : decode cX12_hollow 30 = .ok (.invokevirtual 372, 3) := by decide +kernel
theorem dX12_hollow_33 : decode cX12_hollow 33 = .ok (.ireturn, 1) := by decide +kernel
theorem dX12_hollow_34 : decode cX12_hollow 34 = .ok (.aload_n 0, 1) := by decide +kernel
theorem dX12_hollow_35 : decode cX12_hollow 35 = .ok (.invokevirtual 375, 3) := by decide +kernel
theorem dX12_hollow_38 : decode cX12_hollow 38 = .ok (.aload_n 0, 1) := by decide +kernel
theorem dX12_hollow_39 : decode cX12_hollow 39 = .ok (.getfield 63, 3) := by decide +kernel
theorem dX12_hollow_42 : decode cX12_hollow 42 = .ok (.bipush 11, 2) := by decide +kernel
theorem dX12_hollow_44 : decode cX12_hollow 44 = .ok (.iload_n 1, 1) := by decide +kernel
theorem dX12_hollow_45 : decode cX12_hollow 45 = .ok (.iadd, 1) := by decide +kernel
theorem dX12_hollow_46 : decode cX12_hollow 46 = .ok (.dup2, 1) := by decide +kernel
theorem dX12_hollow_47 : decode cX12_hollow 47 = .ok (.iaload, 1) := by decide +kernel
theorem dX12_hollow_48 : decode cX12_hollow 48 = .ok (.iload_n 2, 1) := by decide +kernel
theorem dX12_hollow_49 : decode cX12_hollow 49 = .ok (.iadd, 1) := by decide +kernel
theorem dX12_hollow_50 : decode cX12_hollow 50 = .ok (.iastore, 1) := by decide +kernel
theorem dX12_hollow_51 : decode cX12_hollow 51 = .ok (.aload_n 0, 1) := by decide +kernel
theorem dX12_hollow_52 : decode cX12_hollow 52 = .ok (.iconst 0, 1) := by decide +kernel
theorem dX12_hollow_53 : decode cX12_hollow 53 = .ok (.iload_n 1, 1) := by decide +kernel
theorem dX12_hollow_54 : decode cX12_hollow 54 = .ok (.invokevirtual 348, 3) := by decide +kernel
theorem dX12_hollow_57 : decode cX12_hollow 57 = .ok (.ireturn, 1) := by decide +kernel
theorem dX12_eat_0 : decode cX12_eat 0 = .ok (.aload_n 0, 1) := by decide +kernel
theorem dX12_eat_1 : decode cX12_eat 1 = .ok (.iconst 0, 1) := by decide +kernel
theorem dX12_eat_2 : decode cX12_eat 2 = .ok (.putfield 114, 3) := by decide +kernel
theorem dX12_eat_5 : decode cX12_eat 5 = .ok (.aload_n 0, 1) := by decide +kernel
theorem dX12_eat_6 : decode cX12_eat 6 = .ok (.iload_n 1, 1) := by decide +kernel
theorem dX12_eat_7 : decode cX12_eat 7 = .ok (.invokevirtual 363, 3) := by decide +kernel
theorem dX12_eat_10 : decode cX12_eat 10 = .ok (.ifCond .ne 5, 3) := by decide +kernel
theorem dX12_eat_13 : decode cX12_eat 13 = .ok (.iconst 0, 1) := by decide +kernel
theorem dX12_eat_14 : decode cX12_eat 14 = .ok (.ireturn, 1) := by decide +kernel
theorem dX12_eat_15 : decode cX12_eat 15 = .ok (.aload_n 0, 1) := by decide +kernel
theorem dX12_eat_16 : decode cX12_eat 16 = .ok (.getfield 63, 3) := by decide +kernel
theorem dX12_eat_19 : decode cX12_eat 19 = .ok (.bipush 31, 2) := by decide +kernel
theorem dX12_eat_21 : decode cX12_eat 21 = .ok (.iload_n 1, 1) := by decide +kernel
theorem dX12_eat_22 : decode cX12_eat 22 = .ok (.iadd, 1) := by decide +kernel
theorem dX12_eat_23 : decode cX12_eat 23 = .ok (.iaload, 1) := by decide +kernel
theorem dX12_eat_24 : decode cX12_eat 24 = .ok (.bipush (-2), 2) := by decide +kernel
theorem dX12_eat_26 : decode cX12_eat 26 = .ok (.if_icmp .ne 17, 3) := by decide +kernel
theorem dX12_eat_29 : decode cX12_eat 29 = .ok (.aload_n 0, 1) := by decide +kernel
theorem dX12_eat_30 : decode cX12_eat 30 = .ok (.iconst 1, 1) := by decide +kernel
theorem dX12_eat_31 : decode cX12_eat 31 = .ok (.invokevirtual 372, 3) := by decide +kernel
theorem dX12_eat_34 : decode cX12_eat 34 = .ok (.ifCond .le 7, 3) := by decide +kernel
theorem dX12_eat_37 : decode cX12_eat 37 = .ok (.iconst 1, 1) := by decide +kernel
theorem dX12_eat_38 : decode cX12_eat 38 = .ok (.goto 4, 3) := by decide +kernel
theorem dX12_eat_41 : decode cX12_eat 41 = .ok (.iconst 0, 1) := by decide +kernel
theorem dX12_eat_42 : decode cX12_eat 42 = .ok (.ireturn, 1) := by decide +kernel
theorem dX12_eat_43 : decode cX12_eat 43 = .ok (.aload_n 0, 1) := by decide +kernel
theorem dX12_eat_44 : decode cX12_eat 44 = .ok (.invokevirtual 375, 3) := by decide +kernel
theorem dX12_eat_47 : decode cX12_eat 47 = .ok (.aload_n 0, 1) := by decide +kernel
theorem dX12_eat_48 : decode cX12_eat 48 = .ok (.getfield 63, 3) := by decide +kernel
theorem dX12_eat_51 : decode cX12_eat 51 = .ok (.bipush 31, 2) := by decide +kernel
theorem dX12_eat_53 : decode cX12_eat 53 = .ok (.iload_n 1, 1) := by decide +kernel
theorem dX12_eat_54 : decode cX12_eat 54 = .ok (.iadd, 1) := by decide +kernel
theorem dX12_eat_55 : decode cX12_eat 55 = .ok (.bipush (-2), 2) := by decide +kernel
theorem dX12_eat_57 : decode cX12_eat 57 = .ok (.iastore, 1) := by decide +kernel
theorem dX12_eat_58 : decode cX12_eat 58 = .ok (.iconst 1, 1) := by decide +kernel
theorem dX12_eat_59 : decode cX12_eat 59 = .ok (.ireturn, 1) := by decide +kernel
theorem dX12_alter_0 : decode cX12_alter 0 = .ok (.aload_n 0, 1) := by decide +kernel
theorem dX12_alter_1 : decode cX12_alter 1 = .ok (.iconst 0, 1) := by decide +kernel
theorem dX12_alter_2 : decode cX12_alter 2 = .ok (.putfield 114, 3) := by decide +kernel
theorem dX12_alter_5 : decode cX12_alter 5 = .ok (.aload_n 0, 1) := by decide +kernel
theorem dX12_alter_6 : decode cX12_alter 6 = .ok (.iload_n 1, 1) := by decide +kernel
theorem dX12_alter_7 : decode cX12_alter 7 = .ok (.ifCond .lt 15, 3) := by decide +kernel
theorem dX12_alter_10 : decode cX12_alter 10 = .ok (.iload_n 1, 1) := by decide +kernel
theorem dX12_alter_11 : decode cX12_alter 11 = .ok (.aload_n 0, 1) := by decide +kernel
theorem dX12_alter_12 : decode cX12_alter 12 = .ok (.getfield 298, 3) := by decide +kernel
theorem dX12_alter_15 : decode cX12_alter 15 = .ok (.if_icmp .ge 7, 3) := by decide +kernel
theorem dX12_alter_18 : decode cX12_alter 18 = .ok (.iconst 1, 1) := by decide +kernel
theorem dX12_alter_19 : decode cX12_alter 19 = .ok (.goto 4, 3) := by decide +kernel
theorem dX12_alter_22 : decode cX12_alter 22 = .ok (.iconst 0, 1) := by decide +kernel
theorem dX12_alter_23 : decode cX12_alter 23 = .ok (.iconst 1, 1) := by decide +kernel
theorem dX12_alter_24 : decode cX12_alter 24 = .ok (.invokevirtual 282, 3) := by decide +kernel
theorem dX12_alter_27 : decode cX12_alter 27 = .ok (.ifCond .ne 5, 3) := by decide +kernel
theorem dX12_alter_30 : decode cX12_alter 30 = .ok (.iconst 0, 1) := by decide +kernel
theorem dX12_alter_31 : decode cX12_alter 31 = .ok (.ireturn, 1) := by decide +kernel
theorem dX12_alter_32 : decode cX12_alter 32 = .ok (.iload_n 2, 1) := by decide +kernel
theorem dX12_alter_33 : decode cX12_alter 33 = .ok (.invokestatic 244, 3) := by decide +kernel
theorem dX12_alter_36 : decode cX12_alter 36 = .ok (.ifCond .ne 9, 3) := by decide +kernel
theorem dX12_alter_39 : decode cX12_alter 39 = .ok (.aload_n 0, 1) := by decide +kernel
theorem dX12_alter_40 : decode cX12_alter 40 = .ok (.iconst 1, 1) := by decide +kernel
theorem dX12_alter_41 : decode cX12_alter 41 = .ok (.invokevirtual 372, 3) := by decide +kernel
theorem dX12_alter_44 : decode cX12_alter 44 = .ok (.ireturn, 1) := by decide +kernel
theorem dX12_alter_45 : decode cX12_alter 45 = .ok (.aload_n 0, 1) := by decide +kernel
theorem dX12_alter_46 : decode cX12_alter 46 = .ok (.invokevirtual 375, 3) := by decide +kernel
theorem dX12_alter_49 : decode cX12_alter 49 = .ok (.aload_n 0, 1) := by decide +kernel
theorem dX12_alter_50 : decode cX12_alter 50 = .ok (.getfield 63, 3) := by decide +kernel
theorem dX12_alter_53 : decode cX12_alter 53 = .ok (.bipush 41, 2) := by decide +kernel
theorem dX12_alter_55 : decode cX12_alter 55 = .ok (.iload_n 1, 1) := by decide +kernel
theorem dX12_alter_56 : decode cX12_alter 56 = .ok (.iadd, 1) := by decide +kernel
theorem dX12_alter_57 : decode cX12_alter 57 = .ok (.iaload, 1) := by decide +kernel
theorem dX12_alter_58 : decode cX12_alter 58 = .ok (.istore_n 3, 1) := by decide +kernel
theorem dX12_alter_59 : decode cX12_alter 59 = .ok (.aload_n 0, 1) := by decide +kernel
theorem dX12_alter_60 : decode cX12_alter 60 = .ok (.getfield 63, 3) := by decide +kernel
theorem dX12_alter_63 : decode cX12_alter 63 = .ok (.bipush 41, 2) := by decide +kernel
theorem dX12_alter_65 : decode cX12_alter 65 = .ok (.iload_n 1, 1) := by decide +kernel
theorem dX12_alter_66 : decode cX12_alter 66 = .ok (.iadd, 1) := by decide +kernel
theorem dX12_alter_67 : decode cX12_alter 67 = .ok (.iload_n 2, 1) := by decide +kernel
theorem dX12_alter_68 : decode cX12_alter 68 = .ok (.iastore, 1) := by decide +kernel
theorem dX12_alter_69 : decode cX12_alter 69 = .ok (.iload_n 3, 1) := by decide +kernel
theorem dX12_alter_70 : decode cX12_alter 70 = .ok (.ireturn, 1) := by decide +kernel
theorem dX12_isDays_0 : decode cX12_isDays 0 = .ok (.aload_n 0, 1) := by decide +kernel
theorem dX12_isDays_1 : decode cX12_isDays 1 = .ok (.iload_n 1, 1) := by decide +kernel
theorem dX12_isDays_2 : decode cX12_isDays 2 = .ok (.iconst 0, 1) := by decide +kernel
theorem dX12_isDays_3 : decode cX12_isDays 3 = .ok (.bipush 60, 2) := by decide +kernel
theorem dX12_isDays_5 : decode cX12_isDays 5 = .ok (.invokestatic 240, 3) := by decide +kernel
theorem dX12_isDays_8 : decode cX12_isDays 8 = .ok (.iload_n 2, 1) := by decide +kernel
theorem dX12_isDays_9 : decode cX12_isDays 9 = .ok (.invokevirtual 282, 3) := by decide +kernel
theorem dX12_isDays_12 : decode cX12_isDays 12 = .ok (.ireturn, 1) := by decide +kernel
theorem dX12_then_0 : decode cX12_then 0 = .ok (.aload_n 0, 1) := by decide +kernel
theorem dX12_then_1 : decode cX12_then 1 = .ok (.iconst 0, 1) := by decide +kernel
theorem dX12_then_2 : decode cX12_then 2 = .ok (.putfield 114, 3) := by decide +kernel
theorem dX12_then_5 : decode cX12_then 5 = .ok (.aload_n 0, 1) := by decide +kernel
theorem dX12_then_6 : decode cX12_then 6 = .ok (.iload_n 1, 1) := by decide +kernel
theorem dX12_then_7 : decode cX12_then 7 = .ok (.invokevirtual 363, 3) := by decide +kernel
theorem dX12_then_10 : decode cX12_then 10 = .ok (.ifCond .eq 12, 3) := by decide +kernel
theorem dX12_then_13 : decode cX12_then 13 = .ok (.aload_n 0, 1) := by decide +kernel
theorem dX12_then_14 : decode cX12_then 14 = .ok (.iload_n 2, 1) := by decide +kernel
theorem dX12_then_15 : decode cX12_then 15 = .ok (.iconst 2, 1) := by decide +kernel
theorem dX12_then_16 : decode cX12_then 16 = .ok (.invokevirtual 378, 3) := by decide +kernel
theorem dX12_then_19 : decode cX12_then 19 = .ok (.ifCond .ne 5, 3) := by decide +kernel
theorem dX12_then_22 : decode cX12_then 22 = .ok (.iconst 0, 1) := by decide +kernel
theorem dX12_then_23 : decode cX12_then 23 = .ok (.ireturn, 1) := by decide +kernel
theorem dX12_then_24 : decode cX12_then 24 = .ok (.aload_n 0, 1) := by decide +kernel
theorem dX12_then_25 : decode cX12_then 25 = .ok (.iload_n 2, 1) := by decide +kernel
theorem dX12_then_26 : decode cX12_then 26 = .ok (.invokevirtual 381, 3) := by decide +kernel
theorem dX12_then_29 : decode cX12_then 29 = .ok (.aload_n 0, 1) := by decide +kernel
theorem dX12_then_30 : decode cX12_then 30 = .ok (.bipush 53, 2) := by decide +kernel
theorem dX12_then_32 : decode cX12_then 32 = .ok (.iload_n 1, 1) := by decide +kernel
theorem dX12_then_33 : decode cX12_then 33 = .ok (.invokevirtual 348, 3) := by decide +kernel
theorem dX12_then_36 : decode cX12_then 36 = .ok (.ireturn, 1) := by decide +kernel
theorem dX12_softIn_0 : decode cX12_softIn 0 = .ok (.aload_n 0, 1) := by decide +kernel
theorem dX12_softIn_1 : decode cX12_softIn 1 = .ok (.invokevirtual 339, 3) := by decide +kernel
theorem dX12_softIn_4 : decode cX12_softIn 4 = .ok (.iconst 0, 1) := by decide +kernel
theorem dX12_softIn_5 : decode cX12_softIn 5 = .ok (.istore_n 2, 1) := by decide +kernel
theorem dX12_softIn_6 : decode cX12_softIn 6 = .ok (.iload_n 2, 1) := by decide +kernel
theorem dX12_softIn_7 : decode cX12_softIn 7 = .ok (.bipush 60, 2) := by decide +kernel
theorem dX12_softIn_9 : decode cX12_softIn 9 = .ok (.if_icmp .gt 33, 3) := by decide +kernel
theorem dX12_softIn_12 : decode cX12_softIn 12 = .ok (.aload_n 0, 1) := by decide +kernel
theorem dX12_softIn_13 : decode cX12_softIn 13 = .ok (.getfield 63, 3) := by decide +kernel
theorem dX12_softIn_16 : decode cX12_softIn 16 = .ok (.bipush 74, 2) := by decide +kernel
theorem dX12_softIn_18 : decode cX12_softIn 18 = .ok (.iload_n 1, 1) := by decide +kernel
theorem dX12_softIn_19 : decode cX12_softIn 19 = .ok (.iadd, 1) := by decide +kernel
theorem dX12_softIn_20 : decode cX12_softIn 20 = .ok (.iaload, 1) := by decide +kernel
theorem dX12_softIn_21 : decode cX12_softIn 21 = .ok (.aload_n 0, 1) := by decide +kernel
theorem dX12_softIn_22 : decode cX12_softIn 22 = .ok (.getfield 7, 3) := by decide +kernel
theorem dX12_softIn_25 : decode cX12_softIn 25 = .ok (.if_icmp .lt 5, 3) := by decide +kernel
theorem dX12_softIn_28 : decode cX12_softIn 28 = .ok (.iload_n 2, 1) := by decide +kernel
theorem dX12_softIn_29 : decode cX12_softIn 29 = .ok (.ireturn, 1) := by decide +kernel
theorem dX12_softIn_30 : decode cX12_softIn 30 = .ok (.aload_n 0, 1) := by decide +kernel
theorem dX12_softIn_31 : decode cX12_softIn 31 = .ok (.bipush 53, 2) := by decide +kernel
theorem dX12_softIn_33 : decode cX12_softIn 33 = .ok (.invokevirtual 342, 3) := by decide +kernel
theorem dX12_softIn_36 : decode cX12_softIn 36 = .ok (.iinc 2 1, 3) := by decide +kernel
theorem dX12_softIn_39 : decode cX12_softIn 39 = .ok (.goto (-33), 3) := by decide +kernel
theorem dX12_softIn_42 : decode cX12_softIn 42 = .ok (.sipush 9999, 3) := by decide +kernel
theorem dX12_softIn_45 : decode cX12_softIn 45 = .ok (.ireturn, 1) := by decide +kernel
theorem dX12_goes_0 : decode cX12_goes 0 = .ok (.aload_n 0, 1) := by decide +kernel
theorem dX12_goes_1 : decode cX12_goes 1 = .ok (.iconst 0, 1) := by decide +kernel
theorem dX12_goes_2 : decode cX12_goes 2 = .ok (.putfield 114, 3) := by decide +kernel
theorem dX12_goes_5 : decode cX12_goes 5 = .ok (.aload_n 0, 1) := by decide +kernel
theorem dX12_goes_6 : decode cX12_goes 6 = .ok (.iload_n 1, 1) := by decide +kernel
theorem dX12_goes_7 : decode cX12_goes 7 = .ok (.invokevirtual 363, 3) := by decide +kernel
theorem dX12_goes_10 : decode cX12_goes 10 = .ok (.ifCond .ne 5, 3) := by decide +kernel
theorem dX12_goes_13 : decode cX12_goes 13 = .ok (.iconst 0, 1) := by decide +kernel
theorem dX12_goes_14 : decode cX12_goes 14 = .ok (.ireturn, 1) := by decide +kernel
theorem dX12_goes_15 : decode cX12_goes 15 = .ok (.aload_n 0, 1) := by decide +kernel
theorem dX12_goes_16 : decode cX12_goes 16 = .ok (.iconst 0, 1) := by decide +kernel
theorem dX12_goes_17 : decode cX12_goes 17 = .ok (.iload_n 1, 1) := by decide +kernel
theorem dX12_goes_18 : decode cX12_goes 18 = .ok (.invokevirtual 322, 3) := by decide +kernel
theorem dX12_goes_21 : decode cX12_goes 21 = .ok (.ifCond .eq 11, 3) := by decide +kernel
theorem dX12_goes_24 : decode cX12_goes 24 = .ok (.aload_n 0, 1) := by decide +kernel
theorem dX12_goes_25 : decode cX12_goes 25 = .ok (.iload_n 1, 1) := by decide +kernel
theorem dX12_goes_26 : decode cX12_goes 26 = .ok (.invokevirtual 384, 3) := by decide +kernel
theorem dX12_goes_29 : decode cX12_goes 29 = .ok (.goto 6, 3) := by decide +kernel
theorem dX12_goes_32 : decode cX12_goes 32 = .ok (.sipush 9999, 3) := by decide +kernel
theorem dX12_goes_35 : decode cX12_goes 35 = .ok (.istore_n 2, 1) := by decide +kernel
theorem dX12_goes_36 : decode cX12_goes 36 = .ok (.iload_n 2, 1) := by decide +kernel
theorem dX12_goes_37 : decode cX12_goes 37 = .ok (.sipush 9999, 3) := by decide +kernel
theorem dX12_goes_40 : decode cX12_goes 40 = .ok (.if_icmp .ne 7, 3) := by decide +kernel
theorem dX12_goes_43 : decode cX12_goes 43 = .ok (.iconst (-1), 1) := by decide +kernel
theorem dX12_goes_44 : decode cX12_goes 44 = .ok (.goto 4, 3) := by decide +kernel
theorem dX12_goes_47 : decode cX12_goes 47 = .ok (.iload_n 2, 1) := by decide +kernel
theorem dX12_goes_48 : decode cX12_goes 48 = .ok (.ireturn, 1) := by decide +kernel
theorem dX12_rings_0 : decode cX12_rings 0 = .ok (.aload_n 0, 1) := by decide +kernel
theorem dX12_rings_1 : decode cX12_rings 1 = .ok (.iconst 0, 1) := by decide +kernel
theorem dX12_rings_2 : decode cX12_rings 2 = .ok (.putfield 114, 3) := by decide +kernel
theorem dX12_rings_5 : decode cX12_rings 5 = .ok (.aload_n 0, 1) := by decide +kernel
theorem dX12_rings_6 : decode cX12_rings 6 = .ok (.iload_n 1, 1) := by decide +kernel
theorem dX12_rings_7 : decode cX12_rings 7 = .ok (.iconst 1, 1) := by decide +kernel
theorem dX12_rings_8 : decode cX12_rings 8 = .ok (.invokevirtual 378, 3) := by decide +kernel
theorem dX12_rings_11 : decode cX12_rings 11 = .ok (.ifCond .ne 5, 3) := by decide +kernel
theorem dX12_rings_14 : decode cX12_rings 14 = .ok (.iconst 0, 1) := by decide +kernel
theorem dX12_rings_15 : decode cX12_rings 15 = .ok (.ireturn, 1) := by decide +kernel
theorem dX12_rings_16 : decode cX12_rings 16 = .ok (.aload_n 0, 1) := by decide +kernel
theorem dX12_rings_17 : decode cX12_rings 17 = .ok (.iload_n 1, 1) := by decide +kernel
theorem dX12_rings_18 : decode cX12_rings 18 = .ok (.invokevirtual 381, 3) := by decide +kernel
theorem dX12_rings_21 : decode cX12_rings 21 = .ok (.aload_n 0, 1) := by decide +kernel
theorem dX12_rings_22 : decode cX12_rings 22 = .ok (.aload_n 0, 1) := by decide +kernel
theorem dX12_rings_23 : decode cX12_rings 23 = .ok (.bipush 53, 2) := by decide +kernel
theorem dX12_rings_25 : decode cX12_rings 25 = .ok (.invokevirtual 360, 3) := by decide +kernel
theorem dX12_rings_28 : decode cX12_rings 28 = .ok (.invokevirtual 387, 3) := by decide +kernel
theorem dX12_rings_31 : decode cX12_rings 31 = .ok (.ireturn, 1) := by decide +kernel
theorem dX12_last_0 : decode cX12_last 0 = .ok (.aload_n 0, 1) := by decide +kernel
theorem dX12_last_1 : decode cX12_last 1 = .ok (.iconst 0, 1) := by decide +kernel
theorem dX12_last_2 : decode cX12_last 2 = .ok (.putfield 114, 3) := by decide +kernel
theorem dX12_last_5 : decode cX12_last 5 = .ok (.iconst (-1), 1) := by decide +kernel
theorem dX12_last_6 : decode cX12_last 6 = .ok (.istore_n 1, 1) := by decide +kernel
theorem dX12_last_7 : decode cX12_last 7 = .ok (.aload_n 0, 1) := by decide +kernel
theorem dX12_last_8 : decode cX12_last 8 = .ok (.invokevirtual 339, 3) := by decide +kernel
theorem dX12_last_11 : decode cX12_last 11 = .ok (.iconst 0, 1) := by decide +kernel
theorem dX12_last_12 : decode cX12_last 12 = .ok (.istore_n 2, 1) := by decide +kernel
theorem dX12_last_13 : decode cX12_last 13 = .ok (.iload_n 2, 1) := by decide +kernel
theorem dX12_last_14 : decode cX12_last 14 = .ok (.bipush 60, 2) := by decide +kernel
theorem dX12_last_16 : decode cX12_last 16 = .ok (.if_icmp .gt 34, 3) := by decide +kernel
theorem dX12_last_19 : decode cX12_last 19 = .ok (.aload_n 0, 1) := by decide +kernel
theorem dX12_last_20 : decode cX12_last 20 = .ok (.aload_n 0, 1) := by decide +kernel
theorem dX12_last_21 : decode cX12_last 21 = .ok (.bipush 53, 2) := by decide +kernel
theorem dX12_last_23 : decode cX12_last 23 = .ok (.invokevirtual 360, 3) := by decide +kernel
theorem dX12_last_26 : decode cX12_last 26 = .ok (.invokevirtual 387, 3) := by decide +kernel
theorem dX12_last_29 : decode cX12_last 29 = .ok (.ifCond .eq 7, 3) := by decide +kernel
theorem dX12_last_32 : decode cX12_last 32 = .ok (.iload_n 2, 1) := by decide +kernel
theorem dX12_last_33 : decode cX12_last 33 = .ok (.goto 4, 3) := by decide +kernel
theorem dX12_last_36 : decode cX12_last 36 = .ok (.iload_n 1, 1) := by decide +kernel
theorem dX12_last_37 : decode cX12_last 37 = .ok (.istore_n 1, 1) := by decide +kernel
theorem dX12_last_38 : decode cX12_last 38 = .ok (.aload_n 0, 1) := by decide +kernel
theorem dX12_last_39 : decode cX12_last 39 = .ok (.bipush 53, 2) := by decide +kernel
theorem dX12_last_41 : decode cX12_last 41 = .ok (.invokevirtual 342, 3) := by decide +kernel
theorem dX12_last_44 : decode cX12_last 44 = .ok (.iinc 2 1, 3) := by decide +kernel
theorem dX12_last_47 : decode cX12_last 47 = .ok (.goto (-34), 3) := by decide +kernel
theorem dX12_last_50 : decode cX12_last 50 = .ok (.iload_n 1, 1) := by decide +kernel
theorem dX12_last_51 : decode cX12_last 51 = .ok (.ireturn, 1) := by decide +kernel
theorem dX12_laysSoft_0 : decode cX12_laysSoft 0 = .ok (.iconst 0, 1) := by decide +kernel
theorem dX12_laysSoft_1 : decode cX12_laysSoft 1 = .ok (.istore_n 1, 1) := by decide +kernel
theorem dX12_laysSoft_2 : decode cX12_laysSoft 2 = .ok (.iload_n 1, 1) := by decide +kernel
theorem dX12_laysSoft_3 : decode cX12_laysSoft 3 = .ok (.aload_n 0, 1) := by decide +kernel
theorem dX12_laysSoft_4 : decode cX12_laysSoft 4 = .ok (.getfield 289, 3) := by decide +kernel
theorem dX12_laysSoft_7 : decode cX12_laysSoft 7 = .ok (.if_icmp .ge 33, 3) := by decide +kernel
theorem dX12_laysSoft_10 : decode cX12_laysSoft 10 = .ok (.aload_n 0, 1) := by decide +kernel
theorem dX12_laysSoft_11 : decode cX12_laysSoft 11 = .ok (.getfield 81, 3) := by decide +kernel
theorem dX12_laysSoft_14 : decode cX12_laysSoft 14 = .ok (.iload_n 1, 1) := by decide +kernel
theorem dX12_laysSoft_15 : decode cX12_laysSoft 15 = .ok (.aload_n 0, 1) := by decide +kernel
theorem dX12_laysSoft_16 : decode cX12_laysSoft 16 = .ok (.iconst 0, 1) := by decide +kernel
theorem dX12_laysSoft_17 : decode cX12_laysSoft 17 = .ok (.iload_n 1, 1) := by decide +kernel
theorem dX12_laysSoft_18 : decode cX12_laysSoft 18 = .ok (.invokevirtual 322, 3) := by decide +kernel
theorem dX12_laysSoft_21 : decode cX12_laysSoft 21 = .ok (.ifCond .eq 11, 3) := by decide +kernel
theorem dX12_laysSoft_24 : decode cX12_laysSoft 24 = .ok (.aload_n 0, 1) := by decide +kernel
theorem dX12_laysSoft_25 : decode cX12_laysSoft 25 = .ok (.iload_n 1, 1) := by decide +kernel
theorem dX12_laysSoft_26 : decode cX12_laysSoft 26 = .ok (.invokevirtual 384, 3) := by decide +kernel
theorem dX12_laysSoft_29 : decode cX12_laysSoft 29 = .ok (.goto 4, 3) := by decide +kernel
theorem dX12_laysSoft_32 : decode cX12_laysSoft 32 = .ok (.iconst (-1), 1) := by decide +kernel
theorem dX12_laysSoft_33 : decode cX12_laysSoft 33 = .ok (.iastore, 1) := by decide +kernel
theorem dX12_laysSoft_34 : decode cX12_laysSoft 34 = .ok (.iinc 1 1, 3) := by decide +kernel
theorem dX12_laysSoft_37 : decode cX12_laysSoft 37 = .ok (.goto (-35), 3) := by decide +kernel
theorem dX12_laysSoft_40 : decode cX12_laysSoft 40 = .ok (.return_, 1) := by decide +kernel
theorem dX12_soft_0 : decode cX12_soft 0 = .ok (.aload_n 0, 1) := by decide +kernel
theorem dX12_soft_1 : decode cX12_soft 1 = .ok (.iconst 0, 1) := by decide +kernel
theorem dX12_soft_2 : decode cX12_soft 2 = .ok (.putfield 114, 3) := by decide +kernel
theorem dX12_soft_5 : decode cX12_soft 5 = .ok (.aload_n 0, 1) := by decide +kernel
theorem dX12_soft_6 : decode cX12_soft 6 = .ok (.invokevirtual 390, 3) := by decide +kernel
theorem dX12_soft_9 : decode cX12_soft 9 = .ok (.iconst (-1), 1) := by decide +kernel
theorem dX12_soft_10 : decode cX12_soft 10 = .ok (.istore_n 1, 1) := by decide +kernel
theorem dX12_soft_11 : decode cX12_soft 11 = .ok (.iconst 0, 1) := by decide +kernel
theorem dX12_soft_12 : decode cX12_soft 12 = .ok (.istore_n 2, 1) := by decide +kernel
theorem dX12_soft_13 : decode cX12_soft 13 = .ok (.iload_n 2, 1) := by decide +kernel
theorem dX12_soft_14 : decode cX12_soft 14 = .ok (.aload_n 0, 1) := by decide +kernel
theorem dX12_soft_15 : decode cX12_soft 15 = .ok (.getfield 289, 3) := by decide +kernel
theorem dX12_soft_18 : decode cX12_soft 18 = .ok (.if_icmp .ge 53, 3) := by decide +kernel
theorem dX12_soft_21 : decode cX12_soft 21 = .ok (.aload_n 0, 1) := by decide +kernel
theorem dX12_soft_22 : decode cX12_soft 22 = .ok (.getfield 81, 3) := by decide +kernel
theorem dX12_soft_25 : decode cX12_soft 25 = .ok (.iload_n 2, 1) := by decide +kernel
theorem dX12_soft_26 : decode cX12_soft 26 = .ok (.iaload, 1) := by decide +kernel
theorem dX12_soft_27 : decode cX12_soft 27 = .ok (.iconst (-1), 1) := by decide +kernel
theorem dX12_soft_28 : decode cX12_soft 28 = .ok (.if_icmp .eq 37, 3) := by decide +kernel
theorem dX12_soft_31 : decode cX12_soft 31 = .ok (.aload_n 0, 1) := by decide +kernel
theorem dX12_soft_32 : decode cX12_soft 32 = .ok (.getfield 81, 3) := by decide +kernel
theorem dX12_soft_35 : decode cX12_soft 35 = .ok (.iload_n 2, 1) := by decide +kernel
theorem dX12_soft_36 : decode cX12_soft 36 = .ok (.iaload, 1) := by decide +kernel
theorem dX12_soft_37 : decode cX12_soft 37 = .ok (.sipush 9999, 3) := by decide +kernel
theorem dX12_soft_40 : decode cX12_soft 40 = .ok (.if_icmp .eq 25, 3) := by decide +kernel
theorem dX12_soft_43 : decode cX12_soft 43 = .ok (.iload_n 1, 1) := by decide +kernel
theorem dX12_soft_44 : decode cX12_soft 44 = .ok (.iconst (-1), 1) := by decide +kernel
theorem dX12_soft_45 : decode cX12_soft 45 = .ok (.if_icmp .eq 18, 3) := by decide +kernel
theorem dX12_soft_48 : decode cX12_soft 48 = .ok (.aload_n 0, 1) := by decide +kernel
theorem dX12_soft_49 : decode cX12_soft 49 = .ok (.getfield 81, 3) := by decide +kernel
theorem dX12_soft_52 : decode cX12_soft 52 = .ok (.iload_n 2, 1) := by decide +kernel
theorem dX12_soft_53 : decode cX12_soft 53 = .ok (.iaload, 1) := by decide +kernel
theorem dX12_soft_54 : decode cX12_soft 54 = .ok (.aload_n 0, 1) := by decide +kernel
theorem dX12_soft_55 : decode cX12_soft 55 = .ok (.getfield 81, 3) := by decide +kernel
theorem dX12_soft_58 : decode cX12_soft 58 = .ok (.iload_n 1, 1) := by decide +kernel
theorem dX12_soft_59 : decode cX12_soft 59 = .ok (.iaload, 1) := by decide +kernel
theorem dX12_soft_60 : decode cX12_soft 60 = .ok (.if_icmp .ge 5, 3) := by decide +kernel
theorem dX12_soft_63 : decode cX12_soft 63 = .ok (.iload_n 2, 1) := by decide +kernel
theorem dX12_soft_64 : decode cX12_soft 64 = .ok (.istore_n 1, 1) := by decide +kernel
theorem dX12_soft_65 : decode cX12_soft 65 = .ok (.iinc 2 1, 3) := by decide +kernel
theorem dX12_soft_68 : decode cX12_soft 68 = .ok (.goto (-55), 3) := by decide +kernel
theorem dX12_soft_71 : decode cX12_soft 71 = .ok (.iload_n 1, 1) := by decide +kernel
theorem dX12_soft_72 : decode cX12_soft 72 = .ok (.ireturn, 1) := by decide +kernel
theorem dX12_order_0 : decode cX12_order 0 = .ok (.aload_n 0, 1) := by decide +kernel
theorem dX12_order_1 : decode cX12_order 1 = .ok (.iconst 0, 1) := by decide +kernel
theorem dX12_order_2 : decode cX12_order 2 = .ok (.putfield 114, 3) := by decide +kernel
theorem dX12_order_5 : decode cX12_order 5 = .ok (.aload_n 0, 1) := by decide +kernel
theorem dX12_order_6 : decode cX12_order 6 = .ok (.invokevirtual 354, 3) := by decide +kernel
theorem dX12_order_9 : decode cX12_order 9 = .ok (.istore_n 2, 1) := by decide +kernel
theorem dX12_order_10 : decode cX12_order 10 = .ok (.aload_n 0, 1) := by decide +kernel
theorem dX12_order_11 : decode cX12_order 11 = .ok (.iload_n 1, 1) := by decide +kernel
theorem dX12_order_12 : decode cX12_order 12 = .ok (.ifCond .lt 12, 3) := by decide +kernel
theorem dX12_order_15 : decode cX12_order 15 = .ok (.iload_n 1, 1) := by decide +kernel
theorem dX12_order_16 : decode cX12_order 16 = .ok (.iload_n 2, 1) := by decide +kernel
theorem dX12_order_17 : decode cX12_order 17 = .ok (.if_icmp .ge 7, 3) := by decide +kernel
theorem dX12_order_20 : decode cX12_order 20 = .ok (.iconst 1, 1) := by decide +kernel
theorem dX12_order_21 : decode cX12_order 21 = .ok (.goto 4, 3) := by decide +kernel
theorem dX12_order_24 : decode cX12_order 24 = .ok (.iconst 0, 1) := by decide +kernel
theorem dX12_order_25 : decode cX12_order 25 = .ok (.iconst 1, 1) := by decide +kernel
theorem dX12_order_26 : decode cX12_order 26 = .ok (.invokevirtual 282, 3) := by decide +kernel
theorem dX12_order_29 : decode cX12_order 29 = .ok (.ifCond .ne 5, 3) := by decide +kernel
theorem dX12_order_32 : decode cX12_order 32 = .ok (.iconst 0, 1) := by decide +kernel
theorem dX12_order_33 : decode cX12_order 33 = .ok (.ireturn, 1) := by decide +kernel
theorem dX12_order_34 : decode cX12_order 34 = .ok (.aload_n 0, 1) := by decide +kernel
theorem dX12_order_35 : decode cX12_order 35 = .ok (.invokevirtual 390, 3) := by decide +kernel
theorem dX12_order_38 : decode cX12_order 38 = .ok (.iconst 0, 1) := by decide +kernel
theorem dX12_order_39 : decode cX12_order 39 = .ok (.istore_n 3, 1) := by decide +kernel
theorem dX12_order_40 : decode cX12_order 40 = .ok (.iload_n 3, 1) := by decide +kernel
theorem dX12_order_41 : decode cX12_order 41 = .ok (.aload_n 0, 1) := by decide +kernel
theorem dX12_order_42 : decode cX12_order 42 = .ok (.getfield 289, 3) := by decide +kernel
theorem dX12_order_45 : decode cX12_order 45 = .ok (.if_icmp .ge 110, 3) := by decide +kernel
theorem dX12_order_48 : decode cX12_order 48 = .ok (.aload_n 0, 1) := by decide +kernel
theorem dX12_order_49 : decode cX12_order 49 = .ok (.getfield 81, 3) := by decide +kernel
theorem dX12_order_52 : decode cX12_order 52 = .ok (.iload_n 3, 1) := by decide +kernel
theorem dX12_order_53 : decode cX12_order 53 = .ok (.iaload, 1) := by decide +kernel
theorem dX12_order_54 : decode cX12_order 54 = .ok (.iconst (-1), 1) := by decide +kernel
theorem dX12_order_55 : decode cX12_order 55 = .ok (.if_icmp .ne 6, 3) := by decide +kernel
theorem dX12_order_58 : decode cX12_order 58 = .ok (.goto 91, 3) := by decide +kernel
theorem dX12_order_61 : decode cX12_order 61 = .ok (.iconst 0, 1) := by decide +kernel
theorem dX12_order_62 : decode cX12_order 62 = .ok (.istore 4, 2) := by decide +kernel
theorem dX12_order_64 : decode cX12_order 64 = .ok (.iconst 0, 1) := by decide +kernel
theorem dX12_order_65 : decode cX12_order 65 = .ok (.istore 5, 2) := by decide +kernel
theorem dX12_order_67 : decode cX12_order 67 = .ok (.iload 5, 2) := by decide +kernel
theorem dX12_order_69 : decode cX12_order 69 = .ok (.aload_n 0, 1) := by decide +kernel
theorem dX12_order_70 : decode cX12_order 70 = .ok (.getfield 289, 3) := by decide +kernel
theorem dX12_order_73 : decode cX12_order 73 = .ok (.if_icmp .ge 68, 3) := by decide +kernel
theorem dX12_order_76 : decode cX12_order 76 = .ok (.iload 4, 2) := by decide +kernel
theorem dX12_order_78 : decode cX12_order 78 = .ok (.aload_n 0, 1) := by decide +kernel
theorem dX12_order_79 : decode cX12_order 79 = .ok (.getfield 81, 3) := by decide +kernel
theorem dX12_order_82 : decode cX12_order 82 = .ok (.iload 5, 2) := by decide +kernel
theorem dX12_order_84 : decode cX12_order 84 = .ok (.iaload, 1) := by decide +kernel
theorem dX12_order_85 : decode cX12_order 85 = .ok (.iconst (-1), 1) := by decide +kernel
theorem dX12_order_86 : decode cX12_order 86 = .ok (.if_icmp .eq 45, 3) := by decide +kernel
theorem dX12_order_89 : decode cX12_order 89 = .ok (.aload_n 0, 1) := by decide +kernel
theorem dX12_order_90 : decode cX12_order 90 = .ok (.getfield 81, 3) := by decide +kernel
theorem dX12_order_93 : decode cX12_order 93 = .ok (.iload 5, 2) := by decide +kernel
theorem dX12_order_95 : decode cX12_order 95 = .ok (.iaload, 1) := by decide +kernel
theorem dX12_order_96 : decode cX12_order 96 = .ok (.aload_n 0, 1) := by decide +kernel
theorem dX12_order_97 : decode cX12_order 97 = .ok (.getfield 81, 3) := by decide +kernel
theorem dX12_order_100 : decode cX12_order 100 = .ok (.iload_n 3, 1) := by decide +kernel
theorem dX12_order_101 : decode cX12_order 101 = .ok (.iaload, 1) := by decide +kernel
theorem dX12_order_102 : decode cX12_order 102 = .ok (.if_icmp .lt 25, 3) := by decide +kernel
theorem dX12_order_105 : decode cX12_order 105 = .ok (.aload_n 0, 1) := by decide +kernel
theorem dX12_order_106 : decode cX12_order 106 = .ok (.getfield 81, 3) := by decide +kernel
theorem dX12_order_109 : decode cX12_order 109 = .ok (.iload 5, 2) := by decide +kernel
theorem dX12_order_111 : decode cX12_order 111 = .ok (.iaload, 1) := by decide +kernel
theorem dX12_order_112 : decode cX12_order 112 = .ok (.aload_n 0, 1) := by decide +kernel
theorem dX12_order_113 : decode cX12_order 113 = .ok (.getfield 81, 3) := by decide +kernel
theorem dX12_order_116 : decode cX12_order 116 = .ok (.iload_n 3, 1) := by decide +kernel
theorem dX12_order_117 : decode cX12_order 117 = .ok (.iaload, 1) := by decide +kernel
theorem dX12_order_118 : decode cX12_order 118 = .ok (.if_icmp .ne 13, 3) := by decide +kernel
theorem dX12_order_121 : decode cX12_order 121 = .ok (.iload 5, 2) := by decide +kernel
theorem dX12_order_123 : decode cX12_order 123 = .ok (.iload_n 3, 1) := by decide +kernel
theorem dX12_order_124 : decode cX12_order 124 = .ok (.if_icmp .ge 7, 3) := by decide +kernel
theorem dX12_order_127 : decode cX12_order 127 = .ok (.iconst 1, 1) := by decide +kernel
theorem dX12_order_128 : decode cX12_order 128 = .ok (.goto 4, 3) := by decide +kernel
theorem dX12_order_131 : decode cX12_order 131 = .ok (.iconst 0, 1) := by decide +kernel
theorem dX12_order_132 : decode cX12_order 132 = .ok (.iadd, 1) := by decide +kernel
theorem dX12_order_133 : decode cX12_order 133 = .ok (.istore 4, 2) := by decide +kernel
theorem dX12_order_135 : decode cX12_order 135 = .ok (.iinc 5 1, 3) := by decide +kernel
theorem dX12_order_138 : decode cX12_order 138 = .ok (.goto (-71), 3) := by decide +kernel
theorem dX12_order_141 : decode cX12_order 141 = .ok (.iload 4, 2) := by decide +kernel
theorem dX12_order_143 : decode cX12_order 143 = .ok (.iload_n 1, 1) := by decide +kernel
theorem dX12_order_144 : decode cX12_order 144 = .ok (.if_icmp .ne 5, 3) := by decide +kernel
theorem dX12_order_147 : decode cX12_order 147 = .ok (.iload_n 3, 1) := by decide +kernel
theorem dX12_order_148 : decode cX12_order 148 = .ok (.ireturn, 1) := by decide +kernel
theorem dX12_order_149 : decode cX12_order 149 = .ok (.iinc 3 1, 3) := by decide +kernel
theorem dX12_order_152 : decode cX12_order 152 = .ok (.goto (-112), 3) := by decide +kernel
theorem dX12_order_155 : decode cX12_order 155 = .ok (.iconst 0, 1) := by decide +kernel
theorem dX12_order_156 : decode cX12_order 156 = .ok (.ireturn, 1) := by decide +kernel
theorem dX12_rounds_0 : decode cX12_rounds 0 = .ok (.iconst 0, 1) := by decide +kernel
theorem dX12_rounds_1 : decode cX12_rounds 1 = .ok (.istore_n 1, 1) := by decide +kernel
theorem dX12_rounds_2 : decode cX12_rounds 2 = .ok (.iload_n 1, 1) := by decide +kernel
theorem dX12_rounds_3 : decode cX12_rounds 3 = .ok (.bipush 6, 2) := by decide +kernel
theorem dX12_rounds_5 : decode cX12_rounds 5 = .ok (.if_icmp .ge 16, 3) := by decide +kernel
theorem dX12_rounds_8 : decode cX12_rounds 8 = .ok (.aload_n 0, 1) := by decide +kernel
theorem dX12_rounds_9 : decode cX12_rounds 9 = .ok (.getfield 84, 3) := by decide +kernel
theorem dX12_rounds_12 : decode cX12_rounds 12 = .ok (.iload_n 1, 1) := by decide +kernel
theorem dX12_rounds_13 : decode cX12_rounds 13 = .ok (.iload_n 1, 1) := by decide +kernel
theorem dX12_rounds_14 : decode cX12_rounds 14 = .ok (.iastore, 1) := by decide +kernel
theorem dX12_rounds_15 : decode cX12_rounds 15 = .ok (.iinc 1 1, 3) := by decide +kernel
theorem dX12_rounds_18 : decode cX12_rounds 18 = .ok (.goto (-16), 3) := by decide +kernel
theorem dX12_rounds_21 : decode cX12_rounds 21 = .ok (.return_, 1) := by decide +kernel
theorem dX12_rings0_0 : decode cX12_rings0 0 = .ok (.iconst 0, 1) := by decide +kernel
theorem dX12_rings0_1 : decode cX12_rings0 1 = .ok (.istore_n 3, 1) := by decide +kernel
theorem dX12_rings0_2 : decode cX12_rings0 2 = .ok (.iload_n 3, 1) := by decide +kernel
theorem dX12_rings0_3 : decode cX12_rings0 3 = .ok (.iconst 1, 1) := by decide +kernel
theorem dX12_rings0_4 : decode cX12_rings0 4 = .ok (.iadd, 1) := by decide +kernel
theorem dX12_rings0_5 : decode cX12_rings0 5 = .ok (.iload_n 2, 1) := by decide +kernel
theorem dX12_rings0_6 : decode cX12_rings0 6 = .ok (.if_icmp .ge 52, 3) := by decide +kernel
theorem dX12_rings0_9 : decode cX12_rings0 9 = .ok (.iload_n 1, 1) := by decide +kernel
theorem dX12_rings0_10 : decode cX12_rings0 10 = .ok (.iload_n 3, 1) := by decide +kernel
theorem dX12_rings0_11 : decode cX12_rings0 11 = .ok (.ishr, 1) := by decide +kernel
theorem dX12_rings0_12 : decode cX12_rings0 12 = .ok (.iconst 1, 1) := by decide +kernel
theorem dX12_rings0_13 : decode cX12_rings0 13 = .ok (.iand, 1) := by decide +kernel
theorem dX12_rings0_14 : decode cX12_rings0 14 = .ok (.ifCond .ne 6, 3) := by decide +kernel
theorem dX12_rings0_17 : decode cX12_rings0 17 = .ok (.goto 35, 3) := by decide +kernel
theorem dX12_rings0_20 : decode cX12_rings0 20 = .ok (.aload_n 0, 1) := by decide +kernel
theorem dX12_rings0_21 : decode cX12_rings0 21 = .ok (.getfield 84, 3) := by decide +kernel
theorem dX12_rings0_24 : decode cX12_rings0 24 = .ok (.iload_n 3, 1) := by decide +kernel
theorem dX12_rings0_25 : decode cX12_rings0 25 = .ok (.iaload, 1) := by decide +kernel
theorem dX12_rings0_26 : decode cX12_rings0 26 = .ok (.istore 4, 2) := by decide +kernel
theorem dX12_rings0_28 : decode cX12_rings0 28 = .ok (.aload_n 0, 1) := by decide +kernel
theorem dX12_rings0_29 : decode cX12_rings0 29 = .ok (.getfield 84, 3) := by decide +kernel
theorem dX12_rings0_32 : decode cX12_rings0 32 = .ok (.iload_n 3, 1) := by decide +kernel
theorem dX12_rings0_33 : decode cX12_rings0 33 = .ok (.aload_n 0, 1) := by decide +kernel
theorem dX12_rings0_34 : decode cX12_rings0 34 = .ok (.getfield 84, 3) := by decide +kernel
theorem dX12_rings0_37 : decode cX12_rings0 37 = .ok (.iload_n 3, 1) := by decide +kernel
theorem dX12_rings0_38 : decode cX12_rings0 38 = .ok (.iconst 1, 1) := by decide +kernel
theorem dX12_rings0_39 : decode cX12_rings0 39 = .ok (.iadd, 1) := by decide +kernel
theorem dX12_rings0_40 : decode cX12_rings0 40 = .ok (.iaload, 1) := by decide +kernel
theorem dX12_rings0_41 : decode cX12_rings0 41 = .ok (.iastore, 1) := by decide +kernel
theorem dX12_rings0_42 : decode cX12_rings0 42 = .ok (.aload_n 0, 1) := by decide +kernel
theorem dX12_rings0_43 : decode cX12_rings0 43 = .ok (.getfield 84, 3) := by decide +kernel
theorem dX12_rings0_46 : decode cX12_rings0 46 = .ok (.iload_n 3, 1) := by decide +kernel
theorem dX12_rings0_47 : decode cX12_rings0 47 = .ok (.iconst 1, 1) := by decide +kernel
theorem dX12_rings0_48 : decode cX12_rings0 48 = .ok (.iadd, 1) := by decide +kernel
theorem dX12_rings0_49 : decode cX12_rings0 49 = .ok (.iload 4, 2) := by decide +kernel
theorem dX12_rings0_51 : decode cX12_rings0 51 = .ok (.iastore, 1) := by decide +kernel
theorem dX12_rings0_52 : decode cX12_rings0 52 = .ok (.iinc 3 1, 3) := by decide +kernel
theorem dX12_rings0_55 : decode cX12_rings0 55 = .ok (.goto (-53), 3) := by decide +kernel
theorem dX12_rings0_58 : decode cX12_rings0 58 = .ok (.return_, 1) := by decide +kernel
theorem dX12_rowNumber_0 : decode cX12_rowNumber 0 = .ok (.iconst 0, 1) := by decide +kernel
theorem dX12_rowNumber_1 : decode cX12_rowNumber 1 = .ok (.istore_n 2, 1) := by decide +kernel
theorem dX12_rowNumber_2 : decode cX12_rowNumber 2 = .ok (.iconst 0, 1) := by decide +kernel
theorem dX12_rowNumber_3 : decode cX12_rowNumber 3 = .ok (.istore_n 3, 1) := by decide +kernel
theorem dX12_rowNumber_4 : decode cX12_rowNumber 4 = .ok (.iload_n 3, 1) := by decide +kernel
theorem dX12_rowNumber_5 : decode cX12_rowNumber 5 = .ok (.iload_n 1, 1) := by decide +kernel
theorem dX12_rowNumber_6 : decode cX12_rowNumber 6 = .ok (.if_icmp .ge 21, 3) := by decide +kernel
theorem dX12_rowNumber_9 : decode cX12_rowNumber 9 = .ok (.bipush 10, 2) := by decide +kernel
theorem dX12_rowNumber_11 : decode cX12_rowNumber 11 = .ok (.iload_n 2, 1) := by decide +kernel
theorem dX12_rowNumber_12 : decode cX12_rowNumber 12 = .ok (.imul, 1) := by decide +kernel
theorem dX12_rowNumber_13 : decode cX12_rowNumber 13 = .ok (.aload_n 0, 1) := by decide +kernel
theorem dX12_rowNumber_14 : decode cX12_rowNumber 14 = .ok (.getfield 84, 3) := by decide +kernel
theorem dX12_rowNumber_17 : decode cX12_rowNumber 17 = .ok (.iload_n 3, 1) := by decide +kernel
theorem dX12_rowNumber_18 : decode cX12_rowNumber 18 = .ok (.iaload, 1) := by decide +kernel
theorem dX12_rowNumber_19 : decode cX12_rowNumber 19 = .ok (.iadd, 1) := by decide +kernel
theorem dX12_rowNumber_20 : decode cX12_rowNumber 20 = .ok (.istore_n 2, 1) := by decide +kernel
theorem dX12_rowNumber_21 : decode cX12_rowNumber 21 = .ok (.iinc 3 1, 3) := by decide +kernel
theorem dX12_rowNumber_24 : decode cX12_rowNumber 24 = .ok (.goto (-20), 3) := by decide +kernel
theorem dX12_rowNumber_27 : decode cX12_rowNumber 27 = .ok (.iload_n 2, 1) := by decide +kernel
theorem dX12_rowNumber_28 : decode cX12_rowNumber 28 = .ok (.ireturn, 1) := by decide +kernel
theorem dX12_isRow_0 : decode cX12_isRow 0 = .ok (.aload_n 0, 1) := by decide +kernel
theorem dX12_isRow_1 : decode cX12_isRow 1 = .ok (.iload_n 1, 1) := by decide +kernel
theorem dX12_isRow_2 : decode cX12_isRow 2 = .ok (.iconst 0, 1) := by decide +kernel
theorem dX12_isRow_3 : decode cX12_isRow 3 = .ok (.sipush 999, 3) := by decide +kernel
theorem dX12_isRow_6 : decode cX12_isRow 6 = .ok (.invokestatic 240, 3) := by decide +kernel
theorem dX12_isRow_9 : decode cX12_isRow 9 = .ok (.ifCond .eq 14, 3) := by decide +kernel
theorem dX12_isRow_12 : decode cX12_isRow 12 = .ok (.aload_n 0, 1) := by decide +kernel
theorem dX12_isRow_13 : decode cX12_isRow 13 = .ok (.getfield 298, 3) := by decide +kernel
theorem dX12_isRow_16 : decode cX12_isRow 16 = .ok (.ifCond .le 7, 3) := by decide +kernel
theorem dX12_isRow_19 : decode cX12_isRow 19 = .ok (.iconst 1, 1) := by decide +kernel
theorem dX12_isRow_20 : decode cX12_isRow 20 = .ok (.goto 4, 3) := by decide +kernel
theorem dX12_isRow_23 : decode cX12_isRow 23 = .ok (.iconst 0, 1) := by decide +kernel
theorem dX12_isRow_24 : decode cX12_isRow 24 = .ok (.iload_n 2, 1) := by decide +kernel
theorem dX12_isRow_25 : decode cX12_isRow 25 = .ok (.invokevirtual 282, 3) := by decide +kernel
theorem dX12_isRow_28 : decode cX12_isRow 28 = .ok (.ireturn, 1) := by decide +kernel
theorem dX12_ringsMany_0 : decode cX12_ringsMany 0 = .ok (.aload_n 0, 1) := by decide +kernel
theorem dX12_ringsMany_1 : decode cX12_ringsMany 1 = .ok (.invokevirtual 354, 3) := by decide +kernel
theorem dX12_ringsMany_4 : decode cX12_ringsMany 4 = .ok (.istore_n 2, 1) := by decide +kernel
theorem dX12_ringsMany_5 : decode cX12_ringsMany 5 = .ok (.aload_n 0, 1) := by decide +kernel
theorem dX12_ringsMany_6 : decode cX12_ringsMany 6 = .ok (.invokevirtual 393, 3) := by decide +kernel
theorem dX12_ringsMany_9 : decode cX12_ringsMany 9 = .ok (.iconst 0, 1) := by decide +kernel
theorem dX12_ringsMany_10 : decode cX12_ringsMany 10 = .ok (.istore_n 3, 1) := by decide +kernel
theorem dX12_ringsMany_11 : decode cX12_ringsMany 11 = .ok (.iload_n 3, 1) := by decide +kernel
theorem dX12_ringsMany_12 : decode cX12_ringsMany 12 = .ok (.iload_n 1, 1) := by decide +kernel
theorem dX12_ringsMany_13 : decode cX12_ringsMany 13 = .ok (.if_icmp .ge 28, 3) := by decide +kernel
theorem dX12_ringsMany_16 : decode cX12_ringsMany 16 = .ok (.aload_n 0, 1) := by decide +kernel
theorem dX12_ringsMany_17 : decode cX12_ringsMany 17 = .ok (.aload_n 0, 1) := by decide +kernel
theorem dX12_ringsMany_18 : decode cX12_ringsMany 18 = .ok (.getfield 63, 3) := by decide +kernel
theorem dX12_ringsMany_21 : decode cX12_ringsMany 21 = .ok (.bipush 41, 2) := by decide +kernel
theorem dX12_ringsMany_23 : decode cX12_ringsMany 23 = .ok (.iload_n 3, 1) := by decide +kernel
theorem dX12_ringsMany_24 : decode cX12_ringsMany 24 = .ok (.aload_n 0, 1) := by decide +kernel
theorem dX12_ringsMany_25 : decode cX12_ringsMany 25 = .ok (.getfield 298, 3) := by decide +kernel
theorem dX12_ringsMany_28 : decode cX12_ringsMany 28 = .ok (.irem, 1) := by decide +kernel
theorem dX12_ringsMany_29 : decode cX12_ringsMany 29 = .ok (.iadd, 1) := by decide +kernel
theorem dX12_ringsMany_30 : decode cX12_ringsMany 30 = .ok (.iaload, 1) := by decide +kernel
theorem dX12_ringsMany_31 : decode cX12_ringsMany 31 = .ok (.iload_n 2, 1) := by decide +kernel
theorem dX12_ringsMany_32 : decode cX12_ringsMany 32 = .ok (.invokevirtual 396, 3) := by decide +kernel
theorem dX12_ringsMany_35 : decode cX12_ringsMany 35 = .ok (.iinc 3 1, 3) := by decide +kernel
theorem dX12_ringsMany_38 : decode cX12_ringsMany 38 = .ok (.goto (-27), 3) := by decide +kernel
theorem dX12_ringsMany_41 : decode cX12_ringsMany 41 = .ok (.iload_n 2, 1) := by decide +kernel
theorem dX12_ringsMany_42 : decode cX12_ringsMany 42 = .ok (.ireturn, 1) := by decide +kernel
theorem dX12_row_0 : decode cX12_row 0 = .ok (.aload_n 0, 1) := by decide +kernel
theorem dX12_row_1 : decode cX12_row 1 = .ok (.iconst 0, 1) := by decide +kernel
theorem dX12_row_2 : decode cX12_row 2 = .ok (.putfield 114, 3) := by decide +kernel
theorem dX12_row_5 : decode cX12_row 5 = .ok (.aload_n 0, 1) := by decide +kernel
theorem dX12_row_6 : decode cX12_row 6 = .ok (.iload_n 1, 1) := by decide +kernel
theorem dX12_row_7 : decode cX12_row 7 = .ok (.iconst 1, 1) := by decide +kernel
theorem dX12_row_8 : decode cX12_row 8 = .ok (.invokevirtual 399, 3) := by decide +kernel
theorem dX12_row_11 : decode cX12_row 11 = .ok (.ifCond .eq 15, 3) := by decide +kernel
theorem dX12_row_14 : decode cX12_row 14 = .ok (.aload_n 0, 1) := by decide +kernel
theorem dX12_row_15 : decode cX12_row 15 = .ok (.aload_n 0, 1) := by decide +kernel
theorem dX12_row_16 : decode cX12_row 16 = .ok (.iload_n 1, 1) := by decide +kernel
theorem dX12_row_17 : decode cX12_row 17 = .ok (.invokevirtual 402, 3) := by decide +kernel
theorem dX12_row_20 : decode cX12_row 20 = .ok (.invokevirtual 405, 3) := by decide +kernel
theorem dX12_row_23 : decode cX12_row 23 = .ok (.goto 4, 3) := by decide +kernel
theorem dX12_row_26 : decode cX12_row 26 = .ok (.iconst 0, 1) := by decide +kernel
theorem dX12_row_27 : decode cX12_row 27 = .ok (.ireturn, 1) := by decide +kernel
theorem dX12_at_0 : decode cX12_at 0 = .ok (.aload_n 0, 1) := by decide +kernel
theorem dX12_at_1 : decode cX12_at 1 = .ok (.iconst 0, 1) := by decide +kernel
theorem dX12_at_2 : decode cX12_at 2 = .ok (.putfield 114, 3) := by decide +kernel
theorem dX12_at_5 : decode cX12_at 5 = .ok (.aload_n 0, 1) := by decide +kernel
theorem dX12_at_6 : decode cX12_at 6 = .ok (.iload_n 1, 1) := by decide +kernel
theorem dX12_at_7 : decode cX12_at 7 = .ok (.iconst 2, 1) := by decide +kernel
theorem dX12_at_8 : decode cX12_at 8 = .ok (.invokevirtual 399, 3) := by decide +kernel
theorem dX12_at_11 : decode cX12_at 11 = .ok (.ifCond .ne 5, 3) := by decide +kernel
theorem dX12_at_14 : decode cX12_at 14 = .ok (.iconst 0, 1) := by decide +kernel
theorem dX12_at_15 : decode cX12_at 15 = .ok (.ireturn, 1) := by decide +kernel
theorem dX12_at_16 : decode cX12_at 16 = .ok (.aload_n 0, 1) := by decide +kernel
theorem dX12_at_17 : decode cX12_at 17 = .ok (.iload_n 1, 1) := by decide +kernel
theorem dX12_at_18 : decode cX12_at 18 = .ok (.invokevirtual 402, 3) := by decide +kernel
theorem dX12_at_21 : decode cX12_at 21 = .ok (.istore_n 3, 1) := by decide +kernel
theorem dX12_at_22 : decode cX12_at 22 = .ok (.aload_n 0, 1) := by decide +kernel
theorem dX12_at_23 : decode cX12_at 23 = .ok (.iload_n 2, 1) := by decide +kernel
theorem dX12_at_24 : decode cX12_at 24 = .ok (.ifCond .lt 12, 3) := by decide +kernel
theorem dX12_at_27 : decode cX12_at 27 = .ok (.iload_n 2, 1) := by decide +kernel
theorem dX12_at_28 : decode cX12_at 28 = .ok (.iload_n 3, 1) := by decide +kernel
theorem dX12_at_29 : decode cX12_at 29 = .ok (.if_icmp .ge 7, 3) := by decide +kernel
theorem dX12_at_32 : decode cX12_at 32 = .ok (.iconst 1, 1) := by decide +kernel
theorem dX12_at_33 : decode cX12_at 33 = .ok (.goto 4, 3) := by decide +kernel
theorem dX12_at_36 : decode cX12_at 36 = .ok (.iconst 0, 1) := by decide +kernel
theorem dX12_at_37 : decode cX12_at 37 = .ok (.iconst 1, 1) := by decide +kernel
theorem dX12_at_38 : decode cX12_at 38 = .ok (.invokevirtual 282, 3) := by decide +kernel
theorem dX12_at_41 : decode cX12_at 41 = .ok (.ifCond .eq 17, 3) := by decide +kernel
theorem dX12_at_44 : decode cX12_at 44 = .ok (.aload_n 0, 1) := by decide +kernel
theorem dX12_at_45 : decode cX12_at 45 = .ok (.getfield 78, 3) := by decide +kernel
theorem dX12_at_48 : decode cX12_at 48 = .ok (.aload_n 0, 1) := by decide +kernel
theorem dX12_at_49 : decode cX12_at 49 = .ok (.getfield 84, 3) := by decide +kernel
theorem dX12_at_52 : decode cX12_at 52 = .ok (.iload_n 2, 1) := by decide +kernel
theorem dX12_at_53 : decode cX12_at 53 = .ok (.iaload, 1) := by decide +kernel
theorem dX12_at_54 : decode cX12_at 54 = .ok (.iaload, 1) := by decide +kernel
theorem dX12_at_55 : decode cX12_at 55 = .ok (.goto 4, 3) := by decide +kernel
theorem dX12_at_58 : decode cX12_at 58 = .ok (.iconst 0, 1) := by decide +kernel
theorem dX12_at_59 : decode cX12_at 59 = .ok (.ireturn, 1) := by decide +kernel
theorem dX12_lengthNow_0 : decode cX12_lengthNow 0 = .ok (.aload_n 0, 1) := by decide +kernel
theorem dX12_lengthNow_1 : decode cX12_lengthNow 1 = .ok (.invokevirtual 393, 3) := by decide +kernel
theorem dX12_lengthNow_4 : decode cX12_lengthNow 4 = .ok (.aload_n 0, 1) := by decide +kernel
theorem dX12_lengthNow_5 : decode cX12_lengthNow 5 = .ok (.iconst 0, 1) := by decide +kernel
theorem dX12_lengthNow_6 : decode cX12_lengthNow 6 = .ok (.putfield 408, 3) := by decide +kernel
theorem dX12_lengthNow_9 : decode cX12_lengthNow 9 = .ok (.aload_n 0, 1) := by decide +kernel
theorem dX12_lengthNow_10 : decode cX12_lengthNow 10 = .ok (.iload_n 1, 1) := by decide +kernel
theorem dX12_lengthNow_11 : decode cX12_lengthNow 11 = .ok (.invokevirtual 405, 3) := by decide +kernel
theorem dX12_lengthNow_14 : decode cX12_lengthNow 14 = .ok (.istore_n 2, 1) := by decide +kernel
theorem dX12_lengthNow_15 : decode cX12_lengthNow 15 = .ok (.aload_n 0, 1) := by decide +kernel
theorem dX12_lengthNow_16 : decode cX12_lengthNow 16 = .ok (.getfield 87, 3) := by decide +kernel
theorem dX12_lengthNow_19 : decode cX12_lengthNow 19 = .ok (.iconst 0, 1) := by decide +kernel
theorem dX12_lengthNow_20 : decode cX12_lengthNow 20 = .ok (.iload_n 2, 1) := by decide +kernel
theorem dX12_lengthNow_21 : decode cX12_lengthNow 21 = .ok (.iastore, 1) := by decide +kernel
theorem dX12_lengthNow_22 : decode cX12_lengthNow 22 = .ok (.iconst 0, 1) := by decide +kernel
theorem dX12_lengthNow_23 : decode cX12_lengthNow 23 = .ok (.istore_n 3, 1) := by decide +kernel
theorem dX12_lengthNow_24 : decode cX12_lengthNow 24 = .ok (.iconst 1, 1) := by decide +kernel
theorem dX12_lengthNow_25 : decode cX12_lengthNow 25 = .ok (.istore 4, 2) := by decide +kernel
theorem dX12_lengthNow_27 : decode cX12_lengthNow 27 = .ok (.iload 4, 2) := by decide +kernel
theorem dX12_lengthNow_29 : decode cX12_lengthNow 29 = .ok (.ifCond .eq 104, 3) := by decide +kernel
theorem dX12_lengthNow_32 : decode cX12_lengthNow 32 = .ok (.aload_n 0, 1) := by decide +kernel
theorem dX12_lengthNow_33 : decode cX12_lengthNow 33 = .ok (.aload_n 0, 1) := by decide +kernel
theorem dX12_lengthNow_34 : decode cX12_lengthNow 34 = .ok (.getfield 63, 3) := by decide +kernel
theorem dX12_lengthNow_37 : decode cX12_lengthNow 37 = .ok (.bipush 41, 2) := by decide +kernel
theorem dX12_lengthNow_39 : decode cX12_lengthNow 39 = .ok (.iload_n 3, 1) := by decide +kernel
theorem dX12_lengthNow_40 : decode cX12_lengthNow 40 = .ok (.aload_n 0, 1) := by decide +kernel
theorem dX12_lengthNow_41 : decode cX12_lengthNow 41 = .ok (.getfield 298, 3) := by decide +kernel
theorem dX12_lengthNow_44 : decode cX12_lengthNow 44 = .ok (.irem, 1) := by decide +kernel
theorem dX12_lengthNow_45 : decode cX12_lengthNow 45 = .ok (.iadd, 1) := by decide +kernel
theorem dX12_lengthNow_46 : decode cX12_lengthNow 46 = .ok (.iaload, 1) := by decide +kernel
theorem dX12_lengthNow_47 : decode cX12_lengthNow 47 = .ok (.iload_n 1, 1) := by decide +kernel
theorem dX12_lengthNow_48 : decode cX12_lengthNow 48 = .ok (.invokevirtual 396, 3) := by decide +kernel
theorem dX12_lengthNow_51 : decode cX12_lengthNow 51 = .ok (.iinc 3 1, 3) := by decide +kernel
theorem dX12_lengthNow_54 : decode cX12_lengthNow 54 = .ok (.aload_n 0, 1) := by decide +kernel
theorem dX12_lengthNow_55 : decode cX12_lengthNow 55 = .ok (.iload_n 1, 1) := by decide +kernel
theorem dX12_lengthNow_56 : decode cX12_lengthNow 56 = .ok (.invokevirtual 405, 3) := by decide +kernel
theorem dX12_lengthNow_59 : decode cX12_lengthNow 59 = .ok (.istore 5, 2) := by decide +kernel
theorem dX12_lengthNow_61 : decode cX12_lengthNow 61 = .ok (.iload 5, 2) := by decide +kernel
theorem dX12_lengthNow_63 : decode cX12_lengthNow 63 = .ok (.iload_n 2, 1) := by decide +kernel
theorem dX12_lengthNow_64 : decode cX12_lengthNow 64 = .ok (.if_icmp .eq 7, 3) := by decide +kernel
theorem dX12_lengthNow_67 : decode cX12_lengthNow 67 = .ok (.iconst 1, 1) := by decide +kernel
theorem dX12_lengthNow_68 : decode cX12_lengthNow 68 = .ok (.goto 4, 3) := by decide +kernel
theorem dX12_lengthNow_71 : decode cX12_lengthNow 71 = .ok (.iconst 0, 1) := by decide +kernel
theorem dX12_lengthNow_72 : decode cX12_lengthNow 72 = .ok (.istore 4, 2) := by decide +kernel
theorem dX12_lengthNow_74 : decode cX12_lengthNow 74 = .ok (.iconst 0, 1) := by decide +kernel
theorem dX12_lengthNow_75 : decode cX12_lengthNow 75 = .ok (.istore 6, 2) := by decide +kernel
theorem dX12_lengthNow_77 : decode cX12_lengthNow 77 = .ok (.iload 6, 2) := by decide +kernel
theorem dX12_lengthNow_79 : decode cX12_lengthNow 79 = .ok (.iload_n 3, 1) := by decide +kernel
theorem dX12_lengthNow_80 : decode cX12_lengthNow 80 = .ok (.if_icmp .ge 42, 3) := by decide +kernel
theorem dX12_lengthNow_83 : decode cX12_lengthNow 83 = .ok (.iload 4, 2) := by decide +kernel
theorem dX12_lengthNow_85 : decode cX12_lengthNow 85 = .ok (.ifCond .eq 37, 3) := by decide +kernel
theorem dX12_lengthNow_88 : decode cX12_lengthNow 88 = .ok (.aload_n 0, 1) := by decide +kernel
theorem dX12_lengthNow_89 : decode cX12_lengthNow 89 = .ok (.aload_n 0, 1) := by decide +kernel
theorem dX12_lengthNow_90 : decode cX12_lengthNow 90 = .ok (.getfield 408, 3) := by decide +kernel
theorem dX12_lengthNow_93 : decode cX12_lengthNow 93 = .ok (.ifCond .ne 15, 3) := by decide +kernel
theorem dX12_lengthNow_96 : decode cX12_lengthNow 96 = .ok (.aload_n 0, 1) := by decide +kernel
theorem dX12_lengthNow_97 : decode cX12_lengthNow 97 = .ok (.getfield 87, 3) := by decide +kernel
theorem dX12_lengthNow_100 : decode cX12_lengthNow 100 = .ok (.iload 6, 2) := by decide +kernel
theorem dX12_lengthNow_102 : decode cX12_lengthNow 102 = .ok (.iaload, 1) := by decide +kernel
theorem dX12_lengthNow_103 : decode cX12_lengthNow 103 = .ok (.iload 5, 2) := by decide +kernel
theorem dX12_lengthNow_105 : decode cX12_lengthNow 105 = .ok (.if_icmp .ne 7, 3) := by decide +kernel
theorem dX12_lengthNow_108 : decode cX12_lengthNow 108 = .ok (.iconst 1, 1) := by decide +kernel
theorem dX12_lengthNow_109 : decode cX12_lengthNow 109 = .ok (.goto 4, 3) := by decide +kernel
theorem dX12_lengthNow_112 : decode cX12_lengthNow 112 = .ok (.iconst 0, 1) := by decide +kernel
theorem dX12_lengthNow_113 : decode cX12_lengthNow 113 = .ok (.putfield 408, 3) := by decide +kernel
theorem dX12_lengthNow_116 : decode cX12_lengthNow 116 = .ok (.iinc 6 1, 3) := by decide +kernel
theorem dX12_lengthNow_119 : decode cX12_lengthNow 119 = .ok (.goto (-42), 3) := by decide +kernel
theorem dX12_lengthNow_122 : decode cX12_lengthNow 122 = .ok (.aload_n 0, 1) := by decide +kernel
theorem dX12_lengthNow_123 : decode cX12_lengthNow 123 = .ok (.getfield 87, 3) := by decide +kernel
theorem dX12_lengthNow_126 : decode cX12_lengthNow 126 = .ok (.iload_n 3, 1) := by decide +kernel
theorem dX12_lengthNow_127 : decode cX12_lengthNow 127 = .ok (.iload 5, 2) := by decide +kernel
theorem dX12_lengthNow_129 : decode cX12_lengthNow 129 = .ok (.iastore, 1) := by decide +kernel
theorem dX12_lengthNow_130 : decode cX12_lengthNow 130 = .ok (.goto (-103), 3) := by decide +kernel
theorem dX12_lengthNow_133 : decode cX12_lengthNow 133 = .ok (.iload_n 3, 1) := by decide +kernel
theorem dX12_lengthNow_134 : decode cX12_lengthNow 134 = .ok (.ireturn, 1) := by decide +kernel
theorem dX12_length_0 : decode cX12_length 0 = .ok (.aload_n 0, 1) := by decide +kernel
theorem dX12_length_1 : decode cX12_length 1 = .ok (.iconst 0, 1) := by decide +kernel
theorem dX12_length_2 : decode cX12_length 2 = .ok (.putfield 114, 3) := by decide +kernel
theorem dX12_length_5 : decode cX12_length 5 = .ok (.aload_n 0, 1) := by decide +kernel
theorem dX12_length_6 : decode cX12_length 6 = .ok (.getfield 298, 3) := by decide +kernel
theorem dX12_length_9 : decode cX12_length 9 = .ok (.ifCond .ne 7, 3) := by decide +kernel
theorem dX12_length_12 : decode cX12_length 12 = .ok (.iconst (-1), 1) := by decide +kernel
theorem dX12_length_13 : decode cX12_length 13 = .ok (.goto 11, 3) := by decide +kernel
theorem dX12_length_16 : decode cX12_length 16 = .ok (.aload_n 0, 1) := by decide +kernel
theorem dX12_length_17 : decode cX12_length 17 = .ok (.aload_n 0, 1) := by decide +kernel
theorem dX12_length_18 : decode cX12_length 18 = .ok (.invokevirtual 354, 3) := by decide +kernel
theorem dX12_length_21 : decode cX12_length 21 = .ok (.invokevirtual 411, 3) := by decide +kernel
theorem dX12_length_24 : decode cX12_length 24 = .ok (.ireturn, 1) := by decide +kernel
theorem dX12_isTrue_0 : decode cX12_isTrue 0 = .ok (.aload_n 0, 1) := by decide +kernel
theorem dX12_isTrue_1 : decode cX12_isTrue 1 = .ok (.iconst 0, 1) := by decide +kernel
theorem dX12_isTrue_2 : decode cX12_isTrue 2 = .ok (.putfield 114, 3) := by decide +kernel
theorem dX12_isTrue_5 : decode cX12_isTrue 5 = .ok (.aload_n 0, 1) := by decide +kernel
theorem dX12_isTrue_6 : decode cX12_isTrue 6 = .ok (.getfield 298, 3) := by decide +kernel
theorem dX12_isTrue_9 : decode cX12_isTrue 9 = .ok (.ifCond .le 12, 3) := by decide +kernel
theorem dX12_isTrue_12 : decode cX12_isTrue 12 = .ok (.aload_n 0, 1) := by decide +kernel
theorem dX12_isTrue_13 : decode cX12_isTrue 13 = .ok (.aload_n 0, 1) := by decide +kernel
theorem dX12_isTrue_14 : decode cX12_isTrue 14 = .ok (.invokevirtual 354, 3) := by decide +kernel
theorem dX12_isTrue_17 : decode cX12_isTrue 17 = .ok (.invokevirtual 411, 3) := by decide +kernel
theorem dX12_isTrue_20 : decode cX12_isTrue 20 = .ok (.pop, 1) := by decide +kernel
theorem dX12_isTrue_21 : decode cX12_isTrue 21 = .ok (.aload_n 0, 1) := by decide +kernel
theorem dX12_isTrue_22 : decode cX12_isTrue 22 = .ok (.getfield 298, 3) := by decide +kernel
theorem dX12_isTrue_25 : decode cX12_isTrue 25 = .ok (.ifCond .eq 10, 3) := by decide +kernel
theorem dX12_isTrue_28 : decode cX12_isTrue 28 = .ok (.aload_n 0, 1) := by decide +kernel
theorem dX12_isTrue_29 : decode cX12_isTrue 29 = .ok (.getfield 408, 3) := by decide +kernel
theorem dX12_isTrue_32 : decode cX12_isTrue 32 = .ok (.ifCond .ne 7, 3) := by decide +kernel
theorem dX12_isTrue_35 : decode cX12_isTrue 35 = .ok (.iconst 1, 1) := by decide +kernel
theorem dX12_isTrue_36 : decode cX12_isTrue 36 = .ok (.goto 4, 3) := by decide +kernel
theorem dX12_isTrue_39 : decode cX12_isTrue 39 = .ok (.iconst 0, 1) := by decide +kernel
theorem dX12_isTrue_40 : decode cX12_isTrue 40 = .ok (.ireturn, 1) := by decide +kernel
theorem dX12_longer_0 : decode cX12_longer 0 = .ok (.aload_n 0, 1) := by decide +kernel
theorem dX12_longer_1 : decode cX12_longer 1 = .ok (.iconst 0, 1) := by decide +kernel
theorem dX12_longer_2 : decode cX12_longer 2 = .ok (.putfield 114, 3) := by decide +kernel
theorem dX12_longer_5 : decode cX12_longer 5 = .ok (.aload_n 0, 1) := by decide +kernel
theorem dX12_longer_6 : decode cX12_longer 6 = .ok (.getfield 298, 3) := by decide +kernel
theorem dX12_longer_9 : decode cX12_longer 9 = .ok (.ifCond .ne 5, 3) := by decide +kernel
theorem dX12_longer_12 : decode cX12_longer 12 = .ok (.iconst (-1), 1) := by decide +kernel
theorem dX12_longer_13 : decode cX12_longer 13 = .ok (.ireturn, 1) := by decide +kernel
theorem dX12_longer_14 : decode cX12_longer 14 = .ok (.aload_n 0, 1) := by decide +kernel
theorem dX12_longer_15 : decode cX12_longer 15 = .ok (.invokevirtual 354, 3) := by decide +kernel
theorem dX12_longer_18 : decode cX12_longer 18 = .ok (.istore_n 1, 1) := by decide +kernel
theorem dX12_longer_19 : decode cX12_longer 19 = .ok (.aload_n 0, 1) := by decide +kernel
theorem dX12_longer_20 : decode cX12_longer 20 = .ok (.iload_n 1, 1) := by decide +kernel
theorem dX12_longer_21 : decode cX12_longer 21 = .ok (.invokevirtual 411, 3) := by decide +kernel
theorem dX12_longer_24 : decode cX12_longer 24 = .ok (.istore_n 2, 1) := by decide +kernel
theorem dX12_longer_25 : decode cX12_longer 25 = .ok (.aload_n 0, 1) := by decide +kernel
theorem dX12_longer_26 : decode cX12_longer 26 = .ok (.getfield 408, 3) := by decide +kernel
theorem dX12_longer_29 : decode cX12_longer 29 = .ok (.ifCond .eq 5, 3) := by decide +kernel
theorem dX12_longer_32 : decode cX12_longer 32 = .ok (.iconst 0, 1) := by decide +kernel
theorem dX12_longer_33 : decode cX12_longer 33 = .ok (.istore_n 2, 1) := by decide +kernel
theorem dX12_longer_34 : decode cX12_longer 34 = .ok (.iconst (-1), 1) := by decide +kernel
theorem dX12_longer_35 : decode cX12_longer 35 = .ok (.istore_n 3, 1) := by decide +kernel
theorem dX12_longer_36 : decode cX12_longer 36 = .ok (.iconst 0, 1) := by decide +kernel
theorem dX12_longer_37 : decode cX12_longer 37 = .ok (.istore 4, 2) := by decide +kernel
theorem dX12_longer_39 : decode cX12_longer 39 = .ok (.iload 4, 2) := by decide +kernel
theorem dX12_longer_41 : decode cX12_longer 41 = .ok (.aload_n 0, 1) := by decide +kernel
theorem dX12_longer_42 : decode cX12_longer 42 = .ok (.getfield 298, 3) := by decide +kernel
theorem dX12_longer_45 : decode cX12_longer 45 = .ok (.if_icmp .ge 114, 3) := by decide +kernel
theorem dX12_longer_48 : decode cX12_longer 48 = .ok (.aload_n 0, 1) := by decide +kernel
theorem dX12_longer_49 : decode cX12_longer 49 = .ok (.getfield 63, 3) := by decide +kernel
theorem dX12_longer_52 : decode cX12_longer 52 = .ok (.bipush 41, 2) := by decide +kernel
theorem dX12_longer_54 : decode cX12_longer 54 = .ok (.iload 4, 2) := by decide +kernel
theorem dX12_longer_56 : decode cX12_longer 56 = .ok (.iadd, 1) := by decide +kernel
theorem dX12_longer_57 : decode cX12_longer 57 = .ok (.iaload, 1) := by decide +kernel
theorem dX12_longer_58 : decode cX12_longer 58 = .ok (.istore 5, 2) := by decide +kernel
theorem dX12_longer_60 : decode cX12_longer 60 = .ok (.iconst 0, 1) := by decide +kernel
theorem dX12_longer_61 : decode cX12_longer 61 = .ok (.istore 6, 2) := by decide +kernel
theorem dX12_longer_63 : decode cX12_longer 63 = .ok (.iload 6, 2) := by decide +kernel
theorem dX12_longer_65 : decode cX12_longer 65 = .ok (.bipush 32, 2) := by decide +kernel
theorem dX12_longer_67 : decode cX12_longer 67 = .ok (.if_icmp .ge 74, 3) := by decide +kernel
theorem dX12_longer_70 : decode cX12_longer 70 = .ok (.iload 6, 2) := by decide +kernel
theorem dX12_longer_72 : decode cX12_longer 72 = .ok (.iload 5, 2) := by decide +kernel
theorem dX12_longer_74 : decode cX12_longer 74 = .ok (.if_icmp .eq 61, 3) := by decide +kernel
theorem dX12_longer_77 : decode cX12_longer 77 = .ok (.iload 6, 2) := by decide +kernel
theorem dX12_longer_79 : decode cX12_longer 79 = .ok (.invokestatic 244, 3) := by decide +kernel
theorem dX12_longer_82 : decode cX12_longer 82 = .ok (.ifCond .ne 6, 3) := by decide +kernel
theorem dX12_longer_85 : decode cX12_longer 85 = .ok (.goto 50, 3) := by decide +kernel
theorem dX12_longer_88 : decode cX12_longer 88 = .ok (.aload_n 0, 1) := by decide +kernel
theorem dX12_longer_89 : decode cX12_longer 89 = .ok (.getfield 63, 3) := by decide +kernel
theorem dX12_longer_92 : decode cX12_longer 92 = .ok (.bipush 41, 2) := by decide +kernel
theorem dX12_longer_94 : decode cX12_longer 94 = .ok (.iload 4, 2) := by decide +kernel
theorem dX12_longer_96 : decode cX12_longer 96 = .ok (.iadd, 1) := by decide +kernel
theorem dX12_longer_97 : decode cX12_longer 97 = .ok (.iload 6, 2) := by decide +kernel
theorem dX12_longer_99 : decode cX12_longer 99 = .ok (.iastore, 1) := by decide +kernel
theorem dX12_longer_100 : decode cX12_longer 100 = .ok (.aload_n 0, 1) := by decide +kernel
theorem dX12_longer_101 : decode cX12_longer 101 = .ok (.iload_n 1, 1) := by decide +kernel
theorem dX12_longer_102 : decode cX12_longer 102 = .ok (.invokevirtual 411, 3) := by decide +kernel
theorem dX12_longer_105 : decode cX12_longer 105 = .ok (.istore 7, 2) := by decide +kernel
theorem dX12_longer_107 : decode cX12_longer 107 = .ok (.aload_n 0, 1) := by decide +kernel
theorem dX12_longer_108 : decode cX12_longer 108 = .ok (.getfield 408, 3) := by decide +kernel
theorem dX12_longer_111 : decode cX12_longer 111 = .ok (.ifCond .ne 24, 3) := by decide +kernel
theorem dX12_longer_114 : decode cX12_longer 114 = .ok (.iload 7, 2) := by decide +kernel
theorem dX12_longer_116 : decode cX12_longer 116 = .ok (.iload_n 2, 1) := by decide +kernel
theorem dX12_longer_117 : decode cX12_longer 117 = .ok (.if_icmp .gt 6, 3) := by decide +kernel
theorem dX12_longer_120 : decode cX12_longer 120 = .ok (.goto 15, 3) := by decide +kernel
theorem dX12_longer_123 : decode cX12_longer 123 = .ok (.bipush 100, 2) := by decide +kernel
theorem dX12_longer_125 : decode cX12_longer 125 = .ok (.iload 4, 2) := by decide +kernel
theorem dX12_longer_127 : decode cX12_longer 127 = .ok (.imul, 1) := by decide +kernel
theorem dX12_longer_128 : decode cX12_longer 128 = .ok (.iload 6, 2) := by decide +kernel
theorem dX12_longer_130 : decode cX12_longer 130 = .ok (.iadd, 1) := by decide +kernel
theorem dX12_longer_131 : decode cX12_longer 131 = .ok (.istore_n 3, 1) := by decide +kernel
theorem dX12_longer_132 : decode cX12_longer 132 = .ok (.iload 7, 2) := by decide +kernel
theorem dX12_longer_134 : decode cX12_longer 134 = .ok (.istore_n 2, 1) := by decide +kernel
theorem dX12_longer_135 : decode cX12_longer 135 = .ok (.iinc 6 1, 3) := by decide +kernel
theorem dX12_longer_138 : decode cX12_longer 138 = .ok (.goto (-75), 3) := by decide +kernel
theorem dX12_longer_141 : decode cX12_longer 141 = .ok (.aload_n 0, 1) := by decide +kernel
theorem dX12_longer_142 : decode cX12_longer 142 = .ok (.getfield 63, 3) := by decide +kernel
theorem dX12_longer_145 : decode cX12_longer 145 = .ok (.bipush 41, 2) := by decide +kernel
theorem dX12_longer_147 : decode cX12_longer 147 = .ok (.iload 4, 2) := by decide +kernel
theorem dX12_longer_149 : decode cX12_longer 149 = .ok (.iadd, 1) := by decide +kernel
theorem dX12_longer_150 : decode cX12_longer 150 = .ok (.iload 5, 2) := by decide +kernel
theorem dX12_longer_152 : decode cX12_longer 152 = .ok (.iastore, 1) := by decide +kernel
theorem dX12_longer_153 : decode cX12_longer 153 = .ok (.iinc 4 1, 3) := by decide +kernel
theorem dX12_longer_156 : decode cX12_longer 156 = .ok (.goto (-117), 3) := by decide +kernel
theorem dX12_longer_159 : decode cX12_longer 159 = .ok (.iload_n 3, 1) := by decide +kernel
theorem dX12_longer_160 : decode cX12_longer 160 = .ok (.ireturn, 1) := by decide +kernel
theorem dX12_costOf_0 : decode cX12_costOf 0 = .ok (.aload_n 0, 1) := by decide +kernel
theorem dX12_costOf_1 : decode cX12_costOf 1 = .ok (.iload_n 1, 1) := by decide +kernel
theorem dX12_costOf_2 : decode cX12_costOf 2 = .ok (.invokevirtual 369, 3) := by decide +kernel
theorem dX12_costOf_5 : decode cX12_costOf 5 = .ok (.istore_n 3, 1) := by decide +kernel
theorem dX12_costOf_6 : decode cX12_costOf 6 = .ok (.sipush 9999, 3) := by decide +kernel
theorem dX12_costOf_9 : decode cX12_costOf 9 = .ok (.istore 4, 2) := by decide +kernel
theorem dX12_costOf_11 : decode cX12_costOf 11 = .ok (.aload_n 0, 1) := by decide +kernel
theorem dX12_costOf_12 : decode cX12_costOf 12 = .ok (.getfield 63, 3) := by decide +kernel
theorem dX12_costOf_15 : decode cX12_costOf 15 = .ok (.bipush 31, 2) := by decide +kernel
theorem dX12_costOf_17 : decode cX12_costOf 17 = .ok (.iload_n 1, 1) := by decide +kernel
theorem dX12_costOf_18 : decode cX12_costOf 18 = .ok (.iadd, 1) := by decide +kernel
theorem dX12_costOf_19 : decode cX12_costOf 19 = .ok (.iaload, 1) := by decide +kernel
theorem dX12_costOf_20 : decode cX12_costOf 20 = .ok (.bipush (-2), 2) := by decide +kernel
theorem dX12_costOf_22 : decode cX12_costOf 22 = .ok (.if_icmp .ne 7, 3) := by decide +kernel
theorem dX12_costOf_25 : decode cX12_costOf 25 = .ok (.sipush 9999, 3) := by decide +kernel
theorem dX12_costOf_28 : decode cX12_costOf 28 = .ok (.ireturn, 1) := by decide +kernel
theorem dX12_costOf_29 : decode cX12_costOf 29 = .ok (.aload_n 0, 1) := by decide +kernel
theorem dX12_costOf_30 : decode cX12_costOf 30 = .ok (.invokevirtual 339, 3) := by decide +kernel
theorem dX12_costOf_33 : decode cX12_costOf 33 = .ok (.iload_n 3, 1) := by decide +kernel
theorem dX12_costOf_34 : decode cX12_costOf 34 = .ok (.istore 5, 2) := by decide +kernel
theorem dX12_costOf_36 : decode cX12_costOf 36 = .ok (.iload 5, 2) := by decide +kernel
theorem dX12_costOf_38 : decode cX12_costOf 38 = .ok (.ifCond .lt 50, 3) := by decide +kernel
theorem dX12_costOf_41 : decode cX12_costOf 41 = .ok (.aload_n 0, 1) := by decide +kernel
theorem dX12_costOf_42 : decode cX12_costOf 42 = .ok (.getfield 63, 3) := by decide +kernel
theorem dX12_costOf_45 : decode cX12_costOf 45 = .ok (.bipush 64, 2) := by decide +kernel
theorem dX12_costOf_47 : decode cX12_costOf 47 = .ok (.iload_n 1, 1) := by decide +kernel
theorem dX12_costOf_48 : decode cX12_costOf 48 = .ok (.iadd, 1) := by decide +kernel
theorem dX12_costOf_49 : decode cX12_costOf 49 = .ok (.aload_n 0, 1) := by decide +kernel
theorem dX12_costOf_50 : decode cX12_costOf 50 = .ok (.getfield 63, 3) := by decide +kernel
theorem dX12_costOf_53 : decode cX12_costOf 53 = .ok (.bipush 11, 2) := by decide +kernel
theorem dX12_costOf_55 : decode cX12_costOf 55 = .ok (.iload_n 1, 1) := by decide +kernel
theorem dX12_costOf_56 : decode cX12_costOf 56 = .ok (.iadd, 1) := by decide +kernel
theorem dX12_costOf_57 : decode cX12_costOf 57 = .ok (.iaload, 1) := by decide +kernel
theorem dX12_costOf_58 : decode cX12_costOf 58 = .ok (.iload 5, 2) := by decide +kernel
theorem dX12_costOf_60 : decode cX12_costOf 60 = .ok (.iadd, 1) := by decide +kernel
theorem dX12_costOf_61 : decode cX12_costOf 61 = .ok (.iastore, 1) := by decide +kernel
theorem dX12_costOf_62 : decode cX12_costOf 62 = .ok (.aload_n 0, 1) := by decide +kernel
theorem dX12_costOf_63 : decode cX12_costOf 63 = .ok (.bipush 53, 2) := by decide +kernel
theorem dX12_costOf_65 : decode cX12_costOf 65 = .ok (.iload_n 1, 1) := by decide +kernel
theorem dX12_costOf_66 : decode cX12_costOf 66 = .ok (.invokevirtual 348, 3) := by decide +kernel
theorem dX12_costOf_69 : decode cX12_costOf 69 = .ok (.iload_n 2, 1) := by decide +kernel
theorem dX12_costOf_70 : decode cX12_costOf 70 = .ok (.if_icmp .ne 8, 3) := by decide +kernel
theorem dX12_costOf_73 : decode cX12_costOf 73 = .ok (.iload 5, 2) := by decide +kernel
theorem dX12_costOf_75 : decode cX12_costOf 75 = .ok (.goto 5, 3) := by decide +kernel
theorem dX12_costOf_78 : decode cX12_costOf 78 = .ok (.iload 4, 2) := by decide +kernel
theorem dX12_costOf_80 : decode cX12_costOf 80 = .ok (.istore 4, 2) := by decide +kernel
theorem dX12_costOf_82 : decode cX12_costOf 82 = .ok (.iinc 5 (-1), 3) := by decide +kernel
theorem dX12_costOf_85 : decode cX12_costOf 85 = .ok (.goto (-49), 3) := by decide +kernel
theorem dX12_costOf_88 : decode cX12_costOf 88 = .ok (.iload 4, 2) := by decide +kernel
theorem dX12_costOf_90 : decode cX12_costOf 90 = .ok (.ireturn, 1) := by decide +kernel
theorem dX12_fitOf_0 : decode cX12_fitOf 0 = .ok (.iload_n 1, 1) := by decide +kernel
theorem dX12_fitOf_1 : decode cX12_fitOf 1 = .ok (.aload_n 0, 1) := by decide +kernel
theorem dX12_fitOf_2 : decode cX12_fitOf 2 = .ok (.getfield 295, 3) := by decide +kernel
theorem dX12_fitOf_5 : decode cX12_fitOf 5 = .ok (.if_icmp .ne 7, 3) := by decide +kernel
theorem dX12_fitOf_8 : decode cX12_fitOf 8 = .ok (.iconst 0, 1) := by decide +kernel
theorem dX12_fitOf_9 : decode cX12_fitOf 9 = .ok (.goto 15, 3) := by decide +kernel
theorem dX12_fitOf_12 : decode cX12_fitOf 12 = .ok (.aload_n 0, 1) := by decide +kernel
theorem dX12_fitOf_13 : decode cX12_fitOf 13 = .ok (.getfield 93, 3) := by decide +kernel
theorem dX12_fitOf_16 : decode cX12_fitOf 16 = .ok (.sipush 1024, 3) := by decide +kernel
theorem dX12_fitOf_19 : decode cX12_fitOf 19 = .ok (.iload_n 1, 1) := by decide +kernel
theorem dX12_fitOf_20 : decode cX12_fitOf 20 = .ok (.imul, 1) := by decide +kernel
theorem dX12_fitOf_21 : decode cX12_fitOf 21 = .ok (.iload_n 2, 1) := by decide +kernel
theorem dX12_fitOf_22 : decode cX12_fitOf 22 = .ok (.iadd, 1) := by decide +kernel
theorem dX12_fitOf_23 : decode cX12_fitOf 23 = .ok (.iaload, 1) := by decide +kernel
theorem dX12_fitOf_24 : decode cX12_fitOf 24 = .ok (.ireturn, 1) := by decide +kernel
theorem dX12_laysFit_0 : decode cX12_laysFit 0 = .ok (.iconst 0, 1) := by decide +kernel
theorem dX12_laysFit_1 : decode cX12_laysFit 1 = .ok (.istore_n 1, 1) := by decide +kernel
theorem dX12_laysFit_2 : decode cX12_laysFit 2 = .ok (.iload_n 1, 1) := by decide +kernel
theorem dX12_laysFit_3 : decode cX12_laysFit 3 = .ok (.aload_n 0, 1) := by decide +kernel
theorem dX12_laysFit_4 : decode cX12_laysFit 4 = .ok (.getfield 295, 3) := by decide +kernel
theorem dX12_laysFit_7 : decode cX12_laysFit 7 = .ok (.if_icmp .ge 47, 3) := by decide +kernel
theorem dX12_laysFit_10 : decode cX12_laysFit 10 = .ok (.iconst 0, 1) := by decide +kernel
theorem dX12_laysFit_11 : decode cX12_laysFit 11 = .ok (.istore_n 2, 1) := by decide +kernel
theorem dX12_laysFit_12 : decode cX12_laysFit 12 = .ok (.iload_n 2, 1) := by decide +kernel
theorem dX12_laysFit_13 : decode cX12_laysFit 13 = .ok (.aload_n 0, 1) := by decide +kernel
theorem dX12_laysFit_14 : decode cX12_laysFit 14 = .ok (.getfield 289, 3) := by decide +kernel
theorem dX12_laysFit_17 : decode cX12_laysFit 17 = .ok (.if_icmp .ge 31, 3) := by decide +kernel
theorem dX12_laysFit_20 : decode cX12_laysFit 20 = .ok (.aload_n 0, 1) := by decide +kernel
theorem dX12_laysFit_21 : decode cX12_laysFit 21 = .ok (.getfield 90, 3) := by decide +kernel
theorem dX12_laysFit_24 : decode cX12_laysFit 24 = .ok (.bipush 10, 2) := by decide +kernel
theorem dX12_laysFit_26 : decode cX12_laysFit 26 = .ok (.iload_n 1, 1) := by decide +kernel
theorem dX12_laysFit_27 : decode cX12_laysFit 27 = .ok (.imul, 1) := by decide +kernel
theorem dX12_laysFit_28 : decode cX12_laysFit 28 = .ok (.iload_n 2, 1) := by decide +kernel
theorem dX12_laysFit_29 : decode cX12_laysFit 29 = .ok (.iadd, 1) := by decide +kernel
theorem dX12_laysFit_30 : decode cX12_laysFit 30 = .ok (.aload_n 0, 1) := by decide +kernel
theorem dX12_laysFit_31 : decode cX12_laysFit 31 = .ok (.iload_n 2, 1) := by decide +kernel
theorem dX12_laysFit_32 : decode cX12_laysFit 32 = .ok (.aload_n 0, 1) := by decide +kernel
theorem dX12_laysFit_33 : decode cX12_laysFit 33 = .ok (.getfield 26, 3) := by decide +kernel
theorem dX12_laysFit_36 : decode cX12_laysFit 36 = .ok (.iload_n 1, 1) := by decide +kernel
theorem dX12_laysFit_37 : decode cX12_laysFit 37 = .ok (.iaload, 1) := by decide +kernel
theorem dX12_laysFit_38 : decode cX12_laysFit 38 = .ok (.invokevirtual 414, 3) := by decide +kernel
theorem dX12_laysFit_41 : decode cX12_laysFit 41 = .ok (.iastore, 1) := by decide +kernel
theorem dX12_laysFit_42 : decode cX12_laysFit 42 = .ok (.iinc 2 1, 3) := by decide +kernel
theorem dX12_laysFit_45 : decode cX12_laysFit 45 = .ok (.goto (-33), 3) := by decide +kernel
theorem dX12_laysFit_48 : decode cX12_laysFit 48 = .ok (.iinc 1 1, 3) := by decide +kernel
theorem dX12_laysFit_51 : decode cX12_laysFit 51 = .ok (.goto (-49), 3) := by decide +kernel
theorem dX12_laysFit_54 : decode cX12_laysFit 54 = .ok (.aload_n 0, 1) := by decide +kernel
theorem dX12_laysFit_55 : decode cX12_laysFit 55 = .ok (.getfield 295, 3) := by decide +kernel
theorem dX12_laysFit_58 : decode cX12_laysFit 58 = .ok (.iconst 1, 1) := by decide +kernel
theorem dX12_laysFit_59 : decode cX12_laysFit 59 = .ok (.isub, 1) := by decide +kernel
theorem dX12_laysFit_60 : decode cX12_laysFit 60 = .ok (.istore_n 1, 1) := by decide +kernel
theorem dX12_laysFit_61 : decode cX12_laysFit 61 = .ok (.iload_n 1, 1) := by decide +kernel
theorem dX12_laysFit_62 : decode cX12_laysFit 62 = .ok (.ifCond .lt 119, 3) := by decide +kernel
theorem dX12_laysFit_65 : decode cX12_laysFit 65 = .ok (.iconst 0, 1) := by decide +kernel
theorem dX12_laysFit_66 : decode cX12_laysFit 66 = .ok (.istore_n 2, 1) := by decide +kernel
theorem dX12_laysFit_67 : decode cX12_laysFit 67 = .ok (.iload_n 2, 1) := by decide +kernel
theorem dX12_laysFit_68 : decode cX12_laysFit 68 = .ok (.iconst 1, 1) := by decide +kernel
theorem dX12_laysFit_69 : decode cX12_laysFit 69 = .ok (.aload_n 0, 1) := by decide +kernel
theorem dX12_laysFit_70 : decode cX12_laysFit 70 = .ok (.getfield 289, 3) := by decide +kernel
theorem dX12_laysFit_73 : decode cX12_laysFit 73 = .ok (.ishl, 1) := by decide +kernel
theorem dX12_laysFit_74 : decode cX12_laysFit 74 = .ok (.if_icmp .ge 101, 3) := by decide +kernel
theorem dX12_laysFit_77 : decode cX12_laysFit 77 = .ok (.sipush 9999, 3) := by decide +kernel
theorem dX12_laysFit_80 : decode cX12_laysFit 80 = .ok (.istore_n 3, 1) := by decide +kernel
theorem dX12_laysFit_81 : decode cX12_laysFit 81 = .ok (.iconst 0, 1) := by decide +kernel
theorem dX12_laysFit_82 : decode cX12_laysFit 82 = .ok (.istore 4, 2) := by decide +kernel
theorem dX12_laysFit_84 : decode cX12_laysFit 84 = .ok (.iload 4, 2) := by decide +kernel
theorem dX12_laysFit_86 : decode cX12_laysFit 86 = .ok (.aload_n 0, 1) := by decide +kernel
theorem dX12_laysFit_87 : decode cX12_laysFit 87 = .ok (.getfield 289, 3) := by decide +kernel
theorem dX12_laysFit_90 : decode cX12_laysFit 90 = .ok (.if_icmp .ge 66, 3) := by decide +kernel
theorem dX12_laysFit_93 : decode cX12_laysFit 93 = .ok (.iload_n 2, 1) := by decide +kernel
theorem dX12_laysFit_94 : decode cX12_laysFit 94 = .ok (.iload 4, 2) := by decide +kernel
theorem dX12_laysFit_96 : decode cX12_laysFit 96 = .ok (.ishr, 1) := by decide +kernel
theorem dX12_laysFit_97 : decode cX12_laysFit 97 = .ok (.iconst 1, 1) := by decide +kernel
theorem dX12_laysFit_98 : decode cX12_laysFit 98 = .ok (.iand, 1) := by decide +kernel
theorem dX12_laysFit_99 : decode cX12_laysFit 99 = .ok (.iconst 1, 1) := by decide +kernel
theorem dX12_laysFit_100 : decode cX12_laysFit 100 = .ok (.if_icmp .ne 9, 3) := by decide +kernel
theorem dX12_laysFit_103 : decode cX12_laysFit 103 = .ok (.sipush 9999, 3) := by decide +kernel
theorem dX12_laysFit_106 : decode cX12_laysFit 106 = .ok (.goto 29, 3) := by decide +kernel
theorem dX12_laysFit_109 : decode cX12_laysFit 109 = .ok (.aload_n 0, 1) := by decide +kernel
theorem dX12_laysFit_110 : decode cX12_laysFit 110 = .ok (.getfield 90, 3) := by decide +kernel
theorem dX12_laysFit_113 : decode cX12_laysFit 113 = .ok (.bipush 10, 2) := by decide +kernel
theorem dX12_laysFit_115 : decode cX12_laysFit 115 = .ok (.iload_n 1, 1) := by decide +kernel
theorem dX12_laysFit_116 : decode cX12_laysFit 116 = .ok (.imul, 1) := by decide +kernel
theorem dX12_laysFit_117 : decode cX12_laysFit 117 = .ok (.iload 4, 2) := by decide +kernel
theorem dX12_laysFit_119 : decode cX12_laysFit 119 = .ok (.iadd, 1) := by decide +kernel
theorem dX12_laysFit_120 : decode cX12_laysFit 120 = .ok (.iaload, 1) := by decide +kernel
theorem dX12_laysFit_121 : decode cX12_laysFit 121 = .ok (.aload_n 0, 1) := by decide +kernel
theorem dX12_laysFit_122 : decode cX12_laysFit 122 = .ok (.iload_n 1, 1) := by decide +kernel
theorem dX12_laysFit_123 : decode cX12_laysFit 123 = .ok (.iconst 1, 1) := by decide +kernel
theorem dX12_laysFit_124 : decode cX12_laysFit 124 = .ok (.iadd, 1) := by decide +kernel
theorem dX12_laysFit_125 : decode cX12_laysFit 125 = .ok (.iload_n 2, 1) := by decide +kernel
theorem dX12_laysFit_126 : decode cX12_laysFit 126 = .ok (.iconst 1, 1) := by decide +kernel
theorem dX12_laysFit_127 : decode cX12_laysFit 127 = .ok (.iload 4, 2) := by decide +kernel
theorem dX12_laysFit_129 : decode cX12_laysFit 129 = .ok (.ishl, 1) := by decide +kernel
theorem dX12_laysFit_130 : decode cX12_laysFit 130 = .ok (.ior, 1) := by decide +kernel
theorem dX12_laysFit_131 : decode cX12_laysFit 131 = .ok (.invokevirtual 417, 3) := by decide +kernel
theorem dX12_laysFit_134 : decode cX12_laysFit 134 = .ok (.iadd, 1) := by decide +kernel
theorem dX12_laysFit_135 : decode cX12_laysFit 135 = .ok (.istore 5, 2) := by decide +kernel
theorem dX12_laysFit_137 : decode cX12_laysFit 137 = .ok (.iload 5, 2) := by decide +kernel
theorem dX12_laysFit_139 : decode cX12_laysFit 139 = .ok (.iload_n 3, 1) := by decide +kernel
theorem dX12_laysFit_140 : decode cX12_laysFit 140 = .ok (.if_icmp .ge 8, 3) := by decide +kernel
theorem dX12_laysFit_143 : decode cX12_laysFit 143 = .ok (.iload 5, 2) := by decide +kernel
theorem dX12_laysFit_145 : decode cX12_laysFit 145 = .ok (.goto 4, 3) := by decide +kernel
theorem dX12_laysFit_148 : decode cX12_laysFit 148 = .ok (.iload_n 3, 1) := by decide +kernel
theorem dX12_laysFit_149 : decode cX12_laysFit 149 = .ok (.istore_n 3, 1) := by decide +kernel
theorem dX12_laysFit_150 : decode cX12_laysFit 150 = .ok (.iinc 4 1, 3) := by decide +kernel
theorem dX12_laysFit_153 : decode cX12_laysFit 153 = .ok (.goto (-69), 3) := by decide +kernel
theorem dX12_laysFit_156 : decode cX12_laysFit 156 = .ok (.aload_n 0, 1) := by decide +kernel
theorem dX12_laysFit_157 : decode cX12_laysFit 157 = .ok (.getfield 93, 3) := by decide +kernel
theorem dX12_laysFit_160 : decode cX12_laysFit 160 = .ok (.sipush 1024, 3) := by decide +kernel
theorem dX12_laysFit_163 : decode cX12_laysFit 163 = .ok (.iload_n 1, 1) := by decide +kernel
theorem dX12_laysFit_164 : decode cX12_laysFit 164 = .ok (.imul, 1) := by decide +kernel
theorem dX12_laysFit_165 : decode cX12_laysFit 165 = .ok (.iload_n 2, 1) := by decide +kernel
theorem dX12_laysFit_166 : decode cX12_laysFit 166 = .ok (.iadd, 1) := by decide +kernel
theorem dX12_laysFit_167 : decode cX12_laysFit 167 = .ok (.iload_n 3, 1) := by decide +kernel
theorem dX12_laysFit_168 : decode cX12_laysFit 168 = .ok (.iastore, 1) := by decide +kernel
theorem dX12_laysFit_169 : decode cX12_laysFit 169 = .ok (.iinc 2 1, 3) := by decide +kernel
theorem dX12_laysFit_172 : decode cX12_laysFit 172 = .ok (.goto (-105), 3) := by decide +kernel
theorem dX12_laysFit_175 : decode cX12_laysFit 175 = .ok (.iinc 1 (-1), 3) := by decide +kernel
theorem dX12_laysFit_178 : decode cX12_laysFit 178 = .ok (.goto (-117), 3) := by decide +kernel
theorem dX12_laysFit_181 : decode cX12_laysFit 181 = .ok (.return_, 1) := by decide +kernel
theorem dX12_fit_0 : decode cX12_fit 0 = .ok (.aload_n 0, 1) := by decide +kernel
theorem dX12_fit_1 : decode cX12_fit 1 = .ok (.iconst 0, 1) := by decide +kernel
theorem dX12_fit_2 : decode cX12_fit 2 = .ok (.putfield 114, 3) := by decide +kernel
theorem dX12_fit_5 : decode cX12_fit 5 = .ok (.aload_n 0, 1) := by decide +kernel
theorem dX12_fit_6 : decode cX12_fit 6 = .ok (.iload_n 1, 1) := by decide +kernel
theorem dX12_fit_7 : decode cX12_fit 7 = .ok (.iconst (-1), 1) := by decide +kernel
theorem dX12_fit_8 : decode cX12_fit 8 = .ok (.if_icmp .lt 15, 3) := by decide +kernel
theorem dX12_fit_11 : decode cX12_fit 11 = .ok (.iload_n 1, 1) := by decide +kernel
theorem dX12_fit_12 : decode cX12_fit 12 = .ok (.aload_n 0, 1) := by decide +kernel
theorem dX12_fit_13 : decode cX12_fit 13 = .ok (.getfield 295, 3) := by decide +kernel
theorem dX12_fit_16 : decode cX12_fit 16 = .ok (.if_icmp .ge 7, 3) := by decide +kernel
theorem dX12_fit_19 : decode cX12_fit 19 = .ok (.iconst 1, 1) := by decide +kernel
theorem dX12_fit_20 : decode cX12_fit 20 = .ok (.goto 4, 3) := by decide +kernel
theorem dX12_fit_23 : decode cX12_fit 23 = .ok (.iconst 0, 1) := by decide +kernel
theorem dX12_fit_24 : decode cX12_fit 24 = .ok (.iconst 1, 1) := by decide +kernel
theorem dX12_fit_25 : decode cX12_fit 25 = .ok (.invokevirtual 282, 3) := by decide +kernel
theorem dX12_fit_28 : decode cX12_fit 28 = .ok (.ifCond .ne 5, 3) := by decide +kernel
theorem dX12_fit_31 : decode cX12_fit 31 = .ok (.iconst 0, 1) := by decide +kernel
theorem dX12_fit_32 : decode cX12_fit 32 = .ok (.ireturn, 1) := by decide +kernel
theorem dX12_fit_33 : decode cX12_fit 33 = .ok (.aload_n 0, 1) := by decide +kernel
theorem dX12_fit_34 : decode cX12_fit 34 = .ok (.invokevirtual 420, 3) := by decide +kernel
theorem dX12_fit_37 : decode cX12_fit 37 = .ok (.aload_n 0, 1) := by decide +kernel
theorem dX12_fit_38 : decode cX12_fit 38 = .ok (.iconst 0, 1) := by decide +kernel
theorem dX12_fit_39 : decode cX12_fit 39 = .ok (.iconst 0, 1) := by decide +kernel
theorem dX12_fit_40 : decode cX12_fit 40 = .ok (.invokevirtual 417, 3) := by decide +kernel
theorem dX12_fit_43 : decode cX12_fit 43 = .ok (.istore_n 2, 1) := by decide +kernel
theorem dX12_fit_44 : decode cX12_fit 44 = .ok (.iload_n 2, 1) := by decide +kernel
theorem dX12_fit_45 : decode cX12_fit 45 = .ok (.sipush 9999, 3) := by decide +kernel
theorem dX12_fit_48 : decode cX12_fit 48 = .ok (.if_icmp .lt 6, 3) := by decide +kernel
theorem dX12_fit_51 : decode cX12_fit 51 = .ok (.bipush (-2), 2) := by decide +kernel
theorem dX12_fit_53 : decode cX12_fit 53 = .ok (.ireturn, 1) := by decide +kernel
theorem dX12_fit_54 : decode cX12_fit 54 = .ok (.iload_n 1, 1) := by decide +kernel
theorem dX12_fit_55 : decode cX12_fit 55 = .ok (.iconst (-1), 1) := by decide +kernel
theorem dX12_fit_56 : decode cX12_fit 56 = .ok (.if_icmp .ne 5, 3) := by decide +kernel
theorem dX12_fit_59 : decode cX12_fit 59 = .ok (.iload_n 2, 1) := by decide +kernel
theorem dX12_fit_60 : decode cX12_fit 60 = .ok (.ireturn, 1) := by decide +kernel
theorem dX12_fit_61 : decode cX12_fit 61 = .ok (.iconst 0, 1) := by decide +kernel
theorem dX12_fit_62 : decode cX12_fit 62 = .ok (.istore_n 3, 1) := by decide +kernel
theorem dX12_fit_63 : decode cX12_fit 63 = .ok (.iconst (-1), 1) := by decide +kernel
theorem dX12_fit_64 : decode cX12_fit 64 = .ok (.istore 4, 2) := by decide +kernel
theorem dX12_fit_66 : decode cX12_fit 66 = .ok (.iconst 0, 1) := by decide +kernel
theorem dX12_fit_67 : decode cX12_fit 67 = .ok (.istore 5, 2) := by decide +kernel
theorem dX12_fit_69 : decode cX12_fit 69 = .ok (.iload 5, 2) := by decide +kernel
theorem dX12_fit_71 : decode cX12_fit 71 = .ok (.iload_n 1, 1) := by decide +kernel
theorem dX12_fit_72 : decode cX12_fit 72 = .ok (.if_icmp .gt 89, 3) := by decide +kernel
theorem dX12_fit_75 : decode cX12_fit 75 = .ok (.iconst (-1), 1) := by decide +kernel
theorem dX12_fit_76 : decode cX12_fit 76 = .ok (.istore 4, 2) := by decide +kernel
theorem dX12_fit_78 : decode cX12_fit 78 = .ok (.aload_n 0, 1) := by decide +kernel
theorem dX12_fit_79 : decode cX12_fit 79 = .ok (.getfield 289, 3) := by decide +kernel
theorem dX12_fit_82 : decode cX12_fit 82 = .ok (.iconst 1, 1) := by decide +kernel
theorem dX12_fit_83 : decode cX12_fit 83 = .ok (.isub, 1) := by decide +kernel
theorem dX12_fit_84 : decode cX12_fit 84 = .ok (.istore 6, 2) := by decide +kernel
theorem dX12_fit_86 : decode cX12_fit 86 = .ok (.iload 6, 2) := by decide +kernel
theorem dX12_fit_88 : decode cX12_fit 88 = .ok (.ifCond .lt 60, 3) := by decide +kernel
theorem dX12_fit_91 : decode cX12_fit 91 = .ok (.iload_n 3, 1) := by decide +kernel
theorem dX12_fit_92 : decode cX12_fit 92 = .ok (.iload 6, 2) := by decide +kernel
theorem dX12_fit_94 : decode cX12_fit 94 = .ok (.ishr, 1) := by decide +kernel
theorem dX12_fit_95 : decode cX12_fit 95 = .ok (.iconst 1, 1) := by decide +kernel
theorem dX12_fit_96 : decode cX12_fit 96 = .ok (.iand, 1) := by decide +kernel
theorem dX12_fit_97 : decode cX12_fit 97 = .ok (.ifCond .ne 45, 3) := by decide +kernel
theorem dX12_fit_100 : decode cX12_fit 100 = .ok (.aload_n 0, 1) := by decide +kernel
theorem dX12_fit_101 : decode cX12_fit 101 = .ok (.getfield 90, 3) := by decide +kernel
theorem dX12_fit_104 : decode cX12_fit 104 = .ok (.bipush 10, 2) := by decide +kernel
theorem dX12_fit_106 : decode cX12_fit 106 = .ok (.iload 5, 2) := by decide +kernel
theorem dX12_fit_108 : decode cX12_fit 108 = .ok (.imul, 1) := by decide +kernel
theorem dX12_fit_109 : decode cX12_fit 109 = .ok (.iload 6, 2) := by decide +kernel
theorem dX12_fit_111 : decode cX12_fit 111 = .ok (.iadd, 1) := by decide +kernel
theorem dX12_fit_112 : decode cX12_fit 112 = .ok (.iaload, 1) := by decide +kernel
theorem dX12_fit_113 : decode cX12_fit 113 = .ok (.aload_n 0, 1) := by decide +kernel
theorem dX12_fit_114 : decode cX12_fit 114 = .ok (.iload 5, 2) := by decide +kernel
theorem dX12_fit_116 : decode cX12_fit 116 = .ok (.iconst 1, 1) := by decide +kernel
theorem dX12_fit_117 : decode cX12_fit 117 = .ok (.iadd, 1) := by decide +kernel
theorem dX12_fit_118 : decode cX12_fit 118 = .ok (.iload_n 3, 1) := by decide +kernel
theorem dX12_fit_119 : decode cX12_fit 119 = .ok (.iconst 1, 1) := by decide +kernel
theorem dX12_fit_120 : decode cX12_fit 120 = .ok (.iload 6, 2) := by decide +kernel
theorem dX12_fit_122 : decode cX12_fit 122 = .ok (.ishl, 1) := by decide +kernel
theorem dX12_fit_123 : decode cX12_fit 123 = .ok (.ior, 1) := by decide +kernel
theorem dX12_fit_124 : decode cX12_fit 124 = .ok (.invokevirtual 417, 3) := by decide +kernel
theorem dX12_fit_127 : decode cX12_fit 127 = .ok (.iadd, 1) := by decide +kernel
theorem dX12_fit_128 : decode cX12_fit 128 = .ok (.aload_n 0, 1) := by decide +kernel
theorem dX12_fit_129 : decode cX12_fit 129 = .ok (.iload 5, 2) := by decide +kernel
theorem dX12_fit_131 : decode cX12_fit 131 = .ok (.iload_n 3, 1) := by decide +kernel
theorem dX12_fit_132 : decode cX12_fit 132 = .ok (.invokevirtual 417, 3) := by decide +kernel
theorem dX12_fit_135 : decode cX12_fit 135 = .ok (.if_icmp .ne 7, 3) := by decide +kernel
theorem dX12_fit_138 : decode cX12_fit 138 = .ok (.iload 6, 2) := by decide +kernel
theorem dX12_fit_140 : decode cX12_fit 140 = .ok (.istore 4, 2) := by decide +kernel
theorem dX12_fit_142 : decode cX12_fit 142 = .ok (.iinc 6 (-1), 3) := by decide +kernel
theorem dX12_fit_145 : decode cX12_fit 145 = .ok (.goto (-59), 3) := by decide +kernel
theorem dX12_fit_148 : decode cX12_fit 148 = .ok (.iload_n 3, 1) := by decide +kernel
theorem dX12_fit_149 : decode cX12_fit 149 = .ok (.iconst 1, 1) := by decide +kernel
theorem dX12_fit_150 : decode cX12_fit 150 = .ok (.iload 4, 2) := by decide +kernel
theorem dX12_fit_152 : decode cX12_fit 152 = .ok (.ishl, 1) := by decide +kernel
theorem dX12_fit_153 : decode cX12_fit 153 = .ok (.ior, 1) := by decide +kernel
theorem dX12_fit_154 : decode cX12_fit 154 = .ok (.istore_n 3, 1) := by decide +kernel
theorem dX12_fit_155 : decode cX12_fit 155 = .ok (.iinc 5 1, 3) := by decide +kernel
theorem dX12_fit_158 : decode cX12_fit 158 = .ok (.goto (-89), 3) := by decide +kernel
theorem dX12_fit_161 : decode cX12_fit 161 = .ok (.iload 4, 2) := by decide +kernel
theorem dX12_fit_163 : decode cX12_fit 163 = .ok (.ireturn, 1) := by decide +kernel
theorem dX12_notesOf_0 : decode cX12_notesOf 0 = .ok (.iconst 0, 1) := by decide +kernel
theorem dX12_notesOf_1 : decode cX12_notesOf 1 = .ok (.istore_n 2, 1) := by decide +kernel
theorem dX12_notesOf_2 : decode cX12_notesOf 2 = .ok (.iconst 0, 1) := by decide +kernel
theorem dX12_notesOf_3 : decode cX12_notesOf 3 = .ok (.istore_n 3, 1) := by decide +kernel
theorem dX12_notesOf_4 : decode cX12_notesOf 4 = .ok (.iload_n 3, 1) := by decide +kernel
theorem dX12_notesOf_5 : decode cX12_notesOf 5 = .ok (.aload_n 0, 1) := by decide +kernel
theorem dX12_notesOf_6 : decode cX12_notesOf 6 = .ok (.getfield 289, 3) := by decide +kernel
theorem dX12_notesOf_9 : decode cX12_notesOf 9 = .ok (.if_icmp .ge 33, 3) := by decide +kernel
theorem dX12_notesOf_12 : decode cX12_notesOf 12 = .ok (.iload_n 2, 1) := by decide +kernel
theorem dX12_notesOf_13 : decode cX12_notesOf 13 = .ok (.iload_n 1, 1) := by decide +kernel
theorem dX12_notesOf_14 : decode cX12_notesOf 14 = .ok (.iload_n 3, 1) := by decide +kernel
theorem dX12_notesOf_15 : decode cX12_notesOf 15 = .ok (.ishr, 1) := by decide +kernel
theorem dX12_notesOf_16 : decode cX12_notesOf 16 = .ok (.iconst 1, 1) := by decide +kernel
theorem dX12_notesOf_17 : decode cX12_notesOf 17 = .ok (.iand, 1) := by decide +kernel
theorem dX12_notesOf_18 : decode cX12_notesOf 18 = .ok (.iconst 1, 1) := by decide +kernel
theorem dX12_notesOf_19 : decode cX12_notesOf 19 = .ok (.if_icmp .ne 14, 3) := by decide +kernel
theorem dX12_notesOf_22 : decode cX12_notesOf 22 = .ok (.iconst 1, 1) := by decide +kernel
theorem dX12_notesOf_23 : decode cX12_notesOf 23 = .ok (.aload_n 0, 1) := by decide +kernel
theorem dX12_notesOf_24 : decode cX12_notesOf 24 = .ok (.iconst 0, 1) := by decide +kernel
theorem dX12_notesOf_25 : decode cX12_notesOf 25 = .ok (.iload_n 3, 1) := by decide +kernel
theorem dX12_notesOf_26 : decode cX12_notesOf 26 = .ok (.invokevirtual 348, 3) := by decide +kernel
theorem dX12_notesOf_29 : decode cX12_notesOf 29 = .ok (.ishl, 1) := by decide +kernel
theorem dX12_notesOf_30 : decode cX12_notesOf 30 = .ok (.goto 4, 3) := by decide +kernel
theorem dX12_notesOf_33 : decode cX12_notesOf 33 = .ok (.iconst 0, 1) := by decide +kernel
theorem dX12_notesOf_34 : decode cX12_notesOf 34 = .ok (.ior, 1) := by decide +kernel
theorem dX12_notesOf_35 : decode cX12_notesOf 35 = .ok (.istore_n 2, 1) := by decide +kernel
theorem dX12_notesOf_36 : decode cX12_notesOf 36 = .ok (.iinc 3 1, 3) := by decide +kernel
theorem dX12_notesOf_39 : decode cX12_notesOf 39 = .ok (.goto (-35), 3) := by decide +kernel
theorem dX12_notesOf_42 : decode cX12_notesOf 42 = .ok (.iload_n 2, 1) := by decide +kernel
theorem dX12_notesOf_43 : decode cX12_notesOf 43 = .ok (.ireturn, 1) := by decide +kernel
theorem dX12_keepers_0 : decode cX12_keepers 0 = .ok (.aload_n 0, 1) := by decide +kernel
theorem dX12_keepers_1 : decode cX12_keepers 1 = .ok (.iconst 0, 1) := by decide +kernel
theorem dX12_keepers_2 : decode cX12_keepers 2 = .ok (.putfield 114, 3) := by decide +kernel
theorem dX12_keepers_5 : decode cX12_keepers 5 = .ok (.aload_n 0, 1) := by decide +kernel
theorem dX12_keepers_6 : decode cX12_keepers 6 = .ok (.iconst 0, 1) := by decide +kernel
theorem dX12_keepers_7 : decode cX12_keepers 7 = .ok (.invokevirtual 357, 3) := by decide +kernel
theorem dX12_keepers_10 : decode cX12_keepers 10 = .ok (.istore_n 1, 1) := by decide +kernel
theorem dX12_keepers_11 : decode cX12_keepers 11 = .ok (.iconst (-1), 1) := by decide +kernel
theorem dX12_keepers_12 : decode cX12_keepers 12 = .ok (.istore_n 2, 1) := by decide +kernel
theorem dX12_keepers_13 : decode cX12_keepers 13 = .ok (.iconst 0, 1) := by decide +kernel
theorem dX12_keepers_14 : decode cX12_keepers 14 = .ok (.istore_n 3, 1) := by decide +kernel
theorem dX12_keepers_15 : decode cX12_keepers 15 = .ok (.iload_n 3, 1) := by decide +kernel
theorem dX12_keepers_16 : decode cX12_keepers 16 = .ok (.iload_n 1, 1) := by decide +kernel
theorem dX12_keepers_17 : decode cX12_keepers 17 = .ok (.if_icmp .gt 47, 3) := by decide +kernel
theorem dX12_keepers_20 : decode cX12_keepers 20 = .ok (.iload_n 3, 1) := by decide +kernel
theorem dX12_keepers_21 : decode cX12_keepers 21 = .ok (.iload_n 1, 1) := by decide +kernel
theorem dX12_keepers_22 : decode cX12_keepers 22 = .ok (.iconst (-1), 1) := by decide +kernel
theorem dX12_keepers_23 : decode cX12_keepers 23 = .ok (.ixor, 1) := by decide +kernel
theorem dX12_keepers_24 : decode cX12_keepers 24 = .ok (.iand, 1) := by decide +kernel
theorem dX12_keepers_25 : decode cX12_keepers 25 = .ok (.ifCond .ne 33, 3) := by decide +kernel
theorem dX12_keepers_28 : decode cX12_keepers 28 = .ok (.iload_n 2, 1) := by decide +kernel
theorem dX12_keepers_29 : decode cX12_keepers 29 = .ok (.iconst (-1), 1) := by decide +kernel
theorem dX12_keepers_30 : decode cX12_keepers 30 = .ok (.if_icmp .eq 14, 3) := by decide +kernel
theorem dX12_keepers_33 : decode cX12_keepers 33 = .ok (.iload_n 3, 1) := by decide +kernel
theorem dX12_keepers_34 : decode cX12_keepers 34 = .ok (.invokestatic 423, 3) := by decide +kernel
theorem dX12_keepers_37 : decode cX12_keepers 37 = .ok (.iload_n 2, 1) := by decide +kernel
theorem dX12_keepers_38 : decode cX12_keepers 38 = .ok (.invokestatic 423, 3) := by decide +kernel
theorem dX12_keepers_41 : decode cX12_keepers 41 = .ok (.if_icmp .ge 17, 3) := by decide +kernel
theorem dX12_keepers_44 : decode cX12_keepers 44 = .ok (.aload_n 0, 1) := by decide +kernel
theorem dX12_keepers_45 : decode cX12_keepers 45 = .ok (.aload_n 0, 1) := by decide +kernel
theorem dX12_keepers_46 : decode cX12_keepers 46 = .ok (.iload_n 3, 1) := by decide +kernel
theorem dX12_keepers_47 : decode cX12_keepers 47 = .ok (.invokevirtual 426, 3) := by decide +kernel
theorem dX12_keepers_50 : decode cX12_keepers 50 = .ok (.invokevirtual 387, 3) := by decide +kernel
theorem dX12_keepers_53 : decode cX12_keepers 53 = .ok (.ifCond .eq 5, 3) := by decide +kernel
theorem dX12_keepers_56 : decode cX12_keepers 56 = .ok (.iload_n 3, 1) := by decide +kernel
theorem dX12_keepers_57 : decode cX12_keepers 57 = .ok (.istore_n 2, 1) := by decide +kernel
theorem dX12_keepers_58 : decode cX12_keepers 58 = .ok (.iinc 3 1, 3) := by decide +kernel
theorem dX12_keepers_61 : decode cX12_keepers 61 = .ok (.goto (-46), 3) := by decide +kernel
theorem dX12_keepers_64 : decode cX12_keepers 64 = .ok (.iload_n 2, 1) := by decide +kernel
theorem dX12_keepers_65 : decode cX12_keepers 65 = .ok (.ireturn, 1) := by decide +kernel
theorem dX12_earliest_0 : decode cX12_earliest 0 = .ok (.aload_n 0, 1) := by decide +kernel
theorem dX12_earliest_1 : decode cX12_earliest 1 = .ok (.iconst 0, 1) := by decide +kernel
theorem dX12_earliest_2 : decode cX12_earliest 2 = .ok (.putfield 114, 3) := by decide +kernel
theorem dX12_earliest_5 : decode cX12_earliest 5 = .ok (.aload_n 0, 1) := by decide +kernel
theorem dX12_earliest_6 : decode cX12_earliest 6 = .ok (.invokevirtual 339, 3) := by decide +kernel
theorem dX12_earliest_9 : decode cX12_earliest 9 = .ok (.iconst 0, 1) := by decide +kernel
theorem dX12_earliest_10 : decode cX12_earliest 10 = .ok (.istore_n 1, 1) := by decide +kernel
theorem dX12_earliest_11 : decode cX12_earliest 11 = .ok (.iload_n 1, 1) := by decide +kernel
theorem dX12_earliest_12 : decode cX12_earliest 12 = .ok (.bipush 60, 2) := by decide +kernel
theorem dX12_earliest_14 : decode cX12_earliest 14 = .ok (.if_icmp .gt 89, 3) := by decide +kernel
theorem dX12_earliest_17 : decode cX12_earliest 17 = .ok (.iconst 0, 1) := by decide +kernel
theorem dX12_earliest_18 : decode cX12_earliest 18 = .ok (.istore_n 2, 1) := by decide +kernel
theorem dX12_earliest_19 : decode cX12_earliest 19 = .ok (.iconst 0, 1) := by decide +kernel
theorem dX12_earliest_20 : decode cX12_earliest 20 = .ok (.istore_n 3, 1) := by decide +kernel
theorem dX12_earliest_21 : decode cX12_earliest 21 = .ok (.iload_n 3, 1) := by decide +kernel
theorem dX12_earliest_22 : decode cX12_earliest 22 = .ok (.aload_n 0, 1) := by decide +kernel
theorem dX12_earliest_23 : decode cX12_earliest 23 = .ok (.getfield 289, 3) := by decide +kernel
theorem dX12_earliest_26 : decode cX12_earliest 26 = .ok (.if_icmp .ge 55, 3) := by decide +kernel
theorem dX12_earliest_29 : decode cX12_earliest 29 = .ok (.iload_n 2, 1) := by decide +kernel
theorem dX12_earliest_30 : decode cX12_earliest 30 = .ok (.aload_n 0, 1) := by decide +kernel
theorem dX12_earliest_31 : decode cX12_earliest 31 = .ok (.getfield 63, 3) := by decide +kernel
theorem dX12_earliest_34 : decode cX12_earliest 34 = .ok (.bipush 84, 2) := by decide +kernel
theorem dX12_earliest_36 : decode cX12_earliest 36 = .ok (.iload_n 3, 1) := by decide +kernel
theorem dX12_earliest_37 : decode cX12_earliest 37 = .ok (.iadd, 1) := by decide +kernel
theorem dX12_earliest_38 : decode cX12_earliest 38 = .ok (.iaload, 1) := by decide +kernel
theorem dX12_earliest_39 : decode cX12_earliest 39 = .ok (.bipush (-2), 2) := by decide +kernel
theorem dX12_earliest_41 : decode cX12_earliest 41 = .ok (.if_icmp .eq 31, 3) := by decide +kernel
theorem dX12_earliest_44 : decode cX12_earliest 44 = .ok (.aload_n 0, 1) := by decide +kernel
theorem dX12_earliest_45 : decode cX12_earliest 45 = .ok (.getfield 63, 3) := by decide +kernel
theorem dX12_earliest_48 : decode cX12_earliest 48 = .ok (.bipush 74, 2) := by decide +kernel
theorem dX12_earliest_50 : decode cX12_earliest 50 = .ok (.iload_n 3, 1) := by decide +kernel
theorem dX12_earliest_51 : decode cX12_earliest 51 = .ok (.iadd, 1) := by decide +kernel
theorem dX12_earliest_52 : decode cX12_earliest 52 = .ok (.iaload, 1) := by decide +kernel
theorem dX12_earliest_53 : decode cX12_earliest 53 = .ok (.aload_n 0, 1) := by decide +kernel
theorem dX12_earliest_54 : decode cX12_earliest 54 = .ok (.getfield 7, 3) := by decide +kernel
theorem dX12_earliest_57 : decode cX12_earliest 57 = .ok (.if_icmp .ge 15, 3) := by decide +kernel
theorem dX12_earliest_60 : decode cX12_earliest 60 = .ok (.iconst 1, 1) := by decide +kernel
theorem dX12_earliest_61 : decode cX12_earliest 61 = .ok (.aload_n 0, 1) := by decide +kernel
theorem dX12_earliest_62 : decode cX12_earliest 62 = .ok (.bipush 53, 2) := by decide +kernel
theorem dX12_earliest_64 : decode cX12_earliest 64 = .ok (.iload_n 3, 1) := by decide +kernel
theorem dX12_earliest_65 : decode cX12_earliest 65 = .ok (.invokevirtual 348, 3) := by decide +kernel
theorem dX12_earliest_68 : decode cX12_earliest 68 = .ok (.ishl, 1) := by decide +kernel
theorem dX12_earliest_69 : decode cX12_earliest 69 = .ok (.goto 4, 3) := by decide +kernel
theorem dX12_earliest_72 : decode cX12_earliest 72 = .ok (.iconst 0, 1) := by decide +kernel
theorem dX12_earliest_73 : decode cX12_earliest 73 = .ok (.ior, 1) := by decide +kernel
theorem dX12_earliest_74 : decode cX12_earliest 74 = .ok (.istore_n 2, 1) := by decide +kernel
theorem dX12_earliest_75 : decode cX12_earliest 75 = .ok (.iinc 3 1, 3) := by decide +kernel
theorem dX12_earliest_78 : decode cX12_earliest 78 = .ok (.goto (-57), 3) := by decide +kernel
theorem dX12_earliest_81 : decode cX12_earliest 81 = .ok (.aload_n 0, 1) := by decide +kernel
theorem dX12_earliest_82 : decode cX12_earliest 82 = .ok (.iload_n 2, 1) := by decide +kernel
theorem dX12_earliest_83 : decode cX12_earliest 83 = .ok (.invokevirtual 387, 3) := by decide +kernel
theorem dX12_earliest_86 : decode cX12_earliest 86 = .ok (.ifCond .eq 5, 3) := by decide +kernel
theorem dX12_earliest_89 : decode cX12_earliest 89 = .ok (.iload_n 1, 1) := by decide +kernel
theorem dX12_earliest_90 : decode cX12_earliest 90 = .ok (.ireturn, 1) := by decide +kernel
theorem dX12_earliest_91 : decode cX12_earliest 91 = .ok (.aload_n 0, 1) := by decide +kernel
theorem dX12_earliest_92 : decode cX12_earliest 92 = .ok (.bipush 53, 2) := by decide +kernel
theorem dX12_earliest_94 : decode cX12_earliest 94 = .ok (.invokevirtual 342, 3) := by decide +kernel
theorem dX12_earliest_97 : decode cX12_earliest 97 = .ok (.iinc 1 1, 3) := by decide +kernel
theorem dX12_earliest_100 : decode cX12_earliest 100 = .ok (.goto (-89), 3) := by decide +kernel
theorem dX12_earliest_103 : decode cX12_earliest 103 = .ok (.iconst (-1), 1) := by decide +kernel
theorem dX12_earliest_104 : decode cX12_earliest 104 = .ok (.ireturn, 1) := by decide +kernel
theorem dX12_hear_0 : decode cX12_hear 0 = .ok (.aload_n 0, 1) := by decide +kernel
theorem dX12_hear_1 : decode cX12_hear 1 = .ok (.iconst 0, 1) := by decide +kernel
theorem dX12_hear_2 : decode cX12_hear 2 = .ok (.putfield 114, 3) := by decide +kernel
theorem dX12_hear_5 : decode cX12_hear 5 = .ok (.aload_n 0, 1) := by decide +kernel
theorem dX12_hear_6 : decode cX12_hear 6 = .ok (.getfield 308, 3) := by decide +kernel
theorem dX12_hear_9 : decode cX12_hear 9 = .ok (.bipush 8, 2) := by decide +kernel
theorem dX12_hear_11 : decode cX12_hear 11 = .ok (.if_icmp .eq 23, 3) := by decide +kernel
theorem dX12_hear_14 : decode cX12_hear 14 = .ok (.iload_n 1, 1) := by decide +kernel
theorem dX12_hear_15 : decode cX12_hear 15 = .ok (.iconst 0, 1) := by decide +kernel
theorem dX12_hear_16 : decode cX12_hear 16 = .ok (.bipush 30, 2) := by decide +kernel
theorem dX12_hear_18 : decode cX12_hear 18 = .ok (.invokestatic 240, 3) := by decide +kernel
theorem dX12_hear_21 : decode cX12_hear 21 = .ok (.ifCond .eq 13, 3) := by decide +kernel
theorem dX12_hear_24 : decode cX12_hear 24 = .ok (.iload_n 2, 1) := by decide +kernel
theorem dX12_hear_25 : decode cX12_hear 25 = .ok (.iconst 0, 1) := by decide +kernel
theorem dX12_hear_26 : decode cX12_hear 26 = .ok (.bipush 15, 2) := by decide +kernel
theorem dX12_hear_28 : decode cX12_hear 28 = .ok (.invokestatic 240, 3) := by decide +kernel
theorem dX12_hear_31 : decode cX12_hear 31 = .ok (.ifCond .ne 9, 3) := by decide +kernel
theorem dX12_hear_34 : decode cX12_hear 34 = .ok (.aload_n 0, 1) := by decide +kernel
theorem dX12_hear_35 : decode cX12_hear 35 = .ok (.iconst 2, 1) := by decide +kernel
theorem dX12_hear_36 : decode cX12_hear 36 = .ok (.invokevirtual 372, 3) := by decide +kernel
theorem dX12_hear_39 : decode cX12_hear 39 = .ok (.ireturn, 1) := by decide +kernel
theorem dX12_hear_40 : decode cX12_hear 40 = .ok (.aload_n 0, 1) := by decide +kernel
theorem dX12_hear_41 : decode cX12_hear 41 = .ok (.getfield 96, 3) := by decide +kernel
theorem dX12_hear_44 : decode cX12_hear 44 = .ok (.iconst 3, 1) := by decide +kernel
theorem dX12_hear_45 : decode cX12_hear 45 = .ok (.aload_n 0, 1) := by decide +kernel
theorem dX12_hear_46 : decode cX12_hear 46 = .ok (.getfield 308, 3) := by decide +kernel
theorem dX12_hear_49 : decode cX12_hear 49 = .ok (.imul, 1) := by decide +kernel
theorem dX12_hear_50 : decode cX12_hear 50 = .ok (.iload_n 1, 1) := by decide +kernel
theorem dX12_hear_51 : decode cX12_hear 51 = .ok (.iastore, 1) := by decide +kernel
theorem dX12_hear_52 : decode cX12_hear 52 = .ok (.aload_n 0, 1) := by decide +kernel
theorem dX12_hear_53 : decode cX12_hear 53 = .ok (.getfield 96, 3) := by decide +kernel
theorem dX12_hear_56 : decode cX12_hear 56 = .ok (.iconst 3, 1) := by decide +kernel
theorem dX12_hear_57 : decode cX12_hear 57 = .ok (.aload_n 0, 1) := by decide +kernel
theorem dX12_hear_58 : decode cX12_hear 58 = .ok (.getfield 308, 3) := by decide +kernel
theorem dX12_hear_61 : decode cX12_hear 61 = .ok (.imul, 1) := by decide +kernel
theorem dX12_hear_62 : decode cX12_hear 62 = .ok (.iconst 1, 1) := by decide +kernel
theorem dX12_hear_63 : decode cX12_hear 63 = .ok (.iadd, 1) := by decide +kernel
theorem dX12_hear_64 : decode cX12_hear 64 = .ok (.iload_n 2, 1) := by decide +kernel
theorem dX12_hear_65 : decode cX12_hear 65 = .ok (.iastore, 1) := by decide +kernel
theorem dX12_hear_66 : decode cX12_hear 66 = .ok (.aload_n 0, 1) := by decide +kernel
theorem dX12_hear_67 : decode cX12_hear 67 = .ok (.getfield 96, 3) := by decide +kernel
theorem dX12_hear_70 : decode cX12_hear 70 = .ok (.iconst 3, 1) := by decide +kernel
theorem dX12_hear_71 : decode cX12_hear 71 = .ok (.aload_n 0, 1) := by decide +kernel
theorem dX12_hear_72 : decode cX12_hear 72 = .ok (.getfield 308, 3) := by decide +kernel
theorem dX12_hear_75 : decode cX12_hear 75 = .ok (.imul, 1) := by decide +kernel
theorem dX12_hear_76 : decode cX12_hear 76 = .ok (.iconst 2, 1) := by decide +kernel
theorem dX12_hear_77 : decode cX12_hear 77 = .ok (.iadd, 1) := by decide +kernel
theorem dX12_hear_78 : decode cX12_hear 78 = .ok (.iload_n 3, 1) := by decide +kernel
theorem dX12_hear_79 : decode cX12_hear 79 = .ok (.ifCond .eq 7, 3) := by decide +kernel
theorem dX12_hear_82 : decode cX12_hear 82 = .ok (.iconst 1, 1) := by decide +kernel
theorem dX12_hear_83 : decode cX12_hear 83 = .ok (.goto 4, 3) := by decide +kernel
theorem dX12_hear_86 : decode cX12_hear 86 = .ok (.iconst 0, 1) := by decide +kernel
theorem dX12_hear_87 : decode cX12_hear 87 = .ok (.iastore, 1) := by decide +kernel
theorem dX12_hear_88 : decode cX12_hear 88 = .ok (.aload_n 0, 1) := by decide +kernel
theorem dX12_hear_89 : decode cX12_hear 89 = .ok (.dup, 1) := by decide +kernel
theorem dX12_hear_90 : decode cX12_hear 90 = .ok (.getfield 308, 3) := by decide +kernel
theorem dX12_hear_93 : decode cX12_hear 93 = .ok (.iconst 1, 1) := by decide +kernel
theorem dX12_hear_94 : decode cX12_hear 94 = .ok (.iadd, 1) := by decide +kernel
theorem dX12_hear_95 : decode cX12_hear 95 = .ok (.putfield 308, 3) := by decide +kernel
theorem dX12_hear_98 : decode cX12_hear 98 = .ok (.aload_n 0, 1) := by decide +kernel
theorem dX12_hear_99 : decode cX12_hear 99 = .ok (.getfield 308, 3) := by decide +kernel
theorem dX12_hear_102 : decode cX12_hear 102 = .ok (.ireturn, 1) := by decide +kernel
theorem dX12_forget_0 : decode cX12_forget 0 = .ok (.aload_n 0, 1) := by decide +kernel
theorem dX12_forget_1 : decode cX12_forget 1 = .ok (.iconst 0, 1) := by decide +kernel
theorem dX12_forget_2 : decode cX12_forget 2 = .ok (.putfield 114, 3) := by decide +kernel
theorem dX12_forget_5 : decode cX12_forget 5 = .ok (.aload_n 0, 1) := by decide +kernel
theorem dX12_forget_6 : decode cX12_forget 6 = .ok (.iconst 0, 1) := by decide +kernel
theorem dX12_forget_7 : decode cX12_forget 7 = .ok (.putfield 308, 3) := by decide +kernel
theorem dX12_forget_10 : decode cX12_forget 10 = .ok (.return_, 1) := by decide +kernel
theorem dX12_isHeard_0 : decode cX12_isHeard 0 = .ok (.aload_n 0, 1) := by decide +kernel
theorem dX12_isHeard_1 : decode cX12_isHeard 1 = .ok (.invokevirtual 339, 3) := by decide +kernel
theorem dX12_isHeard_4 : decode cX12_isHeard 4 = .ok (.iconst 0, 1) := by decide +kernel
theorem dX12_isHeard_5 : decode cX12_isHeard 5 = .ok (.istore_n 3, 1) := by decide +kernel
theorem dX12_isHeard_6 : decode cX12_isHeard 6 = .ok (.iload_n 3, 1) := by decide +kernel
theorem dX12_isHeard_7 : decode cX12_isHeard 7 = .ok (.bipush 30, 2) := by decide +kernel
theorem dX12_isHeard_9 : decode cX12_isHeard 9 = .ok (.if_icmp .gt 48, 3) := by decide +kernel
theorem dX12_isHeard_12 : decode cX12_isHeard 12 = .ok (.iload_n 1, 1) := by decide +kernel
theorem dX12_isHeard_13 : decode cX12_isHeard 13 = .ok (.iconst (-1), 1) := by decide +kernel
theorem dX12_isHeard_14 : decode cX12_isHeard 14 = .ok (.if_icmp .eq 19, 3) := by decide +kernel
theorem dX12_isHeard_17 : decode cX12_isHeard 17 = .ok (.iload_n 3, 1) := by decide +kernel
theorem dX12_isHeard_18 : decode cX12_isHeard 18 = .ok (.iload_n 2, 1) := by decide +kernel
theorem dX12_isHeard_19 : decode cX12_isHeard 19 = .ok (.if_icmp .ne 14, 3) := by decide +kernel
theorem dX12_isHeard_22 : decode cX12_isHeard 22 = .ok (.aload_n 0, 1) := by decide +kernel
theorem dX12_isHeard_23 : decode cX12_isHeard 23 = .ok (.getfield 63, 3) := by decide +kernel
theorem dX12_isHeard_26 : decode cX12_isHeard 26 = .ok (.bipush 84, 2) := by decide +kernel
theorem dX12_isHeard_28 : decode cX12_isHeard 28 = .ok (.iload_n 1, 1) := by decide +kernel
theorem dX12_isHeard_29 : decode cX12_isHeard 29 = .ok (.iadd, 1) := by decide +kernel
theorem dX12_isHeard_30 : decode cX12_isHeard 30 = .ok (.bipush (-2), 2) := by decide +kernel
theorem dX12_isHeard_32 : decode cX12_isHeard 32 = .ok (.iastore, 1) := by decide +kernel
theorem dX12_isHeard_33 : decode cX12_isHeard 33 = .ok (.aload_n 0, 1) := by decide +kernel
theorem dX12_isHeard_34 : decode cX12_isHeard 34 = .ok (.getfield 99, 3) := by decide +kernel
theorem dX12_isHeard_37 : decode cX12_isHeard 37 = .ok (.iload_n 3, 1) := by decide +kernel
theorem dX12_isHeard_38 : decode cX12_isHeard 38 = .ok (.aload_n 0, 1) := by decide +kernel
theorem dX12_isHeard_39 : decode cX12_isHeard 39 = .ok (.bipush 53, 2) := by decide +kernel
theorem dX12_isHeard_41 : decode cX12_isHeard 41 = .ok (.invokevirtual 360, 3) := by decide +kernel
theorem dX12_isHeard_44 : decode cX12_isHeard 44 = .ok (.iastore, 1) := by decide +kernel
theorem dX12_isHeard_45 : decode cX12_isHeard 45 = .ok (.aload_n 0, 1) := by decide +kernel
theorem dX12_isHeard_46 : decode cX12_isHeard 46 = .ok (.bipush 53, 2) := by decide +kernel
theorem dX12_isHeard_48 : decode cX12_isHeard 48 = .ok (.invokevirtual 342, 3) := by decide +kernel
theorem dX12_isHeard_51 : decode cX12_isHeard 51 = .ok (.iinc 3 1, 3) := by decide +kernel
theorem dX12_isHeard_54 : decode cX12_isHeard 54 = .ok (.goto (-48), 3) := by decide +kernel
theorem dX12_isHeard_57 : decode cX12_isHeard 57 = .ok (.iconst 0, 1) := by decide +kernel
theorem dX12_isHeard_58 : decode cX12_isHeard 58 = .ok (.istore_n 3, 1) := by decide +kernel
theorem dX12_isHeard_59 : decode cX12_isHeard 59 = .ok (.iload_n 3, 1) := by decide +kernel
theorem dX12_isHeard_60 : decode cX12_isHeard 60 = .ok (.aload_n 0, 1) := by decide +kernel
theorem dX12_isHeard_61 : decode cX12_isHeard 61 = .ok (.getfield 308, 3) := by decide +kernel
theorem dX12_isHeard_64 : decode cX12_isHeard 64 = .ok (.if_icmp .ge 50, 3) := by decide +kernel
theorem dX12_isHeard_67 : decode cX12_isHeard 67 = .ok (.aload_n 0, 1) := by decide +kernel
theorem dX12_isHeard_68 : decode cX12_isHeard 68 = .ok (.getfield 99, 3) := by decide +kernel
theorem dX12_isHeard_71 : decode cX12_isHeard 71 = .ok (.aload_n 0, 1) := by decide +kernel
theorem dX12_isHeard_72 : decode cX12_isHeard 72 = .ok (.getfield 96, 3) := by decide +kernel
theorem dX12_isHeard_75 : decode cX12_isHeard 75 = .ok (.iconst 3, 1) := by decide +kernel
theorem dX12_isHeard_76 : decode cX12_isHeard 76 = .ok (.iload_n 3, 1) := by decide +kernel
theorem dX12_isHeard_77 : decode cX12_isHeard 77 = .ok (.imul, 1) := by decide +kernel
theorem dX12_isHeard_78 : decode cX12_isHeard 78 = .ok (.iaload, 1) := by decide +kernel
theorem dX12_isHeard_79 : decode cX12_isHeard 79 = .ok (.iaload, 1) := by decide +kernel
theorem dX12_isHeard_80 : decode cX12_isHeard 80 = .ok (.aload_n 0, 1) := by decide +kernel
theorem dX12_isHeard_81 : decode cX12_isHeard 81 = .ok (.getfield 96, 3) := by decide +kernel
theorem dX12_isHeard_84 : decode cX12_isHeard 84 = .ok (.iconst 3, 1) := by decide +kernel
theorem dX12_isHeard_85 : decode cX12_isHeard 85 = .ok (.iload_n 3, 1) := by decide +kernel
theorem dX12_isHeard_86 : decode cX12_isHeard 86 = .ok (.imul, 1) := by decide +kernel
theorem dX12_isHeard_87 : decode cX12_isHeard 87 = .ok (.iconst 1, 1) := by decide +kernel
theorem dX12_isHeard_88 : decode cX12_isHeard 88 = .ok (.iadd, 1) := by decide +kernel
theorem dX12_isHeard_89 : decode cX12_isHeard 89 = .ok (.iaload, 1) := by decide +kernel
theorem dX12_isHeard_90 : decode cX12_isHeard 90 = .ok (.ishr, 1) := by decide +kernel
theorem dX12_isHeard_91 : decode cX12_isHeard 91 = .ok (.iconst 1, 1) := by decide +kernel
theorem dX12_isHeard_92 : decode cX12_isHeard 92 = .ok (.iand, 1) := by decide +kernel
theorem dX12_isHeard_93 : decode cX12_isHeard 93 = .ok (.aload_n 0, 1) := by decide +kernel
theorem dX12_isHeard_94 : decode cX12_isHeard 94 = .ok (.getfield 96, 3) := by decide +kernel
theorem dX12_isHeard_97 : decode cX12_isHeard 97 = .ok (.iconst 3, 1) := by decide +kernel
theorem dX12_isHeard_98 : decode cX12_isHeard 98 = .ok (.iload_n 3, 1) := by decide +kernel
theorem dX12_isHeard_99 : decode cX12_isHeard 99 = .ok (.imul, 1) := by decide +kernel
theorem dX12_isHeard_100 : decode cX12_isHeard 100 = .ok (.iconst 2, 1) := by decide +kernel
theorem dX12_isHeard_101 : decode cX12_isHeard 101 = .ok (.iadd, 1) := by decide +kernel
theorem dX12_isHeard_102 : decode cX12_isHeard 102 = .ok (.iaload, 1) := by decide +kernel
theorem dX12_isHeard_103 : decode cX12_isHeard 103 = .ok (.if_icmp .eq 5, 3) := by decide +kernel
theorem dX12_isHeard_106 : decode cX12_isHeard 106 = .ok (.iconst 0, 1) := by decide +kernel
theorem dX12_isHeard_107 : decode cX12_isHeard 107 = .ok (.ireturn, 1) := by decide +kernel
theorem dX12_isHeard_108 : decode cX12_isHeard 108 = .ok (.iinc 3 1, 3) := by decide +kernel
theorem dX12_isHeard_111 : decode cX12_isHeard 111 = .ok (.goto (-52), 3) := by decide +kernel
theorem dX12_isHeard_114 : decode cX12_isHeard 114 = .ok (.iconst 1, 1) := by decide +kernel
theorem dX12_isHeard_115 : decode cX12_isHeard 115 = .ok (.ireturn, 1) := by decide +kernel
theorem dX12_isGuess_0 : decode cX12_isGuess 0 = .ok (.aload_n 0, 1) := by decide +kernel
theorem dX12_isGuess_1 : decode cX12_isGuess 1 = .ok (.getfield 63, 3) := by decide +kernel
theorem dX12_isGuess_4 : decode cX12_isGuess 4 = .ok (.bipush 31, 2) := by decide +kernel
theorem dX12_isGuess_6 : decode cX12_isGuess 6 = .ok (.iload_n 1, 1) := by decide +kernel
theorem dX12_isGuess_7 : decode cX12_isGuess 7 = .ok (.bipush 10, 2) := by decide +kernel
theorem dX12_isGuess_9 : decode cX12_isGuess 9 = .ok (.idiv, 1) := by decide +kernel
theorem dX12_isGuess_10 : decode cX12_isGuess 10 = .ok (.iadd, 1) := by decide +kernel
theorem dX12_isGuess_11 : decode cX12_isGuess 11 = .ok (.iaload, 1) := by decide +kernel
theorem dX12_isGuess_12 : decode cX12_isGuess 12 = .ok (.bipush (-2), 2) := by decide +kernel
theorem dX12_isGuess_14 : decode cX12_isGuess 14 = .ok (.if_icmp .eq 22, 3) := by decide +kernel
theorem dX12_isGuess_17 : decode cX12_isGuess 17 = .ok (.aload_n 0, 1) := by decide +kernel
theorem dX12_isGuess_18 : decode cX12_isGuess 18 = .ok (.iload_n 1, 1) := by decide +kernel
theorem dX12_isGuess_19 : decode cX12_isGuess 19 = .ok (.bipush 10, 2) := by decide +kernel
theorem dX12_isGuess_21 : decode cX12_isGuess 21 = .ok (.idiv, 1) := by decide +kernel
theorem dX12_isGuess_22 : decode cX12_isGuess 22 = .ok (.iload_n 1, 1) := by decide +kernel
theorem dX12_isGuess_23 : decode cX12_isGuess 23 = .ok (.bipush 10, 2) := by decide +kernel
theorem dX12_isGuess_25 : decode cX12_isGuess 25 = .ok (.irem, 1) := by decide +kernel
theorem dX12_isGuess_26 : decode cX12_isGuess 26 = .ok (.invokevirtual 429, 3) := by decide +kernel
theorem dX12_isGuess_29 : decode cX12_isGuess 29 = .ok (.ifCond .eq 7, 3) := by decide +kernel
theorem dX12_isGuess_32 : decode cX12_isGuess 32 = .ok (.iconst 1, 1) := by decide +kernel
theorem dX12_isGuess_33 : decode cX12_isGuess 33 = .ok (.goto 4, 3) := by decide +kernel
theorem dX12_isGuess_36 : decode cX12_isGuess 36 = .ok (.iconst 0, 1) := by decide +kernel
theorem dX12_isGuess_37 : decode cX12_isGuess 37 = .ok (.ireturn, 1) := by decide +kernel
theorem dX12_eaten_0 : decode cX12_eaten 0 = .ok (.aload_n 0, 1) := by decide +kernel
theorem dX12_eaten_1 : decode cX12_eaten 1 = .ok (.iconst 0, 1) := by decide +kernel
theorem dX12_eaten_2 : decode cX12_eaten 2 = .ok (.putfield 114, 3) := by decide +kernel
theorem dX12_eaten_5 : decode cX12_eaten 5 = .ok (.aload_n 0, 1) := by decide +kernel
theorem dX12_eaten_6 : decode cX12_eaten 6 = .ok (.iload_n 1, 1) := by decide +kernel
theorem dX12_eaten_7 : decode cX12_eaten 7 = .ok (.iconst 2, 1) := by decide +kernel
theorem dX12_eaten_8 : decode cX12_eaten 8 = .ok (.invokevirtual 366, 3) := by decide +kernel
theorem dX12_eaten_11 : decode cX12_eaten 11 = .ok (.ifCond .ne 5, 3) := by decide +kernel
theorem dX12_eaten_14 : decode cX12_eaten 14 = .ok (.iconst 0, 1) := by decide +kernel
theorem dX12_eaten_15 : decode cX12_eaten 15 = .ok (.ireturn, 1) := by decide +kernel
theorem dX12_eaten_16 : decode cX12_eaten 16 = .ok (.iload_n 1, 1) := by decide +kernel
theorem dX12_eaten_17 : decode cX12_eaten 17 = .ok (.iconst 2, 1) := by decide +kernel
theorem dX12_eaten_18 : decode cX12_eaten 18 = .ok (.if_icmp .ne 18, 3) := by decide +kernel
theorem dX12_eaten_21 : decode cX12_eaten 21 = .ok (.aload_n 0, 1) := by decide +kernel
theorem dX12_eaten_22 : decode cX12_eaten 22 = .ok (.iconst (-1), 1) := by decide +kernel
theorem dX12_eaten_23 : decode cX12_eaten 23 = .ok (.iconst 0, 1) := by decide +kernel
theorem dX12_eaten_24 : decode cX12_eaten 24 = .ok (.invokevirtual 429, 3) := by decide +kernel
theorem dX12_eaten_27 : decode cX12_eaten 27 = .ok (.ifCond .eq 7, 3) := by decide +kernel
theorem dX12_eaten_30 : decode cX12_eaten 30 = .ok (.iconst 1, 1) := by decide +kernel
theorem dX12_eaten_31 : decode cX12_eaten 31 = .ok (.goto 4, 3) := by decide +kernel
theorem dX12_eaten_34 : decode cX12_eaten 34 = .ok (.iconst 0, 1) := by decide +kernel
theorem dX12_eaten_35 : decode cX12_eaten 35 = .ok (.ireturn, 1) := by decide +kernel
theorem dX12_eaten_36 : decode cX12_eaten 36 = .ok (.iconst 0, 1) := by decide +kernel
theorem dX12_eaten_37 : decode cX12_eaten 37 = .ok (.istore_n 2, 1) := by decide +kernel
theorem dX12_eaten_38 : decode cX12_eaten 38 = .ok (.iconst (-1), 1) := by decide +kernel
theorem dX12_eaten_39 : decode cX12_eaten 39 = .ok (.istore_n 3, 1) := by decide +kernel
theorem dX12_eaten_40 : decode cX12_eaten 40 = .ok (.iconst 0, 1) := by decide +kernel
theorem dX12_eaten_41 : decode cX12_eaten 41 = .ok (.istore 4, 2) := by decide +kernel
theorem dX12_eaten_43 : decode cX12_eaten 43 = .ok (.iload 4, 2) := by decide +kernel
theorem dX12_eaten_45 : decode cX12_eaten 45 = .ok (.bipush 10, 2) := by decide +kernel
theorem dX12_eaten_47 : decode cX12_eaten 47 = .ok (.aload_n 0, 1) := by decide +kernel
theorem dX12_eaten_48 : decode cX12_eaten 48 = .ok (.getfield 289, 3) := by decide +kernel
theorem dX12_eaten_51 : decode cX12_eaten 51 = .ok (.imul, 1) := by decide +kernel
theorem dX12_eaten_52 : decode cX12_eaten 52 = .ok (.if_icmp .ge 32, 3) := by decide +kernel
theorem dX12_eaten_55 : decode cX12_eaten 55 = .ok (.aload_n 0, 1) := by decide +kernel
theorem dX12_eaten_56 : decode cX12_eaten 56 = .ok (.iload 4, 2) := by decide +kernel
theorem dX12_eaten_58 : decode cX12_eaten 58 = .ok (.invokevirtual 432, 3) := by decide +kernel
theorem dX12_eaten_61 : decode cX12_eaten 61 = .ok (.ifCond .ne 6, 3) := by decide +kernel
theorem dX12_eaten_64 : decode cX12_eaten 64 = .ok (.goto 14, 3) := by decide +kernel
theorem dX12_eaten_67 : decode cX12_eaten 67 = .ok (.iinc 2 1, 3) := by decide +kernel
theorem dX12_eaten_70 : decode cX12_eaten 70 = .ok (.iload_n 3, 1) := by decide +kernel
theorem dX12_eaten_71 : decode cX12_eaten 71 = .ok (.iconst (-1), 1) := by decide +kernel
theorem dX12_eaten_72 : decode cX12_eaten 72 = .ok (.if_icmp .ne 6, 3) := by decide +kernel
theorem dX12_eaten_75 : decode cX12_eaten 75 = .ok (.iload 4, 2) := by decide +kernel
theorem dX12_eaten_77 : decode cX12_eaten 77 = .ok (.istore_n 3, 1) := by decide +kernel
theorem dX12_eaten_78 : decode cX12_eaten 78 = .ok (.iinc 4 1, 3) := by decide +kernel
theorem dX12_eaten_81 : decode cX12_eaten 81 = .ok (.goto (-38), 3) := by decide +kernel
theorem dX12_eaten_84 : decode cX12_eaten 84 = .ok (.iload_n 1, 1) := by decide +kernel
theorem dX12_eaten_85 : decode cX12_eaten 85 = .ok (.ifCond .ne 7, 3) := by decide +kernel
theorem dX12_eaten_88 : decode cX12_eaten 88 = .ok (.iload_n 2, 1) := by decide +kernel
theorem dX12_eaten_89 : decode cX12_eaten 89 = .ok (.goto 4, 3) := by decide +kernel
theorem dX12_eaten_92 : decode cX12_eaten 92 = .ok (.iload_n 3, 1) := by decide +kernel
theorem dX12_eaten_93 : decode cX12_eaten 93 = .ok (.ireturn, 1) := by decide +kernel
theorem dX12_next_0 : decode cX12_next 0 = .ok (.aload_n 0, 1) := by decide +kernel
theorem dX12_next_1 : decode cX12_next 1 = .ok (.iconst 0, 1) := by decide +kernel
theorem dX12_next_2 : decode cX12_next 2 = .ok (.putfield 114, 3) := by decide +kernel
theorem dX12_next_5 : decode cX12_next 5 = .ok (.aload_n 0, 1) := by decide +kernel
theorem dX12_next_6 : decode cX12_next 6 = .ok (.iload_n 1, 1) := by decide +kernel
theorem dX12_next_7 : decode cX12_next 7 = .ok (.iconst 1, 1) := by decide +kernel
theorem dX12_next_8 : decode cX12_next 8 = .ok (.invokevirtual 366, 3) := by decide +kernel
theorem dX12_next_11 : decode cX12_next 11 = .ok (.ifCond .ne 5, 3) := by decide +kernel
theorem dX12_next_14 : decode cX12_next 14 = .ok (.iconst 0, 1) := by decide +kernel
theorem dX12_next_15 : decode cX12_next 15 = .ok (.ireturn, 1) := by decide +kernel
theorem dX12_next_16 : decode cX12_next 16 = .ok (.iconst 0, 1) := by decide +kernel
theorem dX12_next_17 : decode cX12_next 17 = .ok (.istore_n 2, 1) := by decide +kernel
theorem dX12_next_18 : decode cX12_next 18 = .ok (.iconst 0, 1) := by decide +kernel
theorem dX12_next_19 : decode cX12_next 19 = .ok (.istore_n 3, 1) := by decide +kernel
theorem dX12_next_20 : decode cX12_next 20 = .ok (.iload_n 3, 1) := by decide +kernel
theorem dX12_next_21 : decode cX12_next 21 = .ok (.bipush 10, 2) := by decide +kernel
theorem dX12_next_23 : decode cX12_next 23 = .ok (.aload_n 0, 1) := by decide +kernel
theorem dX12_next_24 : decode cX12_next 24 = .ok (.getfield 289, 3) := by decide +kernel
theorem dX12_next_27 : decode cX12_next 27 = .ok (.imul, 1) := by decide +kernel
theorem dX12_next_28 : decode cX12_next 28 = .ok (.if_icmp .ge 58, 3) := by decide +kernel
theorem dX12_next_31 : decode cX12_next 31 = .ok (.aload_n 0, 1) := by decide +kernel
theorem dX12_next_32 : decode cX12_next 32 = .ok (.iload_n 3, 1) := by decide +kernel
theorem dX12_next_33 : decode cX12_next 33 = .ok (.invokevirtual 432, 3) := by decide +kernel
theorem dX12_next_36 : decode cX12_next 36 = .ok (.ifCond .ne 6, 3) := by decide +kernel
theorem dX12_next_39 : decode cX12_next 39 = .ok (.goto 41, 3) := by decide +kernel
theorem dX12_next_42 : decode cX12_next 42 = .ok (.iconst 0, 1) := by decide +kernel
theorem dX12_next_43 : decode cX12_next 43 = .ok (.istore 4, 2) := by decide +kernel
theorem dX12_next_45 : decode cX12_next 45 = .ok (.iload 4, 2) := by decide +kernel
theorem dX12_next_47 : decode cX12_next 47 = .ok (.bipush 30, 2) := by decide +kernel
theorem dX12_next_49 : decode cX12_next 49 = .ok (.if_icmp .gt 28, 3) := by decide +kernel
theorem dX12_next_52 : decode cX12_next 52 = .ok (.aload_n 0, 1) := by decide +kernel
theorem dX12_next_53 : decode cX12_next 53 = .ok (.getfield 102, 3) := by decide +kernel
theorem dX12_next_56 : decode cX12_next 56 = .ok (.bipush 31, 2) := by decide +kernel
theorem dX12_next_58 : decode cX12_next 58 = .ok (.iload_n 2, 1) := by decide +kernel
theorem dX12_next_59 : decode cX12_next 59 = .ok (.imul, 1) := by decide +kernel
theorem dX12_next_60 : decode cX12_next 60 = .ok (.iload 4, 2) := by decide +kernel
theorem dX12_next_62 : decode cX12_next 62 = .ok (.iadd, 1) := by decide +kernel
theorem dX12_next_63 : decode cX12_next 63 = .ok (.aload_n 0, 1) := by decide +kernel
theorem dX12_next_64 : decode cX12_next 64 = .ok (.getfield 99, 3) := by decide +kernel
theorem dX12_next_67 : decode cX12_next 67 = .ok (.iload 4, 2) := by decide +kernel
theorem dX12_next_69 : decode cX12_next 69 = .ok (.iaload, 1) := by decide +kernel
theorem dX12_next_70 : decode cX12_next 70 = .ok (.iastore, 1) := by decide +kernel
theorem dX12_next_71 : decode cX12_next 71 = .ok (.iinc 4 1, 3) := by decide +kernel
theorem dX12_next_74 : decode cX12_next 74 = .ok (.goto (-29), 3) := by decide +kernel
theorem dX12_next_77 : decode cX12_next 77 = .ok (.iinc 2 1, 3) := by decide +kernel
theorem dX12_next_80 : decode cX12_next 80 = .ok (.iinc 3 1, 3) := by decide +kernel
theorem dX12_next_83 : decode cX12_next 83 = .ok (.goto (-63), 3) := by decide +kernel
theorem dX12_next_86 : decode cX12_next 86 = .ok (.iconst (-1), 1) := by decide +kernel
theorem dX12_next_87 : decode cX12_next 87 = .ok (.istore_n 3, 1) := by decide +kernel
theorem dX12_next_88 : decode cX12_next 88 = .ok (.iconst 0, 1) := by decide +kernel
theorem dX12_next_89 : decode cX12_next 89 = .ok (.istore 4, 2) := by decide +kernel
theorem dX12_next_91 : decode cX12_next 91 = .ok (.iconst 0, 1) := by decide +kernel
theorem dX12_next_92 : decode cX12_next 92 = .ok (.istore 5, 2) := by decide +kernel
theorem dX12_next_94 : decode cX12_next 94 = .ok (.iload 5, 2) := by decide +kernel
theorem dX12_next_96 : decode cX12_next 96 = .ok (.bipush 30, 2) := by decide +kernel
theorem dX12_next_98 : decode cX12_next 98 = .ok (.if_icmp .gt 119, 3) := by decide +kernel
theorem dX12_next_101 : decode cX12_next 101 = .ok (.iconst 0, 1) := by decide +kernel
theorem dX12_next_102 : decode cX12_next 102 = .ok (.istore 6, 2) := by decide +kernel
theorem dX12_next_104 : decode cX12_next 104 = .ok (.iconst 0, 1) := by decide +kernel
theorem dX12_next_105 : decode cX12_next 105 = .ok (.istore 7, 2) := by decide +kernel
theorem dX12_next_107 : decode cX12_next 107 = .ok (.iload 7, 2) := by decide +kernel
theorem dX12_next_109 : decode cX12_next 109 = .ok (.iload_n 2, 1) := by decide +kernel
theorem dX12_next_110 : decode cX12_next 110 = .ok (.if_icmp .ge 84, 3) := by decide +kernel
theorem dX12_next_113 : decode cX12_next 113 = .ok (.iconst 1, 1) := by decide +kernel
theorem dX12_next_114 : decode cX12_next 114 = .ok (.istore 8, 2) := by decide +kernel
theorem dX12_next_116 : decode cX12_next 116 = .ok (.iconst 0, 1) := by decide +kernel
theorem dX12_next_117 : decode cX12_next 117 = .ok (.istore 9, 2) := by decide +kernel
theorem dX12_next_119 : decode cX12_next 119 = .ok (.iload 9, 2) := by decide +kernel
theorem dX12_next_121 : decode cX12_next 121 = .ok (.iload 7, 2) := by decide +kernel
theorem dX12_next_123 : decode cX12_next 123 = .ok (.if_icmp .ge 50, 3) := by decide +kernel
theorem dX12_next_126 : decode cX12_next 126 = .ok (.iload 8, 2) := by decide +kernel
theorem dX12_next_128 : decode cX12_next 128 = .ok (.ifCond .eq 45, 3) := by decide +kernel
theorem dX12_next_131 : decode cX12_next 131 = .ok (.aload_n 0, 1) := by decide +kernel
theorem dX12_next_132 : decode cX12_next 132 = .ok (.getfield 102, 3) := by decide +kernel
theorem dX12_next_135 : decode cX12_next 135 = .ok (.bipush 31, 2) := by decide +kernel
theorem dX12_next_137 : decode cX12_next 137 = .ok (.iload 7, 2) := by decide +kernel
theorem dX12_next_139 : decode cX12_next 139 = .ok (.imul, 1) := by decide +kernel
theorem dX12_next_140 : decode cX12_next 140 = .ok (.iload 5, 2) := by decide +kernel
theorem dX12_next_142 : decode cX12_next 142 = .ok (.iadd, 1) := by decide +kernel
theorem dX12_next_143 : decode cX12_next 143 = .ok (.iaload, 1) := by decide +kernel
theorem dX12_next_144 : decode cX12_next 144 = .ok (.aload_n 0, 1) := by decide +kernel
theorem dX12_next_145 : decode cX12_next 145 = .ok (.getfield 102, 3) := by decide +kernel
theorem dX12_next_148 : decode cX12_next 148 = .ok (.bipush 31, 2) := by decide +kernel
theorem dX12_next_150 : decode cX12_next 150 = .ok (.iload 9, 2) := by decide +kernel
theorem dX12_next_152 : decode cX12_next 152 = .ok (.imul, 1) := by decide +kernel
theorem dX12_next_153 : decode cX12_next 153 = .ok (.iload 5, 2) := by decide +kernel
theorem dX12_next_155 : decode cX12_next 155 = .ok (.iadd, 1) := by decide +kernel
theorem dX12_next_156 : decode cX12_next 156 = .ok (.iaload, 1) := by decide +kernel
theorem dX12_next_157 : decode cX12_next 157 = .ok (.if_icmp .eq 7, 3) := by decide +kernel
theorem dX12_next_160 : decode cX12_next 160 = .ok (.iconst 1, 1) := by decide +kernel
theorem dX12_next_161 : decode cX12_next 161 = .ok (.goto 4, 3) := by decide +kernel
theorem dX12_next_164 : decode cX12_next 164 = .ok (.iconst 0, 1) := by decide +kernel
theorem dX12_next_165 : decode cX12_next 165 = .ok (.istore 8, 2) := by decide +kernel
theorem dX12_next_167 : decode cX12_next 167 = .ok (.iinc 9 1, 3) := by decide +kernel
theorem dX12_next_170 : decode cX12_next 170 = .ok (.goto (-51), 3) := by decide +kernel
theorem dX12_next_173 : decode cX12_next 173 = .ok (.iload 6, 2) := by decide +kernel
theorem dX12_next_175 : decode cX12_next 175 = .ok (.iload 8, 2) := by decide +kernel
theorem dX12_next_177 : decode cX12_next 177 = .ok (.ifCond .eq 7, 3) := by decide +kernel
theorem dX12_next_180 : decode cX12_next 180 = .ok (.iconst 1, 1) := by decide +kernel
theorem dX12_next_181 : decode cX12_next 181 = .ok (.goto 4, 3) := by decide +kernel
theorem dX12_next_184 : decode cX12_next 184 = .ok (.iconst 0, 1) := by decide +kernel
theorem dX12_next_185 : decode cX12_next 185 = .ok (.iadd, 1) := by decide +kernel
theorem dX12_next_186 : decode cX12_next 186 = .ok (.istore 6, 2) := by decide +kernel
theorem dX12_next_188 : decode cX12_next 188 = .ok (.iinc 7 1, 3) := by decide +kernel
theorem dX12_next_191 : decode cX12_next 191 = .ok (.goto (-84), 3) := by decide +kernel
theorem dX12_next_194 : decode cX12_next 194 = .ok (.iload 6, 2) := by decide +kernel
theorem dX12_next_196 : decode cX12_next 196 = .ok (.iload 4, 2) := by decide +kernel
theorem dX12_next_198 : decode cX12_next 198 = .ok (.if_icmp .gt 6, 3) := by decide +kernel
theorem dX12_next_201 : decode cX12_next 201 = .ok (.goto 10, 3) := by decide +kernel
theorem dX12_next_204 : decode cX12_next 204 = .ok (.iload 5, 2) := by decide +kernel
theorem dX12_next_206 : decode cX12_next 206 = .ok (.istore_n 3, 1) := by decide +kernel
theorem dX12_next_207 : decode cX12_next 207 = .ok (.iload 6, 2) := by decide +kernel
theorem dX12_next_209 : decode cX12_next 209 = .ok (.istore 4, 2) := by decide +kernel
theorem dX12_next_211 : decode cX12_next 211 = .ok (.iinc 5 1, 3) := by decide +kernel
theorem dX12_next_214 : decode cX12_next 214 = .ok (.goto (-120), 3) := by decide +kernel
theorem dX12_next_217 : decode cX12_next 217 = .ok (.iload_n 1, 1) := by decide +kernel
theorem dX12_next_218 : decode cX12_next 218 = .ok (.ifCond .ne 7, 3) := by decide +kernel
theorem dX12_next_221 : decode cX12_next 221 = .ok (.iload_n 3, 1) := by decide +kernel
theorem dX12_next_222 : decode cX12_next 222 = .ok (.goto 5, 3) := by decide +kernel
theorem dX12_next_225 : decode cX12_next 225 = .ok (.iload 4, 2) := by decide +kernel
theorem dX12_next_227 : decode cX12_next 227 = .ok (.ireturn, 1) := by decide +kernel
theorem dX12_noteWith_0 : decode cX12_noteWith 0 = .ok (.aload_n 0, 1) := by decide +kernel
theorem dX12_noteWith_1 : decode cX12_noteWith 1 = .ok (.invokevirtual 339, 3) := by decide +kernel
theorem dX12_noteWith_4 : decode cX12_noteWith 4 = .ok (.aload_n 0, 1) := by decide +kernel
theorem dX12_noteWith_5 : decode cX12_noteWith 5 = .ok (.getfield 63, 3) := by decide +kernel
theorem dX12_noteWith_8 : decode cX12_noteWith 8 = .ok (.bipush 64, 2) := by decide +kernel
theorem dX12_noteWith_10 : decode cX12_noteWith 10 = .ok (.iload_n 1, 1) := by decide +kernel
theorem dX12_noteWith_11 : decode cX12_noteWith 11 = .ok (.iadd, 1) := by decide +kernel
theorem dX12_noteWith_12 : decode cX12_noteWith 12 = .ok (.dup2, 1) := by decide +kernel
theorem dX12_noteWith_13 : decode cX12_noteWith 13 = .ok (.iaload, 1) := by decide +kernel
theorem dX12_noteWith_14 : decode cX12_noteWith 14 = .ok (.iload_n 2, 1) := by decide +kernel
theorem dX12_noteWith_15 : decode cX12_noteWith 15 = .ok (.iadd, 1) := by decide +kernel
theorem dX12_noteWith_16 : decode cX12_noteWith 16 = .ok (.iastore, 1) := by decide +kernel
theorem dX12_noteWith_17 : decode cX12_noteWith 17 = .ok (.aload_n 0, 1) := by decide +kernel
theorem dX12_noteWith_18 : decode cX12_noteWith 18 = .ok (.bipush 53, 2) := by decide +kernel
theorem dX12_noteWith_20 : decode cX12_noteWith 20 = .ok (.iload_n 1, 1) := by decide +kernel
theorem dX12_noteWith_21 : decode cX12_noteWith 21 = .ok (.invokevirtual 348, 3) := by decide +kernel
theorem dX12_noteWith_24 : decode cX12_noteWith 24 = .ok (.ireturn, 1) := by decide +kernel
theorem dX12_gains_0 : decode cX12_gains 0 = .ok (.aload_n 0, 1) := by decide +kernel
theorem dX12_gains_1 : decode cX12_gains 1 = .ok (.iload_n 1, 1) := by decide +kernel
theorem dX12_gains_2 : decode cX12_gains 2 = .ok (.iload_n 3, 1) := by decide +kernel
theorem dX12_gains_3 : decode cX12_gains 3 = .ok (.invokevirtual 435, 3) := by decide +kernel
theorem dX12_gains_6 : decode cX12_gains 6 = .ok (.istore 5, 2) := by decide +kernel
theorem dX12_gains_8 : decode cX12_gains 8 = .ok (.iconst 4, 1) := by decide +kernel
theorem dX12_gains_9 : decode cX12_gains 9 = .ok (.istore 6, 2) := by decide +kernel
theorem dX12_gains_11 : decode cX12_gains 11 = .ok (.iconst 0, 1) := by decide +kernel
theorem dX12_gains_12 : decode cX12_gains 12 = .ok (.istore 7, 2) := by decide +kernel
theorem dX12_gains_14 : decode cX12_gains 14 = .ok (.iload 7, 2) := by decide +kernel
theorem dX12_gains_16 : decode cX12_gains 16 = .ok (.aload_n 0, 1) := by decide +kernel
theorem dX12_gains_17 : decode cX12_gains 17 = .ok (.getfield 295, 3) := by decide +kernel
theorem dX12_gains_20 : decode cX12_gains 20 = .ok (.if_icmp .ge 62, 3) := by decide +kernel
theorem dX12_gains_23 : decode cX12_gains 23 = .ok (.iload 5, 2) := by decide +kernel
theorem dX12_gains_25 : decode cX12_gains 25 = .ok (.aload_n 0, 1) := by decide +kernel
theorem dX12_gains_26 : decode cX12_gains 26 = .ok (.getfield 26, 3) := by decide +kernel
theorem dX12_gains_29 : decode cX12_gains 29 = .ok (.iload 7, 2) := by decide +kernel
theorem dX12_gains_31 : decode cX12_gains 31 = .ok (.iaload, 1) := by decide +kernel
theorem dX12_gains_32 : decode cX12_gains 32 = .ok (.if_icmp .ge 16, 3) := by decide +kernel
theorem dX12_gains_35 : decode cX12_gains 35 = .ok (.aload_n 0, 1) := by decide +kernel
theorem dX12_gains_36 : decode cX12_gains 36 = .ok (.getfield 26, 3) := by decide +kernel
theorem dX12_gains_39 : decode cX12_gains 39 = .ok (.iload 7, 2) := by decide +kernel
theorem dX12_gains_41 : decode cX12_gains 41 = .ok (.iaload, 1) := by decide +kernel
theorem dX12_gains_42 : decode cX12_gains 42 = .ok (.iload 5, 2) := by decide +kernel
theorem dX12_gains_44 : decode cX12_gains 44 = .ok (.isub, 1) := by decide +kernel
theorem dX12_gains_45 : decode cX12_gains 45 = .ok (.goto 13, 3) := by decide +kernel
theorem dX12_gains_48 : decode cX12_gains 48 = .ok (.iload 5, 2) := by decide +kernel
theorem dX12_gains_50 : decode cX12_gains 50 = .ok (.aload_n 0, 1) := by decide +kernel
theorem dX12_gains_51 : decode cX12_gains 51 = .ok (.getfield 26, 3) := by decide +kernel
theorem dX12_gains_54 : decode cX12_gains 54 = .ok (.iload 7, 2) := by decide +kernel
theorem dX12_gains_56 : decode cX12_gains 56 = .ok (.iaload, 1) := by decide +kernel
theorem dX12_gains_57 : decode cX12_gains 57 = .ok (.isub, 1) := by decide +kernel
theorem dX12_gains_58 : decode cX12_gains 58 = .ok (.istore 8, 2) := by decide +kernel
theorem dX12_gains_60 : decode cX12_gains 60 = .ok (.iload 8, 2) := by decide +kernel
theorem dX12_gains_62 : decode cX12_gains 62 = .ok (.iload 6, 2) := by decide +kernel
theorem dX12_gains_64 : decode cX12_gains 64 = .ok (.if_icmp .ge 8, 3) := by decide +kernel
theorem dX12_gains_67 : decode cX12_gains 67 = .ok (.iload 8, 2) := by decide +kernel
theorem dX12_gains_69 : decode cX12_gains 69 = .ok (.goto 5, 3) := by decide +kernel
theorem dX12_gains_72 : decode cX12_gains 72 = .ok (.iload 6, 2) := by decide +kernel
theorem dX12_gains_74 : decode cX12_gains 74 = .ok (.istore 6, 2) := by decide +kernel
theorem dX12_gains_76 : decode cX12_gains 76 = .ok (.iinc 7 1, 3) := by decide +kernel
theorem dX12_gains_79 : decode cX12_gains 79 = .ok (.goto (-65), 3) := by decide +kernel
theorem dX12_gains_82 : decode cX12_gains 82 = .ok (.iconst 4, 1) := by decide +kernel
theorem dX12_gains_83 : decode cX12_gains 83 = .ok (.iload 6, 2) := by decide +kernel
theorem dX12_gains_85 : decode cX12_gains 85 = .ok (.isub, 1) := by decide +kernel
theorem dX12_gains_86 : decode cX12_gains 86 = .ok (.iload 5, 2) := by decide +kernel
theorem dX12_gains_88 : decode cX12_gains 88 = .ok (.aload_n 0, 1) := by decide +kernel
theorem dX12_gains_89 : decode cX12_gains 89 = .ok (.iload_n 2, 1) := by decide +kernel
theorem dX12_gains_90 : decode cX12_gains 90 = .ok (.iload 4, 2) := by decide +kernel
theorem dX12_gains_92 : decode cX12_gains 92 = .ok (.invokevirtual 435, 3) := by decide +kernel
theorem dX12_gains_95 : decode cX12_gains 95 = .ok (.if_icmp .ne 7, 3) := by decide +kernel
theorem dX12_gains_98 : decode cX12_gains 98 = .ok (.iconst 2, 1) := by decide +kernel
theorem dX12_gains_99 : decode cX12_gains 99 = .ok (.goto 4, 3) := by decide +kernel
theorem dX12_gains_102 : decode cX12_gains 102 = .ok (.iconst 0, 1) := by decide +kernel
theorem dX12_gains_103 : decode cX12_gains 103 = .ok (.isub, 1) := by decide +kernel
theorem dX12_gains_104 : decode cX12_gains 104 = .ok (.iload_n 3, 1) := by decide +kernel
theorem dX12_gains_105 : decode cX12_gains 105 = .ok (.isub, 1) := by decide +kernel
theorem dX12_gains_106 : decode cX12_gains 106 = .ok (.ireturn, 1) := by decide +kernel
theorem dX12_game_0 : decode cX12_game 0 = .ok (.aload_n 0, 1) := by decide +kernel
theorem dX12_game_1 : decode cX12_game 1 = .ok (.iconst 0, 1) := by decide +kernel
theorem dX12_game_2 : decode cX12_game 2 = .ok (.putfield 114, 3) := by decide +kernel
theorem dX12_game_5 : decode cX12_game 5 = .ok (.aload_n 0, 1) := by decide +kernel
theorem dX12_game_6 : decode cX12_game 6 = .ok (.iload_n 1, 1) := by decide +kernel
theorem dX12_game_7 : decode cX12_game 7 = .ok (.invokevirtual 363, 3) := by decide +kernel
theorem dX12_game_10 : decode cX12_game 10 = .ok (.ifCond .eq 56, 3) := by decide +kernel
theorem dX12_game_13 : decode cX12_game 13 = .ok (.aload_n 0, 1) := by decide +kernel
theorem dX12_game_14 : decode cX12_game 14 = .ok (.iload_n 2, 1) := by decide +kernel
theorem dX12_game_15 : decode cX12_game 15 = .ok (.invokevirtual 363, 3) := by decide +kernel
theorem dX12_game_18 : decode cX12_game 18 = .ok (.ifCond .eq 48, 3) := by decide +kernel
theorem dX12_game_21 : decode cX12_game 21 = .ok (.aload_n 0, 1) := by decide +kernel
theorem dX12_game_22 : decode cX12_game 22 = .ok (.iload_n 3, 1) := by decide +kernel
theorem dX12_game_23 : decode cX12_game 23 = .ok (.iconst 1, 1) := by decide +kernel
theorem dX12_game_24 : decode cX12_game 24 = .ok (.invokevirtual 366, 3) := by decide +kernel
theorem dX12_game_27 : decode cX12_game 27 = .ok (.ifCond .eq 39, 3) := by decide +kernel
theorem dX12_game_30 : decode cX12_game 30 = .ok (.aload_n 0, 1) := by decide +kernel
theorem dX12_game_31 : decode cX12_game 31 = .ok (.iload_n 1, 1) := by decide +kernel
theorem dX12_game_32 : decode cX12_game 32 = .ok (.iload_n 2, 1) := by decide +kernel
theorem dX12_game_33 : decode cX12_game 33 = .ok (.if_icmp .eq 25, 3) := by decide +kernel
theorem dX12_game_36 : decode cX12_game 36 = .ok (.aload_n 0, 1) := by decide +kernel
theorem dX12_game_37 : decode cX12_game 37 = .ok (.iconst 0, 1) := by decide +kernel
theorem dX12_game_38 : decode cX12_game 38 = .ok (.iload_n 1, 1) := by decide +kernel
theorem dX12_game_39 : decode cX12_game 39 = .ok (.invokevirtual 322, 3) := by decide +kernel
theorem dX12_game_42 : decode cX12_game 42 = .ok (.ifCond .eq 16, 3) := by decide +kernel
theorem dX12_game_45 : decode cX12_game 45 = .ok (.aload_n 0, 1) := by decide +kernel
theorem dX12_game_46 : decode cX12_game 46 = .ok (.iconst 0, 1) := by decide +kernel
theorem dX12_game_47 : decode cX12_game 47 = .ok (.iload_n 2, 1) := by decide +kernel
theorem dX12_game_48 : decode cX12_game 48 = .ok (.invokevirtual 322, 3) := by decide +kernel
theorem dX12_game_51 : decode cX12_game 51 = .ok (.ifCond .eq 7, 3) := by decide +kernel
theorem dX12_game_54 : decode cX12_game 54 = .ok (.iconst 1, 1) := by decide +kernel
theorem dX12_game_55 : decode cX12_game 55 = .ok (.goto 4, 3) := by decide +kernel
theorem dX12_game_58 : decode cX12_game 58 = .ok (.iconst 0, 1) := by decide +kernel
theorem dX12_game_59 : decode cX12_game 59 = .ok (.iconst 2, 1) := by decide +kernel
theorem dX12_game_60 : decode cX12_game 60 = .ok (.invokevirtual 282, 3) := by decide +kernel
theorem dX12_game_63 : decode cX12_game 63 = .ok (.ifCond .ne 5, 3) := by decide +kernel
theorem dX12_game_66 : decode cX12_game 66 = .ok (.iconst 0, 1) := by decide +kernel
theorem dX12_game_67 : decode cX12_game 67 = .ok (.ireturn, 1) := by decide +kernel
theorem dX12_game_68 : decode cX12_game 68 = .ok (.aload_n 0, 1) := by decide +kernel
theorem dX12_game_69 : decode cX12_game 69 = .ok (.iload_n 1, 1) := by decide +kernel
theorem dX12_game_70 : decode cX12_game 70 = .ok (.invokevirtual 369, 3) := by decide +kernel
theorem dX12_game_73 : decode cX12_game 73 = .ok (.ifCond .le 7, 3) := by decide +kernel
theorem dX12_game_76 : decode cX12_game 76 = .ok (.iconst 1, 1) := by decide +kernel
theorem dX12_game_77 : decode cX12_game 77 = .ok (.goto 4, 3) := by decide +kernel
theorem dX12_game_80 : decode cX12_game 80 = .ok (.iconst 0, 1) := by decide +kernel
theorem dX12_game_81 : decode cX12_game 81 = .ok (.istore 4, 2) := by decide +kernel
theorem dX12_game_83 : decode cX12_game 83 = .ok (.aload_n 0, 1) := by decide +kernel
theorem dX12_game_84 : decode cX12_game 84 = .ok (.iload_n 2, 1) := by decide +kernel
theorem dX12_game_85 : decode cX12_game 85 = .ok (.invokevirtual 369, 3) := by decide +kernel
theorem dX12_game_88 : decode cX12_game 88 = .ok (.ifCond .le 7, 3) := by decide +kernel
theorem dX12_game_91 : decode cX12_game 91 = .ok (.iconst 1, 1) := by decide +kernel
theorem dX12_game_92 : decode cX12_game 92 = .ok (.goto 4, 3) := by decide +kernel
theorem dX12_game_95 : decode cX12_game 95 = .ok (.iconst 0, 1) := by decide +kernel
theorem dX12_game_96 : decode cX12_game 96 = .ok (.istore 5, 2) := by decide +kernel
theorem dX12_game_98 : decode cX12_game 98 = .ok (.iconst 0, 1) := by decide +kernel
theorem dX12_game_99 : decode cX12_game 99 = .ok (.istore 6, 2) := by decide +kernel
theorem dX12_game_101 : decode cX12_game 101 = .ok (.iconst (-1), 1) := by decide +kernel
theorem dX12_game_102 : decode cX12_game 102 = .ok (.istore 7, 2) := by decide +kernel
theorem dX12_game_104 : decode cX12_game 104 = .ok (.iconst 0, 1) := by decide +kernel
theorem dX12_game_105 : decode cX12_game 105 = .ok (.istore 8, 2) := by decide +kernel
theorem dX12_game_107 : decode cX12_game 107 = .ok (.iload 8, 2) := by decide +kernel
theorem dX12_game_109 : decode cX12_game 109 = .ok (.iconst 4, 1) := by decide +kernel
theorem dX12_game_110 : decode cX12_game 110 = .ok (.if_icmp .ge 122, 3) := by decide +kernel
theorem dX12_game_113 : decode cX12_game 113 = .ok (.iload 8, 2) := by decide +kernel
theorem dX12_game_115 : decode cX12_game 115 = .ok (.iconst 2, 1) := by decide +kernel
theorem dX12_game_116 : decode cX12_game 116 = .ok (.idiv, 1) := by decide +kernel
theorem dX12_game_117 : decode cX12_game 117 = .ok (.istore 9, 2) := by decide +kernel
theorem dX12_game_119 : decode cX12_game 119 = .ok (.iload 8, 2) := by decide +kernel
theorem dX12_game_121 : decode cX12_game 121 = .ok (.iconst 2, 1) := by decide +kernel
theorem dX12_game_122 : decode cX12_game 122 = .ok (.irem, 1) := by decide +kernel
theorem dX12_game_123 : decode cX12_game 123 = .ok (.istore 10, 2) := by decide +kernel
theorem dX12_game_125 : decode cX12_game 125 = .ok (.iload 9, 2) := by decide +kernel
theorem dX12_game_127 : decode cX12_game 127 = .ok (.iload 4, 2) := by decide +kernel
theorem dX12_game_129 : decode cX12_game 129 = .ok (.if_icmp .gt 97, 3) := by decide +kernel
theorem dX12_game_132 : decode cX12_game 132 = .ok (.iload 10, 2) := by decide +kernel
theorem dX12_game_134 : decode cX12_game 134 = .ok (.iload 5, 2) := by decide +kernel
theorem dX12_game_136 : decode cX12_game 136 = .ok (.if_icmp .le 6, 3) := by decide +kernel
theorem dX12_game_139 : decode cX12_game 139 = .ok (.goto 87, 3) := by decide +kernel
theorem dX12_game_142 : decode cX12_game 142 = .ok (.iload 4, 2) := by decide +kernel
theorem dX12_game_144 : decode cX12_game 144 = .ok (.iconst 1, 1) := by decide +kernel
theorem dX12_game_145 : decode cX12_game 145 = .ok (.if_icmp .ne 28, 3) := by decide +kernel
theorem dX12_game_148 : decode cX12_game 148 = .ok (.aload_n 0, 1) := by decide +kernel
theorem dX12_game_149 : decode cX12_game 149 = .ok (.iload_n 1, 1) := by decide +kernel
theorem dX12_game_150 : decode cX12_game 150 = .ok (.iload_n 2, 1) := by decide +kernel
theorem dX12_game_151 : decode cX12_game 151 = .ok (.iconst 1, 1) := by decide +kernel
theorem dX12_game_152 : decode cX12_game 152 = .ok (.iload 9, 2) := by decide +kernel
theorem dX12_game_154 : decode cX12_game 154 = .ok (.isub, 1) := by decide +kernel
theorem dX12_game_155 : decode cX12_game 155 = .ok (.iload 10, 2) := by decide +kernel
theorem dX12_game_157 : decode cX12_game 157 = .ok (.invokevirtual 438, 3) := by decide +kernel
theorem dX12_game_160 : decode cX12_game 160 = .ok (.aload_n 0, 1) := by decide +kernel
theorem dX12_game_161 : decode cX12_game 161 = .ok (.iload_n 1, 1) := by decide +kernel
theorem dX12_game_162 : decode cX12_game 162 = .ok (.iload_n 2, 1) := by decide +kernel
theorem dX12_game_163 : decode cX12_game 163 = .ok (.iload 9, 2) := by decide +kernel
theorem dX12_game_165 : decode cX12_game 165 = .ok (.iload 10, 2) := by decide +kernel
theorem dX12_game_167 : decode cX12_game 167 = .ok (.invokevirtual 438, 3) := by decide +kernel
theorem dX12_game_170 : decode cX12_game 170 = .ok (.if_icmp .gt 56, 3) := by decide +kernel
theorem dX12_game_173 : decode cX12_game 173 = .ok (.iload 5, 2) := by decide +kernel
theorem dX12_game_175 : decode cX12_game 175 = .ok (.iconst 1, 1) := by decide +kernel
theorem dX12_game_176 : decode cX12_game 176 = .ok (.if_icmp .ne 31, 3) := by decide +kernel
theorem dX12_game_179 : decode cX12_game 179 = .ok (.aload_n 0, 1) := by decide +kernel
theorem dX12_game_180 : decode cX12_game 180 = .ok (.iload_n 2, 1) := by decide +kernel
theorem dX12_game_181 : decode cX12_game 181 = .ok (.iload_n 1, 1) := by decide +kernel
theorem dX12_game_182 : decode cX12_game 182 = .ok (.iconst 1, 1) := by decide +kernel
theorem dX12_game_183 : decode cX12_game 183 = .ok (.iload 10, 2) := by decide +kernel
theorem dX12_game_185 : decode cX12_game 185 = .ok (.isub, 1) := by decide +kernel
theorem dX12_game_186 : decode cX12_game 186 = .ok (.iload 9, 2) := by decide +kernel
theorem dX12_game_188 : decode cX12_game 188 = .ok (.invokevirtual 438, 3) := by decide +kernel
theorem dX12_game_191 : decode cX12_game 191 = .ok (.aload_n 0, 1) := by decide +kernel
theorem dX12_game_192 : decode cX12_game 192 = .ok (.iload_n 2, 1) := by decide +kernel
theorem dX12_game_193 : decode cX12_game 193 = .ok (.iload_n 1, 1) := by decide +kernel
theorem dX12_game_194 : decode cX12_game 194 = .ok (.iload 10, 2) := by decide +kernel
theorem dX12_game_196 : decode cX12_game 196 = .ok (.iload 9, 2) := by decide +kernel
theorem dX12_game_198 : decode cX12_game 198 = .ok (.invokevirtual 438, 3) := by decide +kernel
theorem dX12_game_201 : decode cX12_game 201 = .ok (.if_icmp .le 6, 3) := by decide +kernel
theorem dX12_game_204 : decode cX12_game 204 = .ok (.goto 22, 3) := by decide +kernel
theorem dX12_game_207 : decode cX12_game 207 = .ok (.iinc 6 1, 3) := by decide +kernel
theorem dX12_game_210 : decode cX12_game 210 = .ok (.iload 7, 2) := by decide +kernel
theorem dX12_game_212 : decode cX12_game 212 = .ok (.iconst (-1), 1) := by decide +kernel
theorem dX12_game_213 : decode cX12_game 213 = .ok (.if_icmp .ne 13, 3) := by decide +kernel
theorem dX12_game_216 : decode cX12_game 216 = .ok (.bipush 10, 2) := by decide +kernel
theorem dX12_game_218 : decode cX12_game 218 = .ok (.iload 9, 2) := by decide +kernel
theorem dX12_game_220 : decode cX12_game 220 = .ok (.imul, 1) := by decide +kernel
theorem dX12_game_221 : decode cX12_game 221 = .ok (.iload 10, 2) := by decide +kernel
theorem dX12_game_223 : decode cX12_game 223 = .ok (.iadd, 1) := by decide +kernel
theorem dX12_game_224 : decode cX12_game 224 = .ok (.istore 7, 2) := by decide +kernel
theorem dX12_game_226 : decode cX12_game 226 = .ok (.iinc 8 1, 3) := by decide +kernel
theorem dX12_game_229 : decode cX12_game 229 = .ok (.goto (-122), 3) := by decide +kernel
theorem dX12_game_232 : decode cX12_game 232 = .ok (.iload_n 3, 1) := by decide +kernel
theorem dX12_game_233 : decode cX12_game 233 = .ok (.ifCond .ne 8, 3) := by decide +kernel
theorem dX12_game_236 : decode cX12_game 236 = .ok (.iload 6, 2) := by decide +kernel
theorem dX12_game_238 : decode cX12_game 238 = .ok (.goto 5, 3) := by decide +kernel
theorem dX12_game_241 : decode cX12_game 241 = .ok (.iload 7, 2) := by decide +kernel
theorem dX12_game_243 : decode cX12_game 243 = .ok (.ireturn, 1) := by decide +kernel
theorem dX12_draw_0 : decode cX12_draw 0 = .ok (.aload_n 0, 1) := by decide +kernel
theorem dX12_draw_1 : decode cX12_draw 1 = .ok (.aload_n 0, 1) := by decide +kernel
theorem dX12_draw_2 : decode cX12_draw 2 = .ok (.getfield 442, 3) := by decide +kernel
theorem dX12_draw_5 : decode cX12_draw 5 = .ok (.ldc_w 445, 3) := by decide +kernel
theorem dX12_draw_8 : decode cX12_draw 8 = .ok (.imul, 1) := by decide +kernel
theorem dX12_draw_9 : decode cX12_draw 9 = .ok (.sipush 12345, 3) := by decide +kernel
theorem dX12_draw_12 : decode cX12_draw 12 = .ok (.iadd, 1) := by decide +kernel
theorem dX12_draw_13 : decode cX12_draw 13 = .ok (.putfield 442, 3) := by decide +kernel
theorem dX12_draw_16 : decode cX12_draw 16 = .ok (.aload_n 0, 1) := by decide +kernel
theorem dX12_draw_17 : decode cX12_draw 17 = .ok (.getfield 442, 3) := by decide +kernel
theorem dX12_draw_20 : decode cX12_draw 20 = .ok (.bipush 16, 2) := by decide +kernel
theorem dX12_draw_22 : decode cX12_draw 22 = .ok (.ishr, 1) := by decide +kernel
theorem dX12_draw_23 : decode cX12_draw 23 = .ok (.sipush 32767, 3) := by decide +kernel
theorem dX12_draw_26 : decode cX12_draw 26 = .ok (.iand, 1) := by decide +kernel
theorem dX12_draw_27 : decode cX12_draw 27 = .ok (.iload_n 1, 1) := by decide +kernel
theorem dX12_draw_28 : decode cX12_draw 28 = .ok (.irem, 1) := by decide +kernel
theorem dX12_draw_29 : decode cX12_draw 29 = .ok (.ireturn, 1) := by decide +kernel
theorem dX12_happens_0 : decode cX12_happens 0 = .ok (.aload_n 0, 1) := by decide +kernel
theorem dX12_happens_1 : decode cX12_happens 1 = .ok (.bipush 8, 2) := by decide +kernel
theorem dX12_happens_3 : decode cX12_happens 3 = .ok (.invokevirtual 446, 3) := by decide +kernel
theorem dX12_happens_6 : decode cX12_happens 6 = .ok (.istore_n 1, 1) := by decide +kernel
theorem dX12_happens_7 : decode cX12_happens 7 = .ok (.iload_n 1, 1) := by decide +kernel
theorem dX12_happens_8 : decode cX12_happens 8 = .ok (.iconst 1, 1) := by decide +kernel
theorem dX12_happens_9 : decode cX12_happens 9 = .ok (.if_icmp .gt 10, 3) := by decide +kernel
theorem dX12_happens_12 : decode cX12_happens 12 = .ok (.aload_n 0, 1) := by decide +kernel
theorem dX12_happens_13 : decode cX12_happens 13 = .ok (.getfield 289, 3) := by decide +kernel
theorem dX12_happens_16 : decode cX12_happens 16 = .ok (.ifCond .ne 4, 3) := by decide +kernel
theorem dX12_happens_19 : decode cX12_happens 19 = .ok (.return_, 1) := by decide +kernel
theorem dX12_happens_20 : decode cX12_happens 20 = .ok (.aload_n 0, 1) := by decide +kernel
theorem dX12_happens_21 : decode cX12_happens 21 = .ok (.aload_n 0, 1) := by decide +kernel
theorem dX12_happens_22 : decode cX12_happens 22 = .ok (.getfield 289, 3) := by decide +kernel
theorem dX12_happens_25 : decode cX12_happens 25 = .ok (.invokevirtual 446, 3) := by decide +kernel
theorem dX12_happens_28 : decode cX12_happens 28 = .ok (.istore_n 2, 1) := by decide +kernel
theorem dX12_happens_29 : decode cX12_happens 29 = .ok (.iload_n 1, 1) := by decide +kernel
theorem dX12_happens_30 : decode cX12_happens 30 = .ok (.ifCond .ne 27, 3) := by decide +kernel
theorem dX12_happens_33 : decode cX12_happens 33 = .ok (.aload_n 0, 1) := by decide +kernel
theorem dX12_happens_34 : decode cX12_happens 34 = .ok (.getfield 63, 3) := by decide +kernel
theorem dX12_happens_37 : decode cX12_happens 37 = .ok (.bipush 84, 2) := by decide +kernel
theorem dX12_happens_39 : decode cX12_happens 39 = .ok (.iload_n 2, 1) := by decide +kernel
theorem dX12_happens_40 : decode cX12_happens 40 = .ok (.iadd, 1) := by decide +kernel
theorem dX12_happens_41 : decode cX12_happens 41 = .ok (.iaload, 1) := by decide +kernel
theorem dX12_happens_42 : decode cX12_happens 42 = .ok (.iconst (-1), 1) := by decide +kernel
theorem dX12_happens_43 : decode cX12_happens 43 = .ok (.if_icmp .ne 14, 3) := by decide +kernel
theorem dX12_happens_46 : decode cX12_happens 46 = .ok (.aload_n 0, 1) := by decide +kernel
theorem dX12_happens_47 : decode cX12_happens 47 = .ok (.getfield 63, 3) := by decide +kernel
theorem dX12_happens_50 : decode cX12_happens 50 = .ok (.bipush 84, 2) := by decide +kernel
theorem dX12_happens_52 : decode cX12_happens 52 = .ok (.iload_n 2, 1) := by decide +kernel
theorem dX12_happens_53 : decode cX12_happens 53 = .ok (.iadd, 1) := by decide +kernel
theorem dX12_happens_54 : decode cX12_happens 54 = .ok (.bipush (-2), 2) := by decide +kernel
theorem dX12_happens_56 : decode cX12_happens 56 = .ok (.iastore, 1) := by decide +kernel
theorem dX12_happens_57 : decode cX12_happens 57 = .ok (.iload_n 1, 1) := by decide +kernel
theorem dX12_happens_58 : decode cX12_happens 58 = .ok (.iconst 1, 1) := by decide +kernel
theorem dX12_happens_59 : decode cX12_happens 59 = .ok (.if_icmp .ne 40, 3) := by decide +kernel
theorem dX12_happens_62 : decode cX12_happens 62 = .ok (.aload_n 0, 1) := by decide +kernel
theorem dX12_happens_63 : decode cX12_happens 63 = .ok (.bipush 53, 2) := by decide +kernel
theorem dX12_happens_65 : decode cX12_happens 65 = .ok (.iload_n 2, 1) := by decide +kernel
theorem dX12_happens_66 : decode cX12_happens 66 = .ok (.invokevirtual 322, 3) := by decide +kernel
theorem dX12_happens_69 : decode cX12_happens 69 = .ok (.ifCond .eq 30, 3) := by decide +kernel
theorem dX12_happens_72 : decode cX12_happens 72 = .ok (.aload_n 0, 1) := by decide +kernel
theorem dX12_happens_73 : decode cX12_happens 73 = .ok (.getfield 63, 3) := by decide +kernel
theorem dX12_happens_76 : decode cX12_happens 76 = .ok (.bipush 74, 2) := by decide +kernel
theorem dX12_happens_78 : decode cX12_happens 78 = .ok (.iload_n 2, 1) := by decide +kernel
theorem dX12_happens_79 : decode cX12_happens 79 = .ok (.iadd, 1) := by decide +kernel
theorem dX12_happens_80 : decode cX12_happens 80 = .ok (.aload_n 0, 1) := by decide +kernel
theorem dX12_happens_81 : decode cX12_happens 81 = .ok (.getfield 63, 3) := by decide +kernel
theorem dX12_happens_84 : decode cX12_happens 84 = .ok (.bipush 74, 2) := by decide +kernel
theorem dX12_happens_86 : decode cX12_happens 86 = .ok (.iload_n 2, 1) := by decide +kernel
theorem dX12_happens_87 : decode cX12_happens 87 = .ok (.iadd, 1) := by decide +kernel
theorem dX12_happens_88 : decode cX12_happens 88 = .ok (.iaload, 1) := by decide +kernel
theorem dX12_happens_89 : decode cX12_happens 89 = .ok (.bipush 9, 2) := by decide +kernel
theorem dX12_happens_91 : decode cX12_happens 91 = .ok (.iadd, 1) := by decide +kernel
theorem dX12_happens_92 : decode cX12_happens 92 = .ok (.iconst 0, 1) := by decide +kernel
theorem dX12_happens_93 : decode cX12_happens 93 = .ok (.bipush 99, 2) := by decide +kernel
theorem dX12_happens_95 : decode cX12_happens 95 = .ok (.invokestatic 326, 3) := by decide +kernel
theorem dX12_happens_98 : decode cX12_happens 98 = .ok (.iastore, 1) := by decide +kernel
theorem dX12_happens_99 : decode cX12_happens 99 = .ok (.return_, 1) := by decide +kernel
theorem dX12_towers_0 : decode cX12_towers 0 = .ok (.aload_n 0, 1) := by decide +kernel
theorem dX12_towers_1 : decode cX12_towers 1 = .ok (.iconst 0, 1) := by decide +kernel
theorem dX12_towers_2 : decode cX12_towers 2 = .ok (.putfield 114, 3) := by decide +kernel
theorem dX12_towers_5 : decode cX12_towers 5 = .ok (.aload_n 0, 1) := by decide +kernel
theorem dX12_towers_6 : decode cX12_towers 6 = .ok (.iload_n 3, 1) := by decide +kernel
theorem dX12_towers_7 : decode cX12_towers 7 = .ok (.iconst 2, 1) := by decide +kernel
theorem dX12_towers_8 : decode cX12_towers 8 = .ok (.invokevirtual 366, 3) := by decide +kernel
theorem dX12_towers_11 : decode cX12_towers 11 = .ok (.ifCond .eq 12, 3) := by decide +kernel
theorem dX12_towers_14 : decode cX12_towers 14 = .ok (.aload_n 0, 1) := by decide +kernel
theorem dX12_towers_15 : decode cX12_towers 15 = .ok (.iload_n 2, 1) := by decide +kernel
theorem dX12_towers_16 : decode cX12_towers 16 = .ok (.iconst 2, 1) := by decide +kernel
theorem dX12_towers_17 : decode cX12_towers 17 = .ok (.invokevirtual 378, 3) := by decide +kernel
theorem dX12_towers_20 : decode cX12_towers 20 = .ok (.ifCond .ne 5, 3) := by decide +kernel
theorem dX12_towers_23 : decode cX12_towers 23 = .ok (.iconst 0, 1) := by decide +kernel
theorem dX12_towers_24 : decode cX12_towers 24 = .ok (.ireturn, 1) := by decide +kernel
theorem dX12_towers_25 : decode cX12_towers 25 = .ok (.aload_n 0, 1) := by decide +kernel
theorem dX12_towers_26 : decode cX12_towers 26 = .ok (.invokevirtual 339, 3) := by decide +kernel
theorem dX12_towers_29 : decode cX12_towers 29 = .ok (.aload_n 0, 1) := by decide +kernel
theorem dX12_towers_30 : decode cX12_towers 30 = .ok (.iload_n 1, 1) := by decide +kernel
theorem dX12_towers_31 : decode cX12_towers 31 = .ok (.putfield 442, 3) := by decide +kernel
theorem dX12_towers_34 : decode cX12_towers 34 = .ok (.iconst 0, 1) := by decide +kernel
theorem dX12_towers_35 : decode cX12_towers 35 = .ok (.istore 4, 2) := by decide +kernel
theorem dX12_towers_37 : decode cX12_towers 37 = .ok (.iload 4, 2) := by decide +kernel
theorem dX12_towers_39 : decode cX12_towers 39 = .ok (.iload_n 2, 1) := by decide +kernel
theorem dX12_towers_40 : decode cX12_towers 40 = .ok (.if_icmp .ge 29, 3) := by decide +kernel
theorem dX12_towers_43 : decode cX12_towers 43 = .ok (.aload_n 0, 1) := by decide +kernel
theorem dX12_towers_44 : decode cX12_towers 44 = .ok (.invokevirtual 449, 3) := by decide +kernel
theorem dX12_towers_47 : decode cX12_towers 47 = .ok (.aload_n 0, 1) := by decide +kernel
theorem dX12_towers_48 : decode cX12_towers 48 = .ok (.aload_n 0, 1) := by decide +kernel
theorem dX12_towers_49 : decode cX12_towers 49 = .ok (.bipush 10, 2) := by decide +kernel
theorem dX12_towers_51 : decode cX12_towers 51 = .ok (.invokevirtual 446, 3) := by decide +kernel
theorem dX12_towers_54 : decode cX12_towers 54 = .ok (.putfield 75, 3) := by decide +kernel
theorem dX12_towers_57 : decode cX12_towers 57 = .ok (.aload_n 0, 1) := by decide +kernel
theorem dX12_towers_58 : decode cX12_towers 58 = .ok (.bipush 53, 2) := by decide +kernel
theorem dX12_towers_60 : decode cX12_towers 60 = .ok (.invokevirtual 342, 3) := by decide +kernel
theorem dX12_towers_63 : decode cX12_towers 63 = .ok (.iinc 4 1, 3) := by decide +kernel
theorem dX12_towers_66 : decode cX12_towers 66 = .ok (.goto (-29), 3) := by decide +kernel
theorem dX12_towers_69 : decode cX12_towers 69 = .ok (.aload_n 0, 1) := by decide +kernel
theorem dX12_towers_70 : decode cX12_towers 70 = .ok (.iconst (-1), 1) := by decide +kernel
theorem dX12_towers_71 : decode cX12_towers 71 = .ok (.putfield 75, 3) := by decide +kernel
theorem dX12_towers_74 : decode cX12_towers 74 = .ok (.aload_n 0, 1) := by decide +kernel
theorem dX12_towers_75 : decode cX12_towers 75 = .ok (.bipush 53, 2) := by decide +kernel
theorem dX12_towers_77 : decode cX12_towers 77 = .ok (.iconst (-1), 1) := by decide +kernel
theorem dX12_towers_78 : decode cX12_towers 78 = .ok (.invokevirtual 351, 3) := by decide +kernel
theorem dX12_towers_81 : decode cX12_towers 81 = .ok (.istore 4, 2) := by decide +kernel
theorem dX12_towers_83 : decode cX12_towers 83 = .ok (.iconst 0, 1) := by decide +kernel
theorem dX12_towers_84 : decode cX12_towers 84 = .ok (.istore 5, 2) := by decide +kernel
theorem dX12_towers_86 : decode cX12_towers 86 = .ok (.iconst 0, 1) := by decide +kernel
theorem dX12_towers_87 : decode cX12_towers 87 = .ok (.istore 6, 2) := by decide +kernel
theorem dX12_towers_89 : decode cX12_towers 89 = .ok (.iload 6, 2) := by decide +kernel
theorem dX12_towers_91 : decode cX12_towers 91 = .ok (.aload_n 0, 1) := by decide +kernel
theorem dX12_towers_92 : decode cX12_towers 92 = .ok (.getfield 289, 3) := by decide +kernel
theorem dX12_towers_95 : decode cX12_towers 95 = .ok (.if_icmp .ge 39, 3) := by decide +kernel
theorem dX12_towers_98 : decode cX12_towers 98 = .ok (.iload 5, 2) := by decide +kernel
theorem dX12_towers_100 : decode cX12_towers 100 = .ok (.iload 4, 2) := by decide +kernel
theorem dX12_towers_102 : decode cX12_towers 102 = .ok (.iload 6, 2) := by decide +kernel
theorem dX12_towers_104 : decode cX12_towers 104 = .ok (.ishr, 1) := by decide +kernel
theorem dX12_towers_105 : decode cX12_towers 105 = .ok (.iconst 1, 1) := by decide +kernel
theorem dX12_towers_106 : decode cX12_towers 106 = .ok (.iand, 1) := by decide +kernel
theorem dX12_towers_107 : decode cX12_towers 107 = .ok (.iconst 1, 1) := by decide +kernel
theorem dX12_towers_108 : decode cX12_towers 108 = .ok (.if_icmp .ne 16, 3) := by decide +kernel
theorem dX12_towers_111 : decode cX12_towers 111 = .ok (.aload_n 0, 1) := by decide +kernel
theorem dX12_towers_112 : decode cX12_towers 112 = .ok (.getfield 63, 3) := by decide +kernel
theorem dX12_towers_115 : decode cX12_towers 115 = .ok (.bipush 54, 2) := by decide +kernel
theorem dX12_towers_117 : decode cX12_towers 117 = .ok (.iload 6, 2) := by decide +kernel
theorem dX12_towers_119 : decode cX12_towers 119 = .ok (.iadd, 1) := by decide +kernel
theorem dX12_towers_120 : decode cX12_towers 120 = .ok (.iaload, 1) := by decide +kernel
theorem dX12_towers_121 : decode cX12_towers 121 = .ok (.goto 4, 3) := by decide +kernel
theorem dX12_towers_124 : decode cX12_towers 124 = .ok (.iconst 0, 1) := by decide +kernel
theorem dX12_towers_125 : decode cX12_towers 125 = .ok (.iadd, 1) := by decide +kernel
theorem dX12_towers_126 : decode cX12_towers 126 = .ok (.istore 5, 2) := by decide +kernel
theorem dX12_towers_128 : decode cX12_towers 128 = .ok (.iinc 6 1, 3) := by decide +kernel
theorem dX12_towers_131 : decode cX12_towers 131 = .ok (.goto (-42), 3) := by decide +kernel
theorem dX12_towers_134 : decode cX12_towers 134 = .ok (.iload_n 3, 1) := by decide +kernel
theorem dX12_towers_135 : decode cX12_towers 135 = .ok (.ifCond .ne 15, 3) := by decide +kernel
theorem dX12_towers_138 : decode cX12_towers 138 = .ok (.aload_n 0, 1) := by decide +kernel
theorem dX12_towers_139 : decode cX12_towers 139 = .ok (.bipush 53, 2) := by decide +kernel
theorem dX12_towers_141 : decode cX12_towers 141 = .ok (.invokevirtual 357, 3) := by decide +kernel
theorem dX12_towers_144 : decode cX12_towers 144 = .ok (.invokestatic 423, 3) := by decide +kernel
theorem dX12_towers_147 : decode cX12_towers 147 = .ok (.goto 24, 3) := by decide +kernel
theorem dX12_towers_150 : decode cX12_towers 150 = .ok (.iload_n 3, 1) := by decide +kernel
theorem dX12_towers_151 : decode cX12_towers 151 = .ok (.iconst 1, 1) := by decide +kernel
theorem dX12_towers_152 : decode cX12_towers 152 = .ok (.if_icmp .ne 17, 3) := by decide +kernel
theorem dX12_towers_155 : decode cX12_towers 155 = .ok (.aload_n 0, 1) := by decide +kernel
theorem dX12_towers_156 : decode cX12_towers 156 = .ok (.bipush 53, 2) := by decide +kernel
theorem dX12_towers_158 : decode cX12_towers 158 = .ok (.bipush (-2), 2) := by decide +kernel
theorem dX12_towers_160 : decode cX12_towers 160 = .ok (.invokevirtual 351, 3) := by decide +kernel
theorem dX12_towers_163 : decode cX12_towers 163 = .ok (.invokestatic 423, 3) := by decide +kernel
theorem dX12_towers_166 : decode cX12_towers 166 = .ok (.goto 5, 3) := by decide +kernel
theorem dX12_towers_169 : decode cX12_towers 169 = .ok (.iload 5, 2) := by decide +kernel
theorem dX12_towers_171 : decode cX12_towers 171 = .ok (.ireturn, 1) := by decide +kernel
theorem dX12_isNote_0 : decode cX12_isNote 0 = .ok (.aload_n 0, 1) := by decide +kernel
theorem dX12_isNote_1 : decode cX12_isNote 1 = .ok (.iload_n 1, 1) := by decide +kernel
theorem dX12_isNote_2 : decode cX12_isNote 2 = .ok (.iconst 0, 1) := by decide +kernel
theorem dX12_isNote_3 : decode cX12_isNote 3 = .ok (.bipush 15, 2) := by decide +kernel
theorem dX12_isNote_5 : decode cX12_isNote 5 = .ok (.invokestatic 240, 3) := by decide +kernel
theorem dX12_isNote_8 : decode cX12_isNote 8 = .ok (.iconst 1, 1) := by decide +kernel
theorem dX12_isNote_9 : decode cX12_isNote 9 = .ok (.invokevirtual 282, 3) := by decide +kernel
theorem dX12_isNote_12 : decode cX12_isNote 12 = .ok (.ireturn, 1) := by decide +kernel
theorem dX12_needed_0 : decode cX12_needed 0 = .ok (.aload_n 0, 1) := by decide +kernel
theorem dX12_needed_1 : decode cX12_needed 1 = .ok (.iconst 0, 1) := by decide +kernel
theorem dX12_needed_2 : decode cX12_needed 2 = .ok (.putfield 114, 3) := by decide +kernel
theorem dX12_needed_5 : decode cX12_needed 5 = .ok (.aload_n 0, 1) := by decide +kernel
theorem dX12_needed_6 : decode cX12_needed 6 = .ok (.iload_n 1, 1) := by decide +kernel
theorem dX12_needed_7 : decode cX12_needed 7 = .ok (.invokevirtual 363, 3) := by decide +kernel
theorem dX12_needed_10 : decode cX12_needed 10 = .ok (.ifCond .eq 11, 3) := by decide +kernel
theorem dX12_needed_13 : decode cX12_needed 13 = .ok (.aload_n 0, 1) := by decide +kernel
theorem dX12_needed_14 : decode cX12_needed 14 = .ok (.iload_n 2, 1) := by decide +kernel
theorem dX12_needed_15 : decode cX12_needed 15 = .ok (.invokevirtual 452, 3) := by decide +kernel
theorem dX12_needed_18 : decode cX12_needed 18 = .ok (.ifCond .ne 5, 3) := by decide +kernel
theorem dX12_needed_21 : decode cX12_needed 21 = .ok (.iconst 0, 1) := by decide +kernel
theorem dX12_needed_22 : decode cX12_needed 22 = .ok (.ireturn, 1) := by decide +kernel
theorem dX12_needed_23 : decode cX12_needed 23 = .ok (.aload_n 0, 1) := by decide +kernel
theorem dX12_needed_24 : decode cX12_needed 24 = .ok (.iload_n 1, 1) := by decide +kernel
theorem dX12_needed_25 : decode cX12_needed 25 = .ok (.iload_n 2, 1) := by decide +kernel
theorem dX12_needed_26 : decode cX12_needed 26 = .ok (.invokevirtual 414, 3) := by decide +kernel
theorem dX12_needed_29 : decode cX12_needed 29 = .ok (.istore_n 3, 1) := by decide +kernel
theorem dX12_needed_30 : decode cX12_needed 30 = .ok (.iload_n 3, 1) := by decide +kernel
theorem dX12_needed_31 : decode cX12_needed 31 = .ok (.sipush 9999, 3) := by decide +kernel
theorem dX12_needed_34 : decode cX12_needed 34 = .ok (.if_icmp .ne 7, 3) := by decide +kernel
theorem dX12_needed_37 : decode cX12_needed 37 = .ok (.iconst (-1), 1) := by decide +kernel
theorem dX12_needed_38 : decode cX12_needed 38 = .ok (.goto 4, 3) := by decide +kernel
theorem dX12_needed_41 : decode cX12_needed 41 = .ok (.iload_n 3, 1) := by decide +kernel
theorem dX12_needed_42 : decode cX12_needed 42 = .ok (.ireturn, 1) := by decide +kernel
theorem dX12_grown_0 : decode cX12_grown 0 = .ok (.aload_n 0, 1) := by decide +kernel
theorem dX12_grown_1 : decode cX12_grown 1 = .ok (.iconst 0, 1) := by decide +kernel
theorem dX12_grown_2 : decode cX12_grown 2 = .ok (.putfield 114, 3) := by decide +kernel
theorem dX12_grown_5 : decode cX12_grown 5 = .ok (.aload_n 0, 1) := by decide +kernel
theorem dX12_grown_6 : decode cX12_grown 6 = .ok (.iload_n 1, 1) := by decide +kernel
theorem dX12_grown_7 : decode cX12_grown 7 = .ok (.invokevirtual 363, 3) := by decide +kernel
theorem dX12_grown_10 : decode cX12_grown 10 = .ok (.ifCond .eq 11, 3) := by decide +kernel
theorem dX12_grown_13 : decode cX12_grown 13 = .ok (.aload_n 0, 1) := by decide +kernel
theorem dX12_grown_14 : decode cX12_grown 14 = .ok (.iload_n 2, 1) := by decide +kernel
theorem dX12_grown_15 : decode cX12_grown 15 = .ok (.invokevirtual 452, 3) := by decide +kernel
theorem dX12_grown_18 : decode cX12_grown 18 = .ok (.ifCond .ne 5, 3) := by decide +kernel
theorem dX12_grown_21 : decode cX12_grown 21 = .ok (.iconst 0, 1) := by decide +kernel
theorem dX12_grown_22 : decode cX12_grown 22 = .ok (.ireturn, 1) := by decide +kernel
theorem dX12_grown_23 : decode cX12_grown 23 = .ok (.aload_n 0, 1) := by decide +kernel
theorem dX12_grown_24 : decode cX12_grown 24 = .ok (.getfield 63, 3) := by decide +kernel
theorem dX12_grown_27 : decode cX12_grown 27 = .ok (.bipush 31, 2) := by decide +kernel
theorem dX12_grown_29 : decode cX12_grown 29 = .ok (.iload_n 1, 1) := by decide +kernel
theorem dX12_grown_30 : decode cX12_grown 30 = .ok (.iadd, 1) := by decide +kernel
theorem dX12_grown_31 : decode cX12_grown 31 = .ok (.iaload, 1) := by decide +kernel
theorem dX12_grown_32 : decode cX12_grown 32 = .ok (.iconst (-1), 1) := by decide +kernel
theorem dX12_grown_33 : decode cX12_grown 33 = .ok (.if_icmp .eq 5, 3) := by decide +kernel
theorem dX12_grown_36 : decode cX12_grown 36 = .ok (.iconst (-1), 1) := by decide +kernel
theorem dX12_grown_37 : decode cX12_grown 37 = .ok (.ireturn, 1) := by decide +kernel
theorem dX12_grown_38 : decode cX12_grown 38 = .ok (.aload_n 0, 1) := by decide +kernel
theorem dX12_grown_39 : decode cX12_grown 39 = .ok (.invokevirtual 339, 3) := by decide +kernel
theorem dX12_grown_42 : decode cX12_grown 42 = .ok (.iconst 0, 1) := by decide +kernel
theorem dX12_grown_43 : decode cX12_grown 43 = .ok (.istore_n 3, 1) := by decide +kernel
theorem dX12_grown_44 : decode cX12_grown 44 = .ok (.iload_n 3, 1) := by decide +kernel
theorem dX12_grown_45 : decode cX12_grown 45 = .ok (.bipush 60, 2) := by decide +kernel
theorem dX12_grown_47 : decode cX12_grown 47 = .ok (.if_icmp .gt 28, 3) := by decide +kernel
theorem dX12_grown_50 : decode cX12_grown 50 = .ok (.aload_n 0, 1) := by decide +kernel
theorem dX12_grown_51 : decode cX12_grown 51 = .ok (.bipush 53, 2) := by decide +kernel
theorem dX12_grown_53 : decode cX12_grown 53 = .ok (.iload_n 1, 1) := by decide +kernel
theorem dX12_grown_54 : decode cX12_grown 54 = .ok (.invokevirtual 348, 3) := by decide +kernel
theorem dX12_grown_57 : decode cX12_grown 57 = .ok (.iload_n 2, 1) := by decide +kernel
theorem dX12_grown_58 : decode cX12_grown 58 = .ok (.if_icmp .ne 5, 3) := by decide +kernel
theorem dX12_grown_61 : decode cX12_grown 61 = .ok (.iload_n 3, 1) := by decide +kernel
theorem dX12_grown_62 : decode cX12_grown 62 = .ok (.ireturn, 1) := by decide +kernel
theorem dX12_grown_63 : decode cX12_grown 63 = .ok (.aload_n 0, 1) := by decide +kernel
theorem dX12_grown_64 : decode cX12_grown 64 = .ok (.bipush 53, 2) := by decide +kernel
theorem dX12_grown_66 : decode cX12_grown 66 = .ok (.invokevirtual 342, 3) := by decide +kernel
theorem dX12_grown_69 : decode cX12_grown 69 = .ok (.iinc 3 1, 3) := by decide +kernel
theorem dX12_grown_72 : decode cX12_grown 72 = .ok (.goto (-28), 3) := by decide +kernel
theorem dX12_grown_75 : decode cX12_grown 75 = .ok (.iconst (-1), 1) := by decide +kernel
theorem dX12_grown_76 : decode cX12_grown 76 = .ok (.ireturn, 1) := by decide +kernel
theorem dX12_scale_0 : decode cX12_scale 0 = .ok (.aload_n 0, 1) := by decide +kernel
theorem dX12_scale_1 : decode cX12_scale 1 = .ok (.iconst 0, 1) := by decide +kernel
theorem dX12_scale_2 : decode cX12_scale 2 = .ok (.putfield 114, 3) := by decide +kernel
theorem dX12_scale_5 : decode cX12_scale 5 = .ok (.aload_n 0, 1) := by decide +kernel
theorem dX12_scale_6 : decode cX12_scale 6 = .ok (.iload_n 1, 1) := by decide +kernel
theorem dX12_scale_7 : decode cX12_scale 7 = .ok (.iconst 1, 1) := by decide +kernel
theorem dX12_scale_8 : decode cX12_scale 8 = .ok (.invokevirtual 366, 3) := by decide +kernel
theorem dX12_scale_11 : decode cX12_scale 11 = .ok (.ifCond .ne 5, 3) := by decide +kernel
theorem dX12_scale_14 : decode cX12_scale 14 = .ok (.iconst 0, 1) := by decide +kernel
theorem dX12_scale_15 : decode cX12_scale 15 = .ok (.ireturn, 1) := by decide +kernel
theorem dX12_scale_16 : decode cX12_scale 16 = .ok (.aload_n 0, 1) := by decide +kernel
theorem dX12_scale_17 : decode cX12_scale 17 = .ok (.iconst 0, 1) := by decide +kernel
theorem dX12_scale_18 : decode cX12_scale 18 = .ok (.invokevirtual 360, 3) := by decide +kernel
theorem dX12_scale_21 : decode cX12_scale 21 = .ok (.istore_n 2, 1) := by decide +kernel
theorem dX12_scale_22 : decode cX12_scale 22 = .ok (.iconst (-1), 1) := by decide +kernel
theorem dX12_scale_23 : decode cX12_scale 23 = .ok (.istore_n 3, 1) := by decide +kernel
theorem dX12_scale_24 : decode cX12_scale 24 = .ok (.iconst 0, 1) := by decide +kernel
theorem dX12_scale_25 : decode cX12_scale 25 = .ok (.istore 4, 2) := by decide +kernel
theorem dX12_scale_27 : decode cX12_scale 27 = .ok (.iconst 0, 1) := by decide +kernel
theorem dX12_scale_28 : decode cX12_scale 28 = .ok (.istore 5, 2) := by decide +kernel
theorem dX12_scale_30 : decode cX12_scale 30 = .ok (.iconst 0, 1) := by decide +kernel
theorem dX12_scale_31 : decode cX12_scale 31 = .ok (.istore 6, 2) := by decide +kernel
theorem dX12_scale_33 : decode cX12_scale 33 = .ok (.iload 6, 2) := by decide +kernel
theorem dX12_scale_35 : decode cX12_scale 35 = .ok (.bipush 16, 2) := by decide +kernel
theorem dX12_scale_37 : decode cX12_scale 37 = .ok (.if_icmp .ge 51, 3) := by decide +kernel
theorem dX12_scale_40 : decode cX12_scale 40 = .ok (.iload_n 2, 1) := by decide +kernel
theorem dX12_scale_41 : decode cX12_scale 41 = .ok (.iload 6, 2) := by decide +kernel
theorem dX12_scale_43 : decode cX12_scale 43 = .ok (.ishr, 1) := by decide +kernel
theorem dX12_scale_44 : decode cX12_scale 44 = .ok (.iconst 1, 1) := by decide +kernel
theorem dX12_scale_45 : decode cX12_scale 45 = .ok (.iand, 1) := by decide +kernel
theorem dX12_scale_46 : decode cX12_scale 46 = .ok (.iconst 1, 1) := by decide +kernel
theorem dX12_scale_47 : decode cX12_scale 47 = .ok (.if_icmp .ne 10, 3) := by decide +kernel
theorem dX12_scale_50 : decode cX12_scale 50 = .ok (.iload 5, 2) := by decide +kernel
theorem dX12_scale_52 : decode cX12_scale 52 = .ok (.iconst 1, 1) := by decide +kernel
theorem dX12_scale_53 : decode cX12_scale 53 = .ok (.iadd, 1) := by decide +kernel
theorem dX12_scale_54 : decode cX12_scale 54 = .ok (.goto 4, 3) := by decide +kernel
theorem dX12_scale_57 : decode cX12_scale 57 = .ok (.iconst 0, 1) := by decide +kernel
theorem dX12_scale_58 : decode cX12_scale 58 = .ok (.istore 5, 2) := by decide +kernel
theorem dX12_scale_60 : decode cX12_scale 60 = .ok (.iload 5, 2) := by decide +kernel
theorem dX12_scale_62 : decode cX12_scale 62 = .ok (.iload 4, 2) := by decide +kernel
theorem dX12_scale_64 : decode cX12_scale 64 = .ok (.if_icmp .gt 6, 3) := by decide +kernel
theorem dX12_scale_67 : decode cX12_scale 67 = .ok (.goto 15, 3) := by decide +kernel
theorem dX12_scale_70 : decode cX12_scale 70 = .ok (.iload 5, 2) := by decide +kernel
theorem dX12_scale_72 : decode cX12_scale 72 = .ok (.istore 4, 2) := by decide +kernel
theorem dX12_scale_74 : decode cX12_scale 74 = .ok (.iload 6, 2) := by decide +kernel
theorem dX12_scale_76 : decode cX12_scale 76 = .ok (.iload 5, 2) := by decide +kernel
theorem dX12_scale_78 : decode cX12_scale 78 = .ok (.isub, 1) := by decide +kernel
theorem dX12_scale_79 : decode cX12_scale 79 = .ok (.iconst 1, 1) := by decide +kernel
theorem dX12_scale_80 : decode cX12_scale 80 = .ok (.iadd, 1) := by decide +kernel
theorem dX12_scale_81 : decode cX12_scale 81 = .ok (.istore_n 3, 1) := by decide +kernel
theorem dX12_scale_82 : decode cX12_scale 82 = .ok (.iinc 6 1, 3) := by decide +kernel
theorem dX12_scale_85 : decode cX12_scale 85 = .ok (.goto (-52), 3) := by decide +kernel
theorem dX12_scale_88 : decode cX12_scale 88 = .ok (.iload_n 1, 1) := by decide +kernel
theorem dX12_scale_89 : decode cX12_scale 89 = .ok (.ifCond .ne 8, 3) := by decide +kernel
theorem dX12_scale_92 : decode cX12_scale 92 = .ok (.iload 4, 2) := by decide +kernel
theorem dX12_scale_94 : decode cX12_scale 94 = .ok (.goto 4, 3) := by decide +kernel
theorem dX12_scale_97 : decode cX12_scale 97 = .ok (.iload_n 3, 1) := by decide +kernel
theorem dX12_scale_98 : decode cX12_scale 98 = .ok (.ireturn, 1) := by decide +kernel
theorem dX12_mouth_0 : decode cX12_mouth 0 = .ok (.aload_n 0, 1) := by decide +kernel
theorem dX12_mouth_1 : decode cX12_mouth 1 = .ok (.iconst 0, 1) := by decide +kernel
theorem dX12_mouth_2 : decode cX12_mouth 2 = .ok (.putfield 114, 3) := by decide +kernel
theorem dX12_mouth_5 : decode cX12_mouth 5 = .ok (.aload_n 0, 1) := by decide +kernel
theorem dX12_mouth_6 : decode cX12_mouth 6 = .ok (.iload_n 1, 1) := by decide +kernel
theorem dX12_mouth_7 : decode cX12_mouth 7 = .ok (.iconst 1, 1) := by decide +kernel
theorem dX12_mouth_8 : decode cX12_mouth 8 = .ok (.invokevirtual 366, 3) := by decide +kernel
theorem dX12_mouth_11 : decode cX12_mouth 11 = .ok (.ifCond .ne 5, 3) := by decide +kernel
theorem dX12_mouth_14 : decode cX12_mouth 14 = .ok (.iconst 0, 1) := by decide +kernel
theorem dX12_mouth_15 : decode cX12_mouth 15 = .ok (.ireturn, 1) := by decide +kernel
theorem dX12_mouth_16 : decode cX12_mouth 16 = .ok (.iconst (-1), 1) := by decide +kernel
theorem dX12_mouth_17 : decode cX12_mouth 17 = .ok (.istore_n 2, 1) := by decide +kernel
theorem dX12_mouth_18 : decode cX12_mouth 18 = .ok (.iconst 0, 1) := by decide +kernel
theorem dX12_mouth_19 : decode cX12_mouth 19 = .ok (.istore_n 3, 1) := by decide +kernel
theorem dX12_mouth_20 : decode cX12_mouth 20 = .ok (.iconst 0, 1) := by decide +kernel
theorem dX12_mouth_21 : decode cX12_mouth 21 = .ok (.istore 4, 2) := by decide +kernel
theorem dX12_mouth_23 : decode cX12_mouth 23 = .ok (.iload 4, 2) := by decide +kernel
theorem dX12_mouth_25 : decode cX12_mouth 25 = .ok (.aload_n 0, 1) := by decide +kernel
theorem dX12_mouth_26 : decode cX12_mouth 26 = .ok (.getfield 289, 3) := by decide +kernel
theorem dX12_mouth_29 : decode cX12_mouth 29 = .ok (.if_icmp .ge 68, 3) := by decide +kernel
theorem dX12_mouth_32 : decode cX12_mouth 32 = .ok (.aload_n 0, 1) := by decide +kernel
theorem dX12_mouth_33 : decode cX12_mouth 33 = .ok (.iconst 0, 1) := by decide +kernel
theorem dX12_mouth_34 : decode cX12_mouth 34 = .ok (.iload 4, 2) := by decide +kernel
theorem dX12_mouth_36 : decode cX12_mouth 36 = .ok (.invokevirtual 345, 3) := by decide +kernel
theorem dX12_mouth_39 : decode cX12_mouth 39 = .ok (.ifCond .ne 6, 3) := by decide +kernel
theorem dX12_mouth_42 : decode cX12_mouth 42 = .ok (.goto 49, 3) := by decide +kernel
theorem dX12_mouth_45 : decode cX12_mouth 45 = .ok (.iload_n 1, 1) := by decide +kernel
theorem dX12_mouth_46 : decode cX12_mouth 46 = .ok (.ifCond .ne 16, 3) := by decide +kernel
theorem dX12_mouth_49 : decode cX12_mouth 49 = .ok (.bipush 15, 2) := by decide +kernel
theorem dX12_mouth_51 : decode cX12_mouth 51 = .ok (.aload_n 0, 1) := by decide +kernel
theorem dX12_mouth_52 : decode cX12_mouth 52 = .ok (.iconst 0, 1) := by decide +kernel
theorem dX12_mouth_53 : decode cX12_mouth 53 = .ok (.iload 4, 2) := by decide +kernel
theorem dX12_mouth_55 : decode cX12_mouth 55 = .ok (.invokevirtual 348, 3) := by decide +kernel
theorem dX12_mouth_58 : decode cX12_mouth 58 = .ok (.isub, 1) := by decide +kernel
theorem dX12_mouth_59 : decode cX12_mouth 59 = .ok (.goto 10, 3) := by decide +kernel
theorem dX12_mouth_62 : decode cX12_mouth 62 = .ok (.aload_n 0, 1) := by decide +kernel
theorem dX12_mouth_63 : decode cX12_mouth 63 = .ok (.iconst 0, 1) := by decide +kernel
theorem dX12_mouth_64 : decode cX12_mouth 64 = .ok (.iload 4, 2) := by decide +kernel
theorem dX12_mouth_66 : decode cX12_mouth 66 = .ok (.invokevirtual 348, 3) := by decide +kernel
theorem dX12_mouth_69 : decode cX12_mouth 69 = .ok (.istore 5, 2) := by decide +kernel
theorem dX12_mouth_71 : decode cX12_mouth 71 = .ok (.iload_n 2, 1) := by decide +kernel
theorem dX12_mouth_72 : decode cX12_mouth 72 = .ok (.iconst (-1), 1) := by decide +kernel
theorem dX12_mouth_73 : decode cX12_mouth 73 = .ok (.if_icmp .eq 12, 3) := by decide +kernel
theorem dX12_mouth_76 : decode cX12_mouth 76 = .ok (.iload 5, 2) := by decide +kernel
theorem dX12_mouth_78 : decode cX12_mouth 78 = .ok (.iload_n 3, 1) := by decide +kernel
theorem dX12_mouth_79 : decode cX12_mouth 79 = .ok (.if_icmp .gt 6, 3) := by decide +kernel
theorem dX12_mouth_82 : decode cX12_mouth 82 = .ok (.goto 9, 3) := by decide +kernel
theorem dX12_mouth_85 : decode cX12_mouth 85 = .ok (.iload 4, 2) := by decide +kernel
theorem dX12_mouth_87 : decode cX12_mouth 87 = .ok (.istore_n 2, 1) := by decide +kernel
theorem dX12_mouth_88 : decode cX12_mouth 88 = .ok (.iload 5, 2) := by decide +kernel
theorem dX12_mouth_90 : decode cX12_mouth 90 = .ok (.istore_n 3, 1) := by decide +kernel
theorem dX12_mouth_91 : decode cX12_mouth 91 = .ok (.iinc 4 1, 3) := by decide +kernel
theorem dX12_mouth_94 : decode cX12_mouth 94 = .ok (.goto (-71), 3) := by decide +kernel
theorem dX12_mouth_97 : decode cX12_mouth 97 = .ok (.iload_n 2, 1) := by decide +kernel
theorem dX12_mouth_98 : decode cX12_mouth 98 = .ok (.ireturn, 1) := by decide +kernel
theorem dX12_placeOf_0 : decode cX12_placeOf 0 = .ok (.iconst 0, 1) := by decide +kernel
theorem dX12_placeOf_1 : decode cX12_placeOf 1 = .ok (.istore_n 3, 1) := by decide +kernel
theorem dX12_placeOf_2 : decode cX12_placeOf 2 = .ok (.iload_n 3, 1) := by decide +kernel
theorem dX12_placeOf_3 : decode cX12_placeOf 3 = .ok (.iload_n 2, 1) := by decide +kernel
theorem dX12_placeOf_4 : decode cX12_placeOf 4 = .ok (.if_icmp .ge 26, 3) := by decide +kernel
theorem dX12_placeOf_7 : decode cX12_placeOf 7 = .ok (.aload_n 0, 1) := by decide +kernel
theorem dX12_placeOf_8 : decode cX12_placeOf 8 = .ok (.getfield 78, 3) := by decide +kernel
theorem dX12_placeOf_11 : decode cX12_placeOf 11 = .ok (.aload_n 0, 1) := by decide +kernel
theorem dX12_placeOf_12 : decode cX12_placeOf 12 = .ok (.getfield 84, 3) := by decide +kernel
theorem dX12_placeOf_15 : decode cX12_placeOf 15 = .ok (.iload_n 3, 1) := by decide +kernel
theorem dX12_placeOf_16 : decode cX12_placeOf 16 = .ok (.iaload, 1) := by decide +kernel
theorem dX12_placeOf_17 : decode cX12_placeOf 17 = .ok (.iaload, 1) := by decide +kernel
theorem dX12_placeOf_18 : decode cX12_placeOf 18 = .ok (.iload_n 1, 1) := by decide +kernel
theorem dX12_placeOf_19 : decode cX12_placeOf 19 = .ok (.if_icmp .ne 5, 3) := by decide +kernel
theorem dX12_placeOf_22 : decode cX12_placeOf 22 = .ok (.iload_n 3, 1) := by decide +kernel
theorem dX12_placeOf_23 : decode cX12_placeOf 23 = .ok (.ireturn, 1) := by decide +kernel
theorem dX12_placeOf_24 : decode cX12_placeOf 24 = .ok (.iinc 3 1, 3) := by decide +kernel
theorem dX12_placeOf_27 : decode cX12_placeOf 27 = .ok (.goto (-25), 3) := by decide +kernel
theorem dX12_placeOf_30 : decode cX12_placeOf 30 = .ok (.iconst (-1), 1) := by decide +kernel
theorem dX12_placeOf_31 : decode cX12_placeOf 31 = .ok (.ireturn, 1) := by decide +kernel
theorem dX12_leads_0 : decode cX12_leads 0 = .ok (.aload_n 0, 1) := by decide +kernel
theorem dX12_leads_1 : decode cX12_leads 1 = .ok (.iconst 0, 1) := by decide +kernel
theorem dX12_leads_2 : decode cX12_leads 2 = .ok (.putfield 114, 3) := by decide +kernel
theorem dX12_leads_5 : decode cX12_leads 5 = .ok (.aload_n 0, 1) := by decide +kernel
theorem dX12_leads_6 : decode cX12_leads 6 = .ok (.iload_n 1, 1) := by decide +kernel
theorem dX12_leads_7 : decode cX12_leads 7 = .ok (.invokevirtual 363, 3) := by decide +kernel
theorem dX12_leads_10 : decode cX12_leads 10 = .ok (.ifCond .eq 10, 3) := by decide +kernel
theorem dX12_leads_13 : decode cX12_leads 13 = .ok (.aload_n 0, 1) := by decide +kernel
theorem dX12_leads_14 : decode cX12_leads 14 = .ok (.getfield 298, 3) := by decide +kernel
theorem dX12_leads_17 : decode cX12_leads 17 = .ok (.ifCond .ne 5, 3) := by decide +kernel
theorem dX12_leads_20 : decode cX12_leads 20 = .ok (.iconst 0, 1) := by decide +kernel
theorem dX12_leads_21 : decode cX12_leads 21 = .ok (.ireturn, 1) := by decide +kernel
theorem dX12_leads_22 : decode cX12_leads 22 = .ok (.aload_n 0, 1) := by decide +kernel
theorem dX12_leads_23 : decode cX12_leads 23 = .ok (.aload_n 0, 1) := by decide +kernel
theorem dX12_leads_24 : decode cX12_leads 24 = .ok (.invokevirtual 354, 3) := by decide +kernel
theorem dX12_leads_27 : decode cX12_leads 27 = .ok (.invokevirtual 411, 3) := by decide +kernel
theorem dX12_leads_30 : decode cX12_leads 30 = .ok (.istore_n 2, 1) := by decide +kernel
theorem dX12_leads_31 : decode cX12_leads 31 = .ok (.iconst 0, 1) := by decide +kernel
theorem dX12_leads_32 : decode cX12_leads 32 = .ok (.istore_n 3, 1) := by decide +kernel
theorem dX12_leads_33 : decode cX12_leads 33 = .ok (.iconst 0, 1) := by decide +kernel
theorem dX12_leads_34 : decode cX12_leads 34 = .ok (.istore 4, 2) := by decide +kernel
theorem dX12_leads_36 : decode cX12_leads 36 = .ok (.iload 4, 2) := by decide +kernel
theorem dX12_leads_38 : decode cX12_leads 38 = .ok (.iload_n 2, 1) := by decide +kernel
theorem dX12_leads_39 : decode cX12_leads 39 = .ok (.if_icmp .ge 35, 3) := by decide +kernel
theorem dX12_leads_42 : decode cX12_leads 42 = .ok (.aload_n 0, 1) := by decide +kernel
theorem dX12_leads_43 : decode cX12_leads 43 = .ok (.iload 4, 2) := by decide +kernel
theorem dX12_leads_45 : decode cX12_leads 45 = .ok (.invokevirtual 402, 3) := by decide +kernel
theorem dX12_leads_48 : decode cX12_leads 48 = .ok (.istore 5, 2) := by decide +kernel
theorem dX12_leads_50 : decode cX12_leads 50 = .ok (.iload_n 3, 1) := by decide +kernel
theorem dX12_leads_51 : decode cX12_leads 51 = .ok (.aload_n 0, 1) := by decide +kernel
theorem dX12_leads_52 : decode cX12_leads 52 = .ok (.iload_n 1, 1) := by decide +kernel
theorem dX12_leads_53 : decode cX12_leads 53 = .ok (.iload 5, 2) := by decide +kernel
theorem dX12_leads_55 : decode cX12_leads 55 = .ok (.invokevirtual 455, 3) := by decide +kernel
theorem dX12_leads_58 : decode cX12_leads 58 = .ok (.ifCond .ne 7, 3) := by decide +kernel
theorem dX12_leads_61 : decode cX12_leads 61 = .ok (.iconst 1, 1) := by decide +kernel
theorem dX12_leads_62 : decode cX12_leads 62 = .ok (.goto 4, 3) := by decide +kernel
theorem dX12_leads_65 : decode cX12_leads 65 = .ok (.iconst 0, 1) := by decide +kernel
theorem dX12_leads_66 : decode cX12_leads 66 = .ok (.iadd, 1) := by decide +kernel
theorem dX12_leads_67 : decode cX12_leads 67 = .ok (.istore_n 3, 1) := by decide +kernel
theorem dX12_leads_68 : decode cX12_leads 68 = .ok (.iinc 4 1, 3) := by decide +kernel
theorem dX12_leads_71 : decode cX12_leads 71 = .ok (.goto (-35), 3) := by decide +kernel
theorem dX12_leads_74 : decode cX12_leads 74 = .ok (.iload_n 3, 1) := by decide +kernel
theorem dX12_leads_75 : decode cX12_leads 75 = .ok (.ireturn, 1) := by decide +kernel
theorem dX12_meets_0 : decode cX12_meets 0 = .ok (.aload_n 0, 1) := by decide +kernel
theorem dX12_meets_1 : decode cX12_meets 1 = .ok (.iconst 0, 1) := by decide +kernel
theorem dX12_meets_2 : decode cX12_meets 2 = .ok (.putfield 114, 3) := by decide +kernel
theorem dX12_meets_5 : decode cX12_meets 5 = .ok (.aload_n 0, 1) := by decide +kernel
theorem dX12_meets_6 : decode cX12_meets 6 = .ok (.iload_n 1, 1) := by decide +kernel
theorem dX12_meets_7 : decode cX12_meets 7 = .ok (.invokevirtual 363, 3) := by decide +kernel
theorem dX12_meets_10 : decode cX12_meets 10 = .ok (.ifCond .eq 23, 3) := by decide +kernel
theorem dX12_meets_13 : decode cX12_meets 13 = .ok (.aload_n 0, 1) := by decide +kernel
theorem dX12_meets_14 : decode cX12_meets 14 = .ok (.iload_n 2, 1) := by decide +kernel
theorem dX12_meets_15 : decode cX12_meets 15 = .ok (.invokevirtual 363, 3) := by decide +kernel
theorem dX12_meets_18 : decode cX12_meets 18 = .ok (.ifCond .eq 15, 3) := by decide +kernel
theorem dX12_meets_21 : decode cX12_meets 21 = .ok (.aload_n 0, 1) := by decide +kernel
theorem dX12_meets_22 : decode cX12_meets 22 = .ok (.getfield 298, 3) := by decide +kernel
theorem dX12_meets_25 : decode cX12_meets 25 = .ok (.ifCond .eq 8, 3) := by decide +kernel
theorem dX12_meets_28 : decode cX12_meets 28 = .ok (.iload_n 1, 1) := by decide +kernel
theorem dX12_meets_29 : decode cX12_meets 29 = .ok (.iload_n 2, 1) := by decide +kernel
theorem dX12_meets_30 : decode cX12_meets 30 = .ok (.if_icmp .ne 5, 3) := by decide +kernel
theorem dX12_meets_33 : decode cX12_meets 33 = .ok (.iconst 0, 1) := by decide +kernel
theorem dX12_meets_34 : decode cX12_meets 34 = .ok (.ireturn, 1) := by decide +kernel
theorem dX12_meets_35 : decode cX12_meets 35 = .ok (.aload_n 0, 1) := by decide +kernel
theorem dX12_meets_36 : decode cX12_meets 36 = .ok (.iconst 0, 1) := by decide +kernel
theorem dX12_meets_37 : decode cX12_meets 37 = .ok (.iload_n 1, 1) := by decide +kernel
theorem dX12_meets_38 : decode cX12_meets 38 = .ok (.invokevirtual 322, 3) := by decide +kernel
theorem dX12_meets_41 : decode cX12_meets 41 = .ok (.ifCond .eq 12, 3) := by decide +kernel
theorem dX12_meets_44 : decode cX12_meets 44 = .ok (.aload_n 0, 1) := by decide +kernel
theorem dX12_meets_45 : decode cX12_meets 45 = .ok (.iconst 0, 1) := by decide +kernel
theorem dX12_meets_46 : decode cX12_meets 46 = .ok (.iload_n 2, 1) := by decide +kernel
theorem dX12_meets_47 : decode cX12_meets 47 = .ok (.invokevirtual 322, 3) := by decide +kernel
theorem dX12_meets_50 : decode cX12_meets 50 = .ok (.ifCond .ne 5, 3) := by decide +kernel
theorem dX12_meets_53 : decode cX12_meets 53 = .ok (.iconst 0, 1) := by decide +kernel
theorem dX12_meets_54 : decode cX12_meets 54 = .ok (.ireturn, 1) := by decide +kernel
theorem dX12_meets_55 : decode cX12_meets 55 = .ok (.aload_n 0, 1) := by decide +kernel
theorem dX12_meets_56 : decode cX12_meets 56 = .ok (.aload_n 0, 1) := by decide +kernel
theorem dX12_meets_57 : decode cX12_meets 57 = .ok (.invokevirtual 354, 3) := by decide +kernel
theorem dX12_meets_60 : decode cX12_meets 60 = .ok (.invokevirtual 411, 3) := by decide +kernel
theorem dX12_meets_63 : decode cX12_meets 63 = .ok (.istore_n 3, 1) := by decide +kernel
theorem dX12_meets_64 : decode cX12_meets 64 = .ok (.iconst 0, 1) := by decide +kernel
theorem dX12_meets_65 : decode cX12_meets 65 = .ok (.istore 4, 2) := by decide +kernel
theorem dX12_meets_67 : decode cX12_meets 67 = .ok (.iconst 0, 1) := by decide +kernel
theorem dX12_meets_68 : decode cX12_meets 68 = .ok (.istore 5, 2) := by decide +kernel
theorem dX12_meets_70 : decode cX12_meets 70 = .ok (.iload 5, 2) := by decide +kernel
theorem dX12_meets_72 : decode cX12_meets 72 = .ok (.iload_n 3, 1) := by decide +kernel
theorem dX12_meets_73 : decode cX12_meets 73 = .ok (.if_icmp .ge 56, 3) := by decide +kernel
theorem dX12_meets_76 : decode cX12_meets 76 = .ok (.aload_n 0, 1) := by decide +kernel
theorem dX12_meets_77 : decode cX12_meets 77 = .ok (.iload 5, 2) := by decide +kernel
theorem dX12_meets_79 : decode cX12_meets 79 = .ok (.invokevirtual 402, 3) := by decide +kernel
theorem dX12_meets_82 : decode cX12_meets 82 = .ok (.istore 6, 2) := by decide +kernel
theorem dX12_meets_84 : decode cX12_meets 84 = .ok (.aload_n 0, 1) := by decide +kernel
theorem dX12_meets_85 : decode cX12_meets 85 = .ok (.iload_n 1, 1) := by decide +kernel
theorem dX12_meets_86 : decode cX12_meets 86 = .ok (.iload 6, 2) := by decide +kernel
theorem dX12_meets_88 : decode cX12_meets 88 = .ok (.invokevirtual 455, 3) := by decide +kernel
theorem dX12_meets_91 : decode cX12_meets 91 = .ok (.aload_n 0, 1) := by decide +kernel
theorem dX12_meets_92 : decode cX12_meets 92 = .ok (.iload_n 2, 1) := by decide +kernel
theorem dX12_meets_93 : decode cX12_meets 93 = .ok (.iload 6, 2) := by decide +kernel
theorem dX12_meets_95 : decode cX12_meets 95 = .ok (.invokevirtual 455, 3) := by decide +kernel
theorem dX12_meets_98 : decode cX12_meets 98 = .ok (.isub, 1) := by decide +kernel
theorem dX12_meets_99 : decode cX12_meets 99 = .ok (.istore 7, 2) := by decide +kernel
theorem dX12_meets_101 : decode cX12_meets 101 = .ok (.iload 4, 2) := by decide +kernel
theorem dX12_meets_103 : decode cX12_meets 103 = .ok (.iload 7, 2) := by decide +kernel
theorem dX12_meets_105 : decode cX12_meets 105 = .ok (.iconst 1, 1) := by decide +kernel
theorem dX12_meets_106 : decode cX12_meets 106 = .ok (.if_icmp .eq 9, 3) := by decide +kernel
theorem dX12_meets_109 : decode cX12_meets 109 = .ok (.iload 7, 2) := by decide +kernel
theorem dX12_meets_111 : decode cX12_meets 111 = .ok (.iconst (-1), 1) := by decide +kernel
theorem dX12_meets_112 : decode cX12_meets 112 = .ok (.if_icmp .ne 7, 3) := by decide +kernel
theorem dX12_meets_115 : decode cX12_meets 115 = .ok (.iconst 1, 1) := by decide +kernel
theorem dX12_meets_116 : decode cX12_meets 116 = .ok (.goto 4, 3) := by decide +kernel
theorem dX12_meets_119 : decode cX12_meets 119 = .ok (.iconst 0, 1) := by decide +kernel
theorem dX12_meets_120 : decode cX12_meets 120 = .ok (.iadd, 1) := by decide +kernel
theorem dX12_meets_121 : decode cX12_meets 121 = .ok (.istore 4, 2) := by decide +kernel
theorem dX12_meets_123 : decode cX12_meets 123 = .ok (.iinc 5 1, 3) := by decide +kernel
theorem dX12_meets_126 : decode cX12_meets 126 = .ok (.goto (-56), 3) := by decide +kernel
theorem dX12_meets_129 : decode cX12_meets 129 = .ok (.iload 4, 2) := by decide +kernel
theorem dX12_meets_131 : decode cX12_meets 131 = .ok (.ireturn, 1) := by decide +kernel
theorem dX12_without_0 : decode cX12_without 0 = .ok (.aload_n 0, 1) := by decide +kernel
theorem dX12_without_1 : decode cX12_without 1 = .ok (.iconst 0, 1) := by decide +kernel
theorem dX12_without_2 : decode cX12_without 2 = .ok (.putfield 114, 3) := by decide +kernel
theorem dX12_without_5 : decode cX12_without 5 = .ok (.aload_n 0, 1) := by decide +kernel
theorem dX12_without_6 : decode cX12_without 6 = .ok (.iload_n 1, 1) := by decide +kernel
theorem dX12_without_7 : decode cX12_without 7 = .ok (.invokevirtual 363, 3) := by decide +kernel
theorem dX12_without_10 : decode cX12_without 10 = .ok (.ifCond .ne 5, 3) := by decide +kernel
theorem dX12_without_13 : decode cX12_without 13 = .ok (.iconst 0, 1) := by decide +kernel
theorem dX12_without_14 : decode cX12_without 14 = .ok (.ireturn, 1) := by decide +kernel
theorem dX12_without_15 : decode cX12_without 15 = .ok (.iconst (-1), 1) := by decide +kernel
theorem dX12_without_16 : decode cX12_without 16 = .ok (.istore_n 2, 1) := by decide +kernel
theorem dX12_without_17 : decode cX12_without 17 = .ok (.aload_n 0, 1) := by decide +kernel
theorem dX12_without_18 : decode cX12_without 18 = .ok (.invokevirtual 339, 3) := by decide +kernel
theorem dX12_without_21 : decode cX12_without 21 = .ok (.aload_n 0, 1) := by decide +kernel
theorem dX12_without_22 : decode cX12_without 22 = .ok (.getfield 63, 3) := by decide +kernel
theorem dX12_without_25 : decode cX12_without 25 = .ok (.bipush 84, 2) := by decide +kernel
theorem dX12_without_27 : decode cX12_without 27 = .ok (.iload_n 1, 1) := by decide +kernel
theorem dX12_without_28 : decode cX12_without 28 = .ok (.iadd, 1) := by decide +kernel
theorem dX12_without_29 : decode cX12_without 29 = .ok (.bipush (-2), 2) := by decide +kernel
theorem dX12_without_31 : decode cX12_without 31 = .ok (.iastore, 1) := by decide +kernel
theorem dX12_without_32 : decode cX12_without 32 = .ok (.iconst 0, 1) := by decide +kernel
theorem dX12_without_33 : decode cX12_without 33 = .ok (.istore_n 3, 1) := by decide +kernel
theorem dX12_without_34 : decode cX12_without 34 = .ok (.iload_n 3, 1) := by decide +kernel
theorem dX12_without_35 : decode cX12_without 35 = .ok (.bipush 60, 2) := by decide +kernel
theorem dX12_without_37 : decode cX12_without 37 = .ok (.if_icmp .gt 34, 3) := by decide +kernel
theorem dX12_without_40 : decode cX12_without 40 = .ok (.aload_n 0, 1) := by decide +kernel
theorem dX12_without_41 : decode cX12_without 41 = .ok (.aload_n 0, 1) := by decide +kernel
theorem dX12_without_42 : decode cX12_without 42 = .ok (.bipush 53, 2) := by decide +kernel
theorem dX12_without_44 : decode cX12_without 44 = .ok (.invokevirtual 360, 3) := by decide +kernel
theorem dX12_without_47 : decode cX12_without 47 = .ok (.invokevirtual 387, 3) := by decide +kernel
theorem dX12_without_50 : decode cX12_without 50 = .ok (.ifCond .eq 7, 3) := by decide +kernel
theorem dX12_without_53 : decode cX12_without 53 = .ok (.iload_n 3, 1) := by decide +kernel
theorem dX12_without_54 : decode cX12_without 54 = .ok (.goto 4, 3) := by decide +kernel
theorem dX12_without_57 : decode cX12_without 57 = .ok (.iload_n 2, 1) := by decide +kernel
theorem dX12_without_58 : decode cX12_without 58 = .ok (.istore_n 2, 1) := by decide +kernel
theorem dX12_without_59 : decode cX12_without 59 = .ok (.aload_n 0, 1) := by decide +kernel
theorem dX12_without_60 : decode cX12_without 60 = .ok (.bipush 53, 2) := by decide +kernel
theorem dX12_without_62 : decode cX12_without 62 = .ok (.invokevirtual 342, 3) := by decide +kernel
theorem dX12_without_65 : decode cX12_without 65 = .ok (.iinc 3 1, 3) := by decide +kernel
theorem dX12_without_68 : decode cX12_without 68 = .ok (.goto (-34), 3) := by decide +kernel
theorem dX12_without_71 : decode cX12_without 71 = .ok (.iload_n 2, 1) := by decide +kernel
theorem dX12_without_72 : decode cX12_without 72 = .ok (.ireturn, 1) := by decide +kernel
theorem dX12_often_0 : decode cX12_often 0 = .ok (.aload_n 0, 1) := by decide +kernel
theorem dX12_often_1 : decode cX12_often 1 = .ok (.iconst 0, 1) := by decide +kernel
theorem dX12_often_2 : decode cX12_often 2 = .ok (.putfield 114, 3) := by decide +kernel
theorem dX12_often_5 : decode cX12_often 5 = .ok (.aload_n 0, 1) := by decide +kernel
theorem dX12_often_6 : decode cX12_often 6 = .ok (.iload_n 1, 1) := by decide +kernel
theorem dX12_often_7 : decode cX12_often 7 = .ok (.invokevirtual 452, 3) := by decide +kernel
theorem dX12_often_10 : decode cX12_often 10 = .ok (.ifCond .ne 5, 3) := by decide +kernel
theorem dX12_often_13 : decode cX12_often 13 = .ok (.iconst 0, 1) := by decide +kernel
theorem dX12_often_14 : decode cX12_often 14 = .ok (.ireturn, 1) := by decide +kernel
theorem dX12_often_15 : decode cX12_often 15 = .ok (.iconst 0, 1) := by decide +kernel
theorem dX12_often_16 : decode cX12_often 16 = .ok (.istore_n 2, 1) := by decide +kernel
theorem dX12_often_17 : decode cX12_often 17 = .ok (.aload_n 0, 1) := by decide +kernel
theorem dX12_often_18 : decode cX12_often 18 = .ok (.invokevirtual 339, 3) := by decide +kernel
theorem dX12_often_21 : decode cX12_often 21 = .ok (.iconst 1, 1) := by decide +kernel
theorem dX12_often_22 : decode cX12_often 22 = .ok (.istore_n 3, 1) := by decide +kernel
theorem dX12_often_23 : decode cX12_often 23 = .ok (.iload_n 3, 1) := by decide +kernel
theorem dX12_often_24 : decode cX12_often 24 = .ok (.bipush 60, 2) := by decide +kernel
theorem dX12_often_26 : decode cX12_often 26 = .ok (.if_icmp .gt 28, 3) := by decide +kernel
theorem dX12_often_29 : decode cX12_often 29 = .ok (.aload_n 0, 1) := by decide +kernel
theorem dX12_often_30 : decode cX12_often 30 = .ok (.bipush 53, 2) := by decide +kernel
theorem dX12_often_32 : decode cX12_often 32 = .ok (.invokevirtual 342, 3) := by decide +kernel
theorem dX12_often_35 : decode cX12_often 35 = .ok (.iload_n 2, 1) := by decide +kernel
theorem dX12_often_36 : decode cX12_often 36 = .ok (.aload_n 0, 1) := by decide +kernel
theorem dX12_often_37 : decode cX12_often 37 = .ok (.bipush 53, 2) := by decide +kernel
theorem dX12_often_39 : decode cX12_often 39 = .ok (.invokevirtual 360, 3) := by decide +kernel
theorem dX12_often_42 : decode cX12_often 42 = .ok (.iload_n 1, 1) := by decide +kernel
theorem dX12_often_43 : decode cX12_often 43 = .ok (.ishr, 1) := by decide +kernel
theorem dX12_often_44 : decode cX12_often 44 = .ok (.iconst 1, 1) := by decide +kernel
theorem dX12_often_45 : decode cX12_often 45 = .ok (.iand, 1) := by decide +kernel
theorem dX12_often_46 : decode cX12_often 46 = .ok (.iadd, 1) := by decide +kernel
theorem dX12_often_47 : decode cX12_often 47 = .ok (.istore_n 2, 1) := by decide +kernel
theorem dX12_often_48 : decode cX12_often 48 = .ok (.iinc 3 1, 3) := by decide +kernel
theorem dX12_often_51 : decode cX12_often 51 = .ok (.goto (-28), 3) := by decide +kernel
theorem dX12_often_54 : decode cX12_often 54 = .ok (.iload_n 2, 1) := by decide +kernel
theorem dX12_often_55 : decode cX12_often 55 = .ok (.ireturn, 1) := by decide +kernel
theorem dX12_spare_0 : decode cX12_spare 0 = .ok (.aload_n 0, 1) := by decide +kernel
theorem dX12_spare_1 : decode cX12_spare 1 = .ok (.iconst 0, 1) := by decide +kernel
theorem dX12_spare_2 : decode cX12_spare 2 = .ok (.putfield 114, 3) := by decide +kernel
theorem dX12_spare_5 : decode cX12_spare 5 = .ok (.aload_n 0, 1) := by decide +kernel
theorem dX12_spare_6 : decode cX12_spare 6 = .ok (.iconst 0, 1) := by decide +kernel
theorem dX12_spare_7 : decode cX12_spare 7 = .ok (.invokevirtual 357, 3) := by decide +kernel
theorem dX12_spare_10 : decode cX12_spare 10 = .ok (.istore_n 1, 1) := by decide +kernel
theorem dX12_spare_11 : decode cX12_spare 11 = .ok (.iconst 0, 1) := by decide +kernel
theorem dX12_spare_12 : decode cX12_spare 12 = .ok (.istore_n 2, 1) := by decide +kernel
theorem dX12_spare_13 : decode cX12_spare 13 = .ok (.iconst 0, 1) := by decide +kernel
theorem dX12_spare_14 : decode cX12_spare 14 = .ok (.istore_n 3, 1) := by decide +kernel
theorem dX12_spare_15 : decode cX12_spare 15 = .ok (.iload_n 3, 1) := by decide +kernel
theorem dX12_spare_16 : decode cX12_spare 16 = .ok (.aload_n 0, 1) := by decide +kernel
theorem dX12_spare_17 : decode cX12_spare 17 = .ok (.getfield 289, 3) := by decide +kernel
theorem dX12_spare_20 : decode cX12_spare 20 = .ok (.if_icmp .ge 46, 3) := by decide +kernel
theorem dX12_spare_23 : decode cX12_spare 23 = .ok (.iload_n 2, 1) := by decide +kernel
theorem dX12_spare_24 : decode cX12_spare 24 = .ok (.iload_n 1, 1) := by decide +kernel
theorem dX12_spare_25 : decode cX12_spare 25 = .ok (.iload_n 3, 1) := by decide +kernel
theorem dX12_spare_26 : decode cX12_spare 26 = .ok (.ishr, 1) := by decide +kernel
theorem dX12_spare_27 : decode cX12_spare 27 = .ok (.iconst 1, 1) := by decide +kernel
theorem dX12_spare_28 : decode cX12_spare 28 = .ok (.iand, 1) := by decide +kernel
theorem dX12_spare_29 : decode cX12_spare 29 = .ok (.iconst 1, 1) := by decide +kernel
theorem dX12_spare_30 : decode cX12_spare 30 = .ok (.if_icmp .ne 27, 3) := by decide +kernel
theorem dX12_spare_33 : decode cX12_spare 33 = .ok (.aload_n 0, 1) := by decide +kernel
theorem dX12_spare_34 : decode cX12_spare 34 = .ok (.aload_n 0, 1) := by decide +kernel
theorem dX12_spare_35 : decode cX12_spare 35 = .ok (.iload_n 1, 1) := by decide +kernel
theorem dX12_spare_36 : decode cX12_spare 36 = .ok (.iconst 1, 1) := by decide +kernel
theorem dX12_spare_37 : decode cX12_spare 37 = .ok (.iload_n 3, 1) := by decide +kernel
theorem dX12_spare_38 : decode cX12_spare 38 = .ok (.ishl, 1) := by decide +kernel
theorem dX12_spare_39 : decode cX12_spare 39 = .ok (.iconst (-1), 1) := by decide +kernel
theorem dX12_spare_40 : decode cX12_spare 40 = .ok (.ixor, 1) := by decide +kernel
theorem dX12_spare_41 : decode cX12_spare 41 = .ok (.iand, 1) := by decide +kernel
theorem dX12_spare_42 : decode cX12_spare 42 = .ok (.invokevirtual 426, 3) := by decide +kernel
theorem dX12_spare_45 : decode cX12_spare 45 = .ok (.invokevirtual 387, 3) := by decide +kernel
theorem dX12_spare_48 : decode cX12_spare 48 = .ok (.ifCond .eq 9, 3) := by decide +kernel
theorem dX12_spare_51 : decode cX12_spare 51 = .ok (.iconst 1, 1) := by decide +kernel
theorem dX12_spare_52 : decode cX12_spare 52 = .ok (.iload_n 3, 1) := by decide +kernel
theorem dX12_spare_53 : decode cX12_spare 53 = .ok (.ishl, 1) := by decide +kernel
theorem dX12_spare_54 : decode cX12_spare 54 = .ok (.goto 4, 3) := by decide +kernel
theorem dX12_spare_57 : decode cX12_spare 57 = .ok (.iconst 0, 1) := by decide +kernel
theorem dX12_spare_58 : decode cX12_spare 58 = .ok (.ior, 1) := by decide +kernel
theorem dX12_spare_59 : decode cX12_spare 59 = .ok (.istore_n 2, 1) := by decide +kernel
theorem dX12_spare_60 : decode cX12_spare 60 = .ok (.iinc 3 1, 3) := by decide +kernel
theorem dX12_spare_63 : decode cX12_spare 63 = .ok (.goto (-48), 3) := by decide +kernel
theorem dX12_spare_66 : decode cX12_spare 66 = .ok (.iload_n 2, 1) := by decide +kernel
theorem dX12_spare_67 : decode cX12_spare 67 = .ok (.ireturn, 1) := by decide +kernel
theorem dX12_image_0 : decode cX12_image 0 = .ok (.aload_n 0, 1) := by decide +kernel
theorem dX12_image_1 : decode cX12_image 1 = .ok (.iconst 0, 1) := by decide +kernel
theorem dX12_image_2 : decode cX12_image 2 = .ok (.putfield 114, 3) := by decide +kernel
theorem dX12_image_5 : decode cX12_image 5 = .ok (.aload_n 0, 1) := by decide +kernel
theorem dX12_image_6 : decode cX12_image 6 = .ok (.iconst 1, 1) := by decide +kernel
theorem dX12_image_7 : decode cX12_image 7 = .ok (.putfield 311, 3) := by decide +kernel
theorem dX12_image_10 : decode cX12_image 10 = .ok (.aload_n 0, 1) := by decide +kernel
theorem dX12_image_11 : decode cX12_image 11 = .ok (.aload_n 0, 1) := by decide +kernel
theorem dX12_image_12 : decode cX12_image 12 = .ok (.getfield 305, 3) := by decide +kernel
theorem dX12_image_15 : decode cX12_image 15 = .ok (.putfield 458, 3) := by decide +kernel
theorem dX12_image_18 : decode cX12_image 18 = .ok (.aload_n 0, 1) := by decide +kernel
theorem dX12_image_19 : decode cX12_image 19 = .ok (.aload_n 0, 1) := by decide +kernel
theorem dX12_image_20 : decode cX12_image 20 = .ok (.getfield 308, 3) := by decide +kernel
theorem dX12_image_23 : decode cX12_image 23 = .ok (.putfield 461, 3) := by decide +kernel
theorem dX12_image_26 : decode cX12_image 26 = .ok (.iconst 0, 1) := by decide +kernel
theorem dX12_image_27 : decode cX12_image 27 = .ok (.istore_n 1, 1) := by decide +kernel
theorem dX12_image_28 : decode cX12_image 28 = .ok (.iload_n 1, 1) := by decide +kernel
theorem dX12_image_29 : decode cX12_image 29 = .ok (.bipush 53, 2) := by decide +kernel
theorem dX12_image_31 : decode cX12_image 31 = .ok (.if_icmp .ge 21, 3) := by decide +kernel
theorem dX12_image_34 : decode cX12_image 34 = .ok (.aload_n 0, 1) := by decide +kernel
theorem dX12_image_35 : decode cX12_image 35 = .ok (.getfield 105, 3) := by decide +kernel
theorem dX12_image_38 : decode cX12_image 38 = .ok (.iload_n 1, 1) := by decide +kernel
theorem dX12_image_39 : decode cX12_image 39 = .ok (.aload_n 0, 1) := by decide +kernel
theorem dX12_image_40 : decode cX12_image 40 = .ok (.getfield 63, 3) := by decide +kernel
theorem dX12_image_43 : decode cX12_image 43 = .ok (.iload_n 1, 1) := by decide +kernel
theorem dX12_image_44 : decode cX12_image 44 = .ok (.iaload, 1) := by decide +kernel
theorem dX12_image_45 : decode cX12_image 45 = .ok (.iastore, 1) := by decide +kernel
theorem dX12_image_46 : decode cX12_image 46 = .ok (.iinc 1 1, 3) := by decide +kernel
theorem dX12_image_49 : decode cX12_image 49 = .ok (.goto (-21), 3) := by decide +kernel
theorem dX12_image_52 : decode cX12_image 52 = .ok (.aload_n 0, 1) := by decide +kernel
theorem dX12_image_53 : decode cX12_image 53 = .ok (.aload_n 0, 1) := by decide +kernel
theorem dX12_image_54 : decode cX12_image 54 = .ok (.getfield 66, 3) := by decide +kernel
theorem dX12_image_57 : decode cX12_image 57 = .ok (.aload_n 0, 1) := by decide +kernel
theorem dX12_image_58 : decode cX12_image 58 = .ok (.getfield 108, 3) := by decide +kernel
theorem dX12_image_61 : decode cX12_image 61 = .ok (.invokevirtual 301, 3) := by decide +kernel
theorem dX12_image_64 : decode cX12_image 64 = .ok (.aload_n 0, 1) := by decide +kernel
theorem dX12_image_65 : decode cX12_image 65 = .ok (.aload_n 0, 1) := by decide +kernel
theorem dX12_image_66 : decode cX12_image 66 = .ok (.getfield 96, 3) := by decide +kernel
theorem dX12_image_69 : decode cX12_image 69 = .ok (.aload_n 0, 1) := by decide +kernel
theorem dX12_image_70 : decode cX12_image 70 = .ok (.getfield 111, 3) := by decide +kernel
theorem dX12_image_73 : decode cX12_image 73 = .ok (.invokevirtual 301, 3) := by decide +kernel
theorem dX12_image_76 : decode cX12_image 76 = .ok (.return_, 1) := by decide +kernel
theorem dX12_restore_0 : decode cX12_restore 0 = .ok (.aload_n 0, 1) := by decide +kernel
theorem dX12_restore_1 : decode cX12_restore 1 = .ok (.iconst 0, 1) := by decide +kernel
theorem dX12_restore_2 : decode cX12_restore 2 = .ok (.putfield 114, 3) := by decide +kernel
theorem dX12_restore_5 : decode cX12_restore 5 = .ok (.aload_n 0, 1) := by decide +kernel
theorem dX12_restore_6 : decode cX12_restore 6 = .ok (.getfield 311, 3) := by decide +kernel
theorem dX12_restore_9 : decode cX12_restore 9 = .ok (.ifCond .ne 5, 3) := by decide +kernel
theorem dX12_restore_12 : decode cX12_restore 12 = .ok (.iconst 0, 1) := by decide +kernel
theorem dX12_restore_13 : decode cX12_restore 13 = .ok (.ireturn, 1) := by decide +kernel
theorem dX12_restore_14 : decode cX12_restore 14 = .ok (.aload_n 0, 1) := by decide +kernel
theorem dX12_restore_15 : decode cX12_restore 15 = .ok (.aload_n 0, 1) := by decide +kernel
theorem dX12_restore_16 : decode cX12_restore 16 = .ok (.getfield 458, 3) := by decide +kernel
theorem dX12_restore_19 : decode cX12_restore 19 = .ok (.putfield 305, 3) := by decide +kernel
theorem dX12_restore_22 : decode cX12_restore 22 = .ok (.aload_n 0, 1) := by decide +kernel
theorem dX12_restore_23 : decode cX12_restore 23 = .ok (.aload_n 0, 1) := by decide +kernel
theorem dX12_restore_24 : decode cX12_restore 24 = .ok (.getfield 461, 3) := by decide +kernel
theorem dX12_restore_27 : decode cX12_restore 27 = .ok (.putfield 308, 3) := by decide +kernel
theorem dX12_restore_30 : decode cX12_restore 30 = .ok (.iconst 0, 1) := by decide +kernel
theorem dX12_restore_31 : decode cX12_restore 31 = .ok (.istore_n 1, 1) := by decide +kernel
theorem dX12_restore_32 : decode cX12_restore 32 = .ok (.iload_n 1, 1) := by decide +kernel
theorem dX12_restore_33 : decode cX12_restore 33 = .ok (.bipush 53, 2) := by decide +kernel
theorem dX12_restore_35 : decode cX12_restore 35 = .ok (.if_icmp .ge 21, 3) := by decide +kernel
theorem dX12_restore_38 : decode cX12_restore 38 = .ok (.aload_n 0, 1) := by decide +kernel
theorem dX12_restore_39 : decode cX12_restore 39 = .ok (.getfield 63, 3) := by decide +kernel
theorem dX12_restore_42 : decode cX12_restore 42 = .ok (.iload_n 1, 1) := by decide +kernel
theorem dX12_restore_43 : decode cX12_restore 43 = .ok (.aload_n 0, 1) := by decide +kernel
theorem dX12_restore_44 : decode cX12_restore 44 = .ok (.getfield 105, 3) := by decide +kernel
theorem dX12_restore_47 : decode cX12_restore 47 = .ok (.iload_n 1, 1) := by decide +kernel
theorem dX12_restore_48 : decode cX12_restore 48 = .ok (.iaload, 1) := by decide +kernel
theorem dX12_restore_49 : decode cX12_restore 49 = .ok (.iastore, 1) := by decide +kernel
theorem dX12_restore_50 : decode cX12_restore 50 = .ok (.iinc 1 1, 3) := by decide +kernel
theorem dX12_restore_53 : decode cX12_restore 53 = .ok (.goto (-21), 3) := by decide +kernel
theorem dX12_restore_56 : decode cX12_restore 56 = .ok (.aload_n 0, 1) := by decide +kernel
theorem dX12_restore_57 : decode cX12_restore 57 = .ok (.aload_n 0, 1) := by decide +kernel
theorem dX12_restore_58 : decode cX12_restore 58 = .ok (.getfield 108, 3) := by decide +kernel
theorem dX12_restore_61 : decode cX12_restore 61 = .ok (.aload_n 0, 1) := by decide +kernel
theorem dX12_restore_62 : decode cX12_restore 62 = .ok (.getfield 66, 3) := by decide +kernel
theorem dX12_restore_65 : decode cX12_restore 65 = .ok (.invokevirtual 301, 3) := by decide +kernel
theorem dX12_restore_68 : decode cX12_restore 68 = .ok (.aload_n 0, 1) := by decide +kernel
theorem dX12_restore_69 : decode cX12_restore 69 = .ok (.aload_n 0, 1) := by decide +kernel
theorem dX12_restore_70 : decode cX12_restore 70 = .ok (.getfield 111, 3) := by decide +kernel
theorem dX12_restore_73 : decode cX12_restore 73 = .ok (.aload_n 0, 1) := by decide +kernel
theorem dX12_restore_74 : decode cX12_restore 74 = .ok (.getfield 96, 3) := by decide +kernel
theorem dX12_restore_77 : decode cX12_restore 77 = .ok (.invokevirtual 301, 3) := by decide +kernel
theorem dX12_restore_80 : decode cX12_restore 80 = .ok (.iconst 1, 1) := by decide +kernel
theorem dX12_restore_81 : decode cX12_restore 81 = .ok (.ireturn, 1) := by decide +kernel
