theorem dX10_init_0 : decode cX10_init 0 = .ok (.aload_n 0, 1) := by decide +kernel
theorem dX10_init_1 : decode cX10_init 1 = .ok (.invokespecial 1, 3) := by decide +kernel
theorem dX10_init_4 : decode cX10_init 4 = .ok (.aload_n 0, 1) := by decide +kernel
theorem dX10_init_5 : decode cX10_init 5 = .ok (.iconst 4, 1) := by decide +kernel
theorem dX10_init_6 : decode cX10_init 6 = .ok (.newarray .int, 2) := by decide +kernel
theorem dX10_init_8 : decode cX10_init 8 = .ok (.dup, 1) := by decide +kernel
theorem dX10_init_9 : decode cX10_init 9 = .ok (.iconst 0, 1) := by decide +kernel
theorem dX10_init_10 : decode cX10_init 10 = .ok (.bipush (-9), 2) := by decide +kernel
theorem dX10_init_12 : decode cX10_init 12 = .ok (.iastore, 1) := by decide +kernel
theorem dX10_init_13 : decode cX10_init 13 = .ok (.dup, 1) := by decide +kernel
theorem dX10_init_14 : decode cX10_init 14 = .ok (.iconst 1, 1) := by decide +kernel
theorem dX10_init_15 : decode cX10_init 15 = .ok (.bipush (-9), 2) := by decide +kernel
theorem dX10_init_17 : decode cX10_init 17 = .ok (.iastore, 1) := by decide +kernel
theorem dX10_init_18 : decode cX10_init 18 = .ok (.dup, 1) := by decide +kernel
theorem dX10_init_19 : decode cX10_init 19 = .ok (.iconst 2, 1) := by decide +kernel
theorem dX10_init_20 : decode cX10_init 20 = .ok (.bipush (-9), 2) := by decide +kernel
theorem dX10_init_22 : decode cX10_init 22 = .ok (.iastore, 1) := by decide +kernel
theorem dX10_init_23 : decode cX10_init 23 = .ok (.dup, 1) := by decide +kernel
theorem dX10_init_24 : decode cX10_init 24 = .ok (.iconst 3, 1) := by decide +kernel
theorem dX10_init_25 : decode cX10_init 25 = .ok (.bipush (-9), 2) := by decide +kernel
theorem dX10_init_27 : decode cX10_init 27 = .ok (.iastore, 1) := by decide +kernel
theorem dX10_init_28 : decode cX10_init 28 = .ok (.putfield 9, 3) := by decide +kernel
theorem dX10_init_31 : decode cX10_init 31 = .ok (.aload_n 0, 1) := by decide +kernel
theorem dX10_init_32 : decode cX10_init 32 = .ok (.iconst 4, 1) := by decide +kernel
theorem dX10_init_33 : decode cX10_init 33 = .ok (.newarray .int, 2) := by decide +kernel
theorem dX10_init_35 : decode cX10_init 35 = .ok (.putfield 13, 3) := by decide +kernel
theorem dX10_init_38 : decode cX10_init 38 = .ok (.aload_n 0, 1) := by decide +kernel
theorem dX10_init_39 : decode cX10_init 39 = .ok (.sipush 160, 3) := by decide +kernel
theorem dX10_init_42 : decode cX10_init 42 = .ok (.newarray .int, 2) := by decide +kernel
theorem dX10_init_44 : decode cX10_init 44 = .ok (.putfield 16, 3) := by decide +kernel
theorem dX10_init_47 : decode cX10_init 47 = .ok (.aload_n 0, 1) := by decide +kernel
theorem dX10_init_48 : decode cX10_init 48 = .ok (.bipush 6, 2) := by decide +kernel
theorem dX10_init_50 : decode cX10_init 50 = .ok (.newarray .int, 2) := by decide +kernel
theorem dX10_init_52 : decode cX10_init 52 = .ok (.putfield 19, 3) := by decide +kernel
theorem dX10_init_55 : decode cX10_init 55 = .ok (.aload_n 0, 1) := by decide +kernel
theorem dX10_init_56 : decode cX10_init 56 = .ok (.bipush 6, 2) := by decide +kernel
theorem dX10_init_58 : decode cX10_init 58 = .ok (.newarray .int, 2) := by decide +kernel
theorem dX10_init_60 : decode cX10_init 60 = .ok (.putfield 22, 3) := by decide +kernel
theorem dX10_init_63 : decode cX10_init 63 = .ok (.aload_n 0, 1) := by decide +kernel
theorem dX10_init_64 : decode cX10_init 64 = .ok (.bipush (-9), 2) := by decide +kernel
theorem dX10_init_66 : decode cX10_init 66 = .ok (.putfield 25, 3) := by decide +kernel
theorem dX10_init_69 : decode cX10_init 69 = .ok (.aload_n 0, 1) := by decide +kernel
theorem dX10_init_70 : decode cX10_init 70 = .ok (.bipush 6, 2) := by decide +kernel
theorem dX10_init_72 : decode cX10_init 72 = .ok (.newarray .int, 2) := by decide +kernel
theorem dX10_init_74 : decode cX10_init 74 = .ok (.putfield 29, 3) := by decide +kernel
theorem dX10_init_77 : decode cX10_init 77 = .ok (.aload_n 0, 1) := by decide +kernel
theorem dX10_init_78 : decode cX10_init 78 = .ok (.bipush 6, 2) := by decide +kernel
theorem dX10_init_80 : decode cX10_init 80 = .ok (.newarray .int, 2) := by decide +kernel
theorem dX10_init_82 : decode cX10_init 82 = .ok (.putfield 32, 3) := by decide +kernel
theorem dX10_init_85 : decode cX10_init 85 = .ok (.aload_n 0, 1) := by decide +kernel
theorem dX10_init_86 : decode cX10_init 86 = .ok (.bipush 8, 2) := by decide +kernel
theorem dX10_init_88 : decode cX10_init 88 = .ok (.newarray .int, 2) := by decide +kernel
theorem dX10_init_90 : decode cX10_init 90 = .ok (.putfield 35, 3) := by decide +kernel
theorem dX10_init_93 : decode cX10_init 93 = .ok (.aload_n 0, 1) := by decide +kernel
theorem dX10_init_94 : decode cX10_init 94 = .ok (.bipush 8, 2) := by decide +kernel
theorem dX10_init_96 : decode cX10_init 96 = .ok (.newarray .int, 2) := by decide +kernel
theorem dX10_init_98 : decode cX10_init 98 = .ok (.putfield 38, 3) := by decide +kernel
theorem dX10_init_101 : decode cX10_init 101 = .ok (.aload_n 0, 1) := by decide +kernel
theorem dX10_init_102 : decode cX10_init 102 = .ok (.bipush 8, 2) := by decide +kernel
theorem dX10_init_104 : decode cX10_init 104 = .ok (.newarray .int, 2) := by decide +kernel
theorem dX10_init_106 : decode cX10_init 106 = .ok (.putfield 41, 3) := by decide +kernel
theorem dX10_init_109 : decode cX10_init 109 = .ok (.aload_n 0, 1) := by decide +kernel
theorem dX10_init_110 : decode cX10_init 110 = .ok (.bipush 8, 2) := by decide +kernel
theorem dX10_init_112 : decode cX10_init 112 = .ok (.newarray .int, 2) := by decide +kernel
theorem dX10_init_114 : decode cX10_init 114 = .ok (.putfield 44, 3) := by decide +kernel
theorem dX10_init_117 : decode cX10_init 117 = .ok (.aload_n 0, 1) := by decide +kernel
theorem dX10_init_118 : decode cX10_init 118 = .ok (.bipush 8, 2) := by decide +kernel
theorem dX10_init_120 : decode cX10_init 120 = .ok (.newarray .int, 2) := by decide +kernel
theorem dX10_init_122 : decode cX10_init 122 = .ok (.putfield 47, 3) := by decide +kernel
theorem dX10_init_125 : decode cX10_init 125 = .ok (.aload_n 0, 1) := by decide +kernel
theorem dX10_init_126 : decode cX10_init 126 = .ok (.bipush 8, 2) := by decide +kernel
theorem dX10_init_128 : decode cX10_init 128 = .ok (.newarray .int, 2) := by decide +kernel
theorem dX10_init_130 : decode cX10_init 130 = .ok (.putfield 50, 3) := by decide +kernel
theorem dX10_init_133 : decode cX10_init 133 = .ok (.aload_n 0, 1) := by decide +kernel
theorem dX10_init_134 : decode cX10_init 134 = .ok (.bipush 6, 2) := by decide +kernel
theorem dX10_init_136 : decode cX10_init 136 = .ok (.newarray .int, 2) := by decide +kernel
theorem dX10_init_138 : decode cX10_init 138 = .ok (.putfield 53, 3) := by decide +kernel
theorem dX10_init_141 : decode cX10_init 141 = .ok (.aload_n 0, 1) := by decide +kernel
theorem dX10_init_142 : decode cX10_init 142 = .ok (.bipush 6, 2) := by decide +kernel
theorem dX10_init_144 : decode cX10_init 144 = .ok (.newarray .int, 2) := by decide +kernel
theorem dX10_init_146 : decode cX10_init 146 = .ok (.putfield 56, 3) := by decide +kernel
theorem dX10_init_149 : decode cX10_init 149 = .ok (.aload_n 0, 1) := by decide +kernel
theorem dX10_init_150 : decode cX10_init 150 = .ok (.bipush 6, 2) := by decide +kernel
theorem dX10_init_152 : decode cX10_init 152 = .ok (.newarray .int, 2) := by decide +kernel
theorem dX10_init_154 : decode cX10_init 154 = .ok (.putfield 59, 3) := by decide +kernel
theorem dX10_init_157 : decode cX10_init 157 = .ok (.aload_n 0, 1) := by decide +kernel
theorem dX10_init_158 : decode cX10_init 158 = .ok (.bipush 6, 2) := by decide +kernel
theorem dX10_init_160 : decode cX10_init 160 = .ok (.newarray .boolean, 2) := by decide +kernel
theorem dX10_init_162 : decode cX10_init 162 = .ok (.putfield 62, 3) := by decide +kernel
theorem dX10_init_165 : decode cX10_init 165 = .ok (.aload_n 0, 1) := by decide +kernel
theorem dX10_init_166 : decode cX10_init 166 = .ok (.bipush 8, 2) := by decide +kernel
theorem dX10_init_168 : decode cX10_init 168 = .ok (.newarray .int, 2) := by decide +kernel
theorem dX10_init_170 : decode cX10_init 170 = .ok (.putfield 66, 3) := by decide +kernel
theorem dX10_init_173 : decode cX10_init 173 = .ok (.aload_n 0, 1) := by decide +kernel
theorem dX10_init_174 : decode cX10_init 174 = .ok (.bipush 8, 2) := by decide +kernel
theorem dX10_init_176 : decode cX10_init 176 = .ok (.newarray .int, 2) := by decide +kernel
theorem dX10_init_178 : decode cX10_init 178 = .ok (.putfield 69, 3) := by decide +kernel
theorem dX10_init_181 : decode cX10_init 181 = .ok (.aload_n 0, 1) := by decide +kernel
theorem dX10_init_182 : decode cX10_init 182 = .ok (.bipush 8, 2) := by decide +kernel
theorem dX10_init_184 : decode cX10_init 184 = .ok (.newarray .int, 2) := by decide +kernel
theorem dX10_init_186 : decode cX10_init 186 = .ok (.putfield 72, 3) := by decide +kernel
theorem dX10_init_189 : decode cX10_init 189 = .ok (.aload_n 0, 1) := by decide +kernel
theorem dX10_init_190 : decode cX10_init 190 = .ok (.bipush 8, 2) := by decide +kernel
theorem dX10_init_192 : decode cX10_init 192 = .ok (.newarray .int, 2) := by decide +kernel
theorem dX10_init_194 : decode cX10_init 194 = .ok (.putfield 75, 3) := by decide +kernel
theorem dX10_init_197 : decode cX10_init 197 = .ok (.aload_n 0, 1) := by decide +kernel
theorem dX10_init_198 : decode cX10_init 198 = .ok (.bipush 8, 2) := by decide +kernel
theorem dX10_init_200 : decode cX10_init 200 = .ok (.newarray .int, 2) := by decide +kernel
theorem dX10_init_202 : decode cX10_init 202 = .ok (.putfield 78, 3) := by decide +kernel
theorem dX10_init_205 : decode cX10_init 205 = .ok (.aload_n 0, 1) := by decide +kernel
theorem dX10_init_206 : decode cX10_init 206 = .ok (.bipush 8, 2) := by decide +kernel
theorem dX10_init_208 : decode cX10_init 208 = .ok (.newarray .int, 2) := by decide +kernel
theorem dX10_init_210 : decode cX10_init 210 = .ok (.putfield 81, 3) := by decide +kernel
theorem dX10_init_213 : decode cX10_init 213 = .ok (.aload_n 0, 1) := by decide +kernel
theorem dX10_init_214 : decode cX10_init 214 = .ok (.sipush 400, 3) := by decide +kernel
theorem dX10_init_217 : decode cX10_init 217 = .ok (.newarray .int, 2) := by decide +kernel
theorem dX10_init_219 : decode cX10_init 219 = .ok (.putfield 84, 3) := by decide +kernel
theorem dX10_init_222 : decode cX10_init 222 = .ok (.aload_n 0, 1) := by decide +kernel
theorem dX10_init_223 : decode cX10_init 223 = .ok (.sipush 400, 3) := by decide +kernel
theorem dX10_init_226 : decode cX10_init 226 = .ok (.newarray .int, 2) := by decide +kernel
theorem dX10_init_228 : decode cX10_init 228 = .ok (.putfield 87, 3) := by decide +kernel
theorem dX10_init_231 : decode cX10_init 231 = .ok (.aload_n 0, 1) := by decide +kernel
theorem dX10_init_232 : decode cX10_init 232 = .ok (.bipush 8, 2) := by decide +kernel
theorem dX10_init_234 : decode cX10_init 234 = .ok (.newarray .boolean, 2) := by decide +kernel
theorem dX10_init_236 : decode cX10_init 236 = .ok (.putfield 90, 3) := by decide +kernel
theorem dX10_init_239 : decode cX10_init 239 = .ok (.aload_n 0, 1) := by decide +kernel
theorem dX10_init_240 : decode cX10_init 240 = .ok (.bipush 6, 2) := by decide +kernel
theorem dX10_init_242 : decode cX10_init 242 = .ok (.newarray .int, 2) := by decide +kernel
theorem dX10_init_244 : decode cX10_init 244 = .ok (.putfield 93, 3) := by decide +kernel
theorem dX10_init_247 : decode cX10_init 247 = .ok (.aload_n 0, 1) := by decide +kernel
theorem dX10_init_248 : decode cX10_init 248 = .ok (.bipush 6, 2) := by decide +kernel
theorem dX10_init_250 : decode cX10_init 250 = .ok (.newarray .int, 2) := by decide +kernel
theorem dX10_init_252 : decode cX10_init 252 = .ok (.putfield 96, 3) := by decide +kernel
theorem dX10_init_255 : decode cX10_init 255 = .ok (.return_, 1) := by decide +kernel
theorem dX10_fails_0 : decode cX10_fails 0 = .ok (.aload_n 0, 1) := by decide +kernel
theorem dX10_fails_1 : decode cX10_fails 1 = .ok (.iload_n 1, 1) := by decide +kernel
theorem dX10_fails_2 : decode cX10_fails 2 = .ok (.putfield 99, 3) := by decide +kernel
theorem dX10_fails_5 : decode cX10_fails 5 = .ok (.bipush (-10), 2) := by decide +kernel
theorem dX10_fails_7 : decode cX10_fails 7 = .ok (.iload_n 1, 1) := by decide +kernel
theorem dX10_fails_8 : decode cX10_fails 8 = .ok (.isub, 1) := by decide +kernel
theorem dX10_fails_9 : decode cX10_fails 9 = .ok (.ireturn, 1) := by decide +kernel
theorem dX10_lost_0 : decode cX10_lost 0 = .ok (.aload_n 0, 1) := by decide +kernel
theorem dX10_lost_1 : decode cX10_lost 1 = .ok (.iload_n 1, 1) := by decide +kernel
theorem dX10_lost_2 : decode cX10_lost 2 = .ok (.putfield 99, 3) := by decide +kernel
theorem dX10_lost_5 : decode cX10_lost 5 = .ok (.ldc2_w 102, 3) := by decide +kernel
theorem dX10_lost_8 : decode cX10_lost 8 = .ok (.lreturn, 1) := by decide +kernel
theorem dX10_within_0 : decode cX10_within 0 = .ok (.iload_n 0, 1) := by decide +kernel
theorem dX10_within_1 : decode cX10_within 1 = .ok (.iload_n 1, 1) := by decide +kernel
theorem dX10_within_2 : decode cX10_within 2 = .ok (.if_icmp .lt 12, 3) := by decide +kernel
theorem dX10_within_5 : decode cX10_within 5 = .ok (.iload_n 0, 1) := by decide +kernel
theorem dX10_within_6 : decode cX10_within 6 = .ok (.iload_n 2, 1) := by decide +kernel
theorem dX10_within_7 : decode cX10_within 7 = .ok (.if_icmp .gt 7, 3) := by decide +kernel
theorem dX10_within_10 : decode cX10_within 10 = .ok (.iconst 1, 1) := by decide +kernel
theorem dX10_within_11 : decode cX10_within 11 = .ok (.goto 4, 3) := by decide +kernel
theorem dX10_within_14 : decode cX10_within 14 = .ok (.iconst 0, 1) := by decide +kernel
theorem dX10_within_15 : decode cX10_within 15 = .ok (.ireturn, 1) := by decide +kernel
theorem dX10_share_0 : decode cX10_share 0 = .ok (.lload_n 0, 1) := by decide +kernel
theorem dX10_share_1 : decode cX10_share 1 = .ok (.lconst 0, 1) := by decide +kernel
theorem dX10_share_2 : decode cX10_share 2 = .ok (.lcmp, 1) := by decide +kernel
theorem dX10_share_3 : decode cX10_share 3 = .ok (.ifCond .ge 8, 3) := by decide +kernel
theorem dX10_share_6 : decode cX10_share 6 = .ok (.lload_n 0, 1) := by decide +kernel
theorem dX10_share_7 : decode cX10_share 7 = .ok (.lneg, 1) := by decide +kernel
theorem dX10_share_8 : decode cX10_share 8 = .ok (.goto 4, 3) := by decide +kernel
theorem dX10_share_11 : decode cX10_share 11 = .ok (.lload_n 0, 1) := by decide +kernel
theorem dX10_share_12 : decode cX10_share 12 = .ok (.lstore 5, 2) := by decide +kernel
theorem dX10_share_14 : decode cX10_share 14 = .ok (.lload_n 2, 1) := by decide +kernel
theorem dX10_share_15 : decode cX10_share 15 = .ok (.lstore 7, 2) := by decide +kernel
theorem dX10_share_17 : decode cX10_share 17 = .ok (.lload 7, 2) := by decide +kernel
theorem dX10_share_19 : decode cX10_share 19 = .ok (.lconst 0, 1) := by decide +kernel
theorem dX10_share_20 : decode cX10_share 20 = .ok (.lcmp, 1) := by decide +kernel
theorem dX10_share_21 : decode cX10_share 21 = .ok (.ifCond .eq 21, 3) := by decide +kernel
theorem dX10_share_24 : decode cX10_share 24 = .ok (.lload 5, 2) := by decide +kernel
theorem dX10_share_26 : decode cX10_share 26 = .ok (.lload 7, 2) := by decide +kernel
theorem dX10_share_28 : decode cX10_share 28 = .ok (.lrem, 1) := by decide +kernel
theorem dX10_share_29 : decode cX10_share 29 = .ok (.lstore 9, 2) := by decide +kernel
theorem dX10_share_31 : decode cX10_share 31 = .ok (.lload 7, 2) := by decide +kernel
theorem dX10_share_33 : decode cX10_share 33 = .ok (.lstore 5, 2) := by decide +kernel
theorem dX10_share_35 : decode cX10_share 35 = .ok (.lload 9, 2) := by decide +kernel
theorem dX10_share_37 : decode cX10_share 37 = .ok (.lstore 7, 2) := by decide +kernel
theorem dX10_share_39 : decode cX10_share 39 = .ok (.goto (-22), 3) := by decide +kernel
theorem dX10_share_42 : decode cX10_share 42 = .ok (.iload 4, 2) := by decide +kernel
theorem dX10_share_44 : decode cX10_share 44 = .ok (.ifCond .ne 10, 3) := by decide +kernel
theorem dX10_share_47 : decode cX10_share 47 = .ok (.lload_n 0, 1) := by decide +kernel
theorem dX10_share_48 : decode cX10_share 48 = .ok (.lload 5, 2) := by decide +kernel
theorem dX10_share_50 : decode cX10_share 50 = .ok (.ldiv, 1) := by decide +kernel
theorem dX10_share_51 : decode cX10_share 51 = .ok (.goto 7, 3) := by decide +kernel
theorem dX10_share_54 : decode cX10_share 54 = .ok (.lload_n 2, 1) := by decide +kernel
theorem dX10_share_55 : decode cX10_share 55 = .ok (.lload 5, 2) := by decide +kernel
theorem dX10_share_57 : decode cX10_share 57 = .ok (.ldiv, 1) := by decide +kernel
theorem dX10_share_58 : decode cX10_share 58 = .ok (.lreturn, 1) := by decide +kernel
theorem dX10_isSheet_0 : decode cX10_isSheet 0 = .ok (.iload_n 0, 1) := by decide +kernel
theorem dX10_isSheet_1 : decode cX10_isSheet 1 = .ok (.iconst 0, 1) := by decide +kernel
theorem dX10_isSheet_2 : decode cX10_isSheet 2 = .ok (.iconst 3, 1) := by decide +kernel
theorem dX10_isSheet_3 : decode cX10_isSheet 3 = .ok (.invokestatic 104, 3) := by decide +kernel
theorem dX10_isSheet_6 : decode cX10_isSheet 6 = .ok (.ireturn, 1) := by decide +kernel
theorem dX10_isSort_0 : decode cX10_isSort 0 = .ok (.iload_n 0, 1) := by decide +kernel
theorem dX10_isSort_1 : decode cX10_isSort 1 = .ok (.iconst 0, 1) := by decide +kernel
theorem dX10_isSort_2 : decode cX10_isSort 2 = .ok (.iconst 2, 1) := by decide +kernel
theorem dX10_isSort_3 : decode cX10_isSort 3 = .ok (.invokestatic 104, 3) := by decide +kernel
theorem dX10_isSort_6 : decode cX10_isSort 6 = .ok (.ireturn, 1) := by decide +kernel
theorem dX10_against_0 : decode cX10_against 0 = .ok (.aload_n 0, 1) := by decide +kernel
theorem dX10_against_1 : decode cX10_against 1 = .ok (.getfield 9, 3) := by decide +kernel
theorem dX10_against_4 : decode cX10_against 4 = .ok (.iload_n 1, 1) := by decide +kernel
theorem dX10_against_5 : decode cX10_against 5 = .ok (.iaload, 1) := by decide +kernel
theorem dX10_against_6 : decode cX10_against 6 = .ok (.bipush (-9), 2) := by decide +kernel
theorem dX10_against_8 : decode cX10_against 8 = .ok (.if_icmp .eq 15, 3) := by decide +kernel
theorem dX10_against_11 : decode cX10_against 11 = .ok (.aload_n 0, 1) := by decide +kernel
theorem dX10_against_12 : decode cX10_against 12 = .ok (.getfield 9, 3) := by decide +kernel
theorem dX10_against_15 : decode cX10_against 15 = .ok (.iload_n 1, 1) := by decide +kernel
theorem dX10_against_16 : decode cX10_against 16 = .ok (.iaload, 1) := by decide +kernel
theorem dX10_against_17 : decode cX10_against 17 = .ok (.iload_n 2, 1) := by decide +kernel
theorem dX10_against_18 : decode cX10_against 18 = .ok (.if_icmp .eq 5, 3) := by decide +kernel
theorem dX10_against_21 : decode cX10_against 21 = .ok (.iconst 2, 1) := by decide +kernel
theorem dX10_against_22 : decode cX10_against 22 = .ok (.ireturn, 1) := by decide +kernel
theorem dX10_against_23 : decode cX10_against 23 = .ok (.aload_n 0, 1) := by decide +kernel
theorem dX10_against_24 : decode cX10_against 24 = .ok (.getfield 9, 3) := by decide +kernel
theorem dX10_against_27 : decode cX10_against 27 = .ok (.iload_n 1, 1) := by decide +kernel
theorem dX10_against_28 : decode cX10_against 28 = .ok (.iaload, 1) := by decide +kernel
theorem dX10_against_29 : decode cX10_against 29 = .ok (.bipush (-9), 2) := by decide +kernel
theorem dX10_against_31 : decode cX10_against 31 = .ok (.if_icmp .ne 5, 3) := by decide +kernel
theorem dX10_against_34 : decode cX10_against 34 = .ok (.iconst 1, 1) := by decide +kernel
theorem dX10_against_35 : decode cX10_against 35 = .ok (.ireturn, 1) := by decide +kernel
theorem dX10_against_36 : decode cX10_against 36 = .ok (.iload 4, 2) := by decide +kernel
theorem dX10_against_38 : decode cX10_against 38 = .ok (.ifCond .ge 5, 3) := by decide +kernel
theorem dX10_against_41 : decode cX10_against 41 = .ok (.iconst 4, 1) := by decide +kernel
theorem dX10_against_42 : decode cX10_against 42 = .ok (.ireturn, 1) := by decide +kernel
theorem dX10_against_43 : decode cX10_against 43 = .ok (.iload_n 3, 1) := by decide +kernel
theorem dX10_against_44 : decode cX10_against 44 = .ok (.ifCond .lt 26, 3) := by decide +kernel
theorem dX10_against_47 : decode cX10_against 47 = .ok (.iload_n 3, 1) := by decide +kernel
theorem dX10_against_48 : decode cX10_against 48 = .ok (.aload_n 0, 1) := by decide +kernel
theorem dX10_against_49 : decode cX10_against 49 = .ok (.getfield 13, 3) := by decide +kernel
theorem dX10_against_52 : decode cX10_against 52 = .ok (.iload_n 1, 1) := by decide +kernel
theorem dX10_against_53 : decode cX10_against 53 = .ok (.iaload, 1) := by decide +kernel
theorem dX10_against_54 : decode cX10_against 54 = .ok (.if_icmp .gt 16, 3) := by decide +kernel
theorem dX10_against_57 : decode cX10_against 57 = .ok (.iload 4, 2) := by decide +kernel
theorem dX10_against_59 : decode cX10_against 59 = .ok (.aload_n 0, 1) := by decide +kernel
theorem dX10_against_60 : decode cX10_against 60 = .ok (.getfield 13, 3) := by decide +kernel
theorem dX10_against_63 : decode cX10_against 63 = .ok (.iload_n 1, 1) := by decide +kernel
theorem dX10_against_64 : decode cX10_against 64 = .ok (.iaload, 1) := by decide +kernel
theorem dX10_against_65 : decode cX10_against 65 = .ok (.iload_n 3, 1) := by decide +kernel
theorem dX10_against_66 : decode cX10_against 66 = .ok (.isub, 1) := by decide +kernel
theorem dX10_against_67 : decode cX10_against 67 = .ok (.if_icmp .le 7, 3) := by decide +kernel
theorem dX10_against_70 : decode cX10_against 70 = .ok (.iconst 3, 1) := by decide +kernel
theorem dX10_against_71 : decode cX10_against 71 = .ok (.goto 4, 3) := by decide +kernel
theorem dX10_against_74 : decode cX10_against 74 = .ok (.iconst 0, 1) := by decide +kernel
theorem dX10_against_75 : decode cX10_against 75 = .ok (.ireturn, 1) := by decide +kernel
theorem dX10_isCafe_0 : decode cX10_isCafe 0 = .ok (.aload_n 0, 1) := by decide +kernel
theorem dX10_isCafe_1 : decode cX10_isCafe 1 = .ok (.getfield 108, 3) := by decide +kernel
theorem dX10_isCafe_4 : decode cX10_isCafe 4 = .ok (.ifCond .le 7, 3) := by decide +kernel
theorem dX10_isCafe_7 : decode cX10_isCafe 7 = .ok (.iconst 1, 1) := by decide +kernel
theorem dX10_isCafe_8 : decode cX10_isCafe 8 = .ok (.goto 4, 3) := by decide +kernel
theorem dX10_isCafe_11 : decode cX10_isCafe 11 = .ok (.iconst 0, 1) := by decide +kernel
theorem dX10_isCafe_12 : decode cX10_isCafe 12 = .ok (.ireturn, 1) := by decide +kernel
theorem dX10_isCode_0 : decode cX10_isCode 0 = .ok (.aload_n 0, 1) := by decide +kernel
theorem dX10_isCode_1 : decode cX10_isCode 1 = .ok (.getfield 111, 3) := by decide +kernel
theorem dX10_isCode_4 : decode cX10_isCode 4 = .ok (.iload_n 2, 1) := by decide +kernel
theorem dX10_isCode_5 : decode cX10_isCode 5 = .ok (.if_icmp .ge 20, 3) := by decide +kernel
theorem dX10_isCode_8 : decode cX10_isCode 8 = .ok (.aload_n 0, 1) := by decide +kernel
theorem dX10_isCode_9 : decode cX10_isCode 9 = .ok (.getfield 16, 3) := by decide +kernel
theorem dX10_isCode_12 : decode cX10_isCode 12 = .ok (.aload_n 0, 1) := by decide +kernel
theorem dX10_isCode_13 : decode cX10_isCode 13 = .ok (.getfield 111, 3) := by decide +kernel
theorem dX10_isCode_16 : decode cX10_isCode 16 = .ok (.iaload, 1) := by decide +kernel
theorem dX10_isCode_17 : decode cX10_isCode 17 = .ok (.iload_n 1, 1) := by decide +kernel
theorem dX10_isCode_18 : decode cX10_isCode 18 = .ok (.if_icmp .ne 7, 3) := by decide +kernel
theorem dX10_isCode_21 : decode cX10_isCode 21 = .ok (.iconst 1, 1) := by decide +kernel
theorem dX10_isCode_22 : decode cX10_isCode 22 = .ok (.goto 4, 3) := by decide +kernel
theorem dX10_isCode_25 : decode cX10_isCode 25 = .ok (.iconst 0, 1) := by decide +kernel
theorem dX10_isCode_26 : decode cX10_isCode 26 = .ok (.ireturn, 1) := by decide +kernel
theorem dX10_cafe_0 : decode cX10_cafe 0 = .ok (.aload_n 0, 1) := by decide +kernel
theorem dX10_cafe_1 : decode cX10_cafe 1 = .ok (.iconst 0, 1) := by decide +kernel
theorem dX10_cafe_2 : decode cX10_cafe 2 = .ok (.putfield 99, 3) := by decide +kernel
theorem dX10_cafe_5 : decode cX10_cafe 5 = .ok (.iload_n 1, 1) := by decide +kernel
theorem dX10_cafe_6 : decode cX10_cafe 6 = .ok (.invokestatic 114, 3) := by decide +kernel
theorem dX10_cafe_9 : decode cX10_cafe 9 = .ok (.ifCond .ne 5, 3) := by decide +kernel
theorem dX10_cafe_12 : decode cX10_cafe 12 = .ok (.iconst (-1), 1) := by decide +kernel
theorem dX10_cafe_13 : decode cX10_cafe 13 = .ok (.ireturn, 1) := by decide +kernel
theorem dX10_cafe_14 : decode cX10_cafe 14 = .ok (.iload_n 2, 1) := by decide +kernel
theorem dX10_cafe_15 : decode cX10_cafe 15 = .ok (.invokestatic 118, 3) := by decide +kernel
theorem dX10_cafe_18 : decode cX10_cafe 18 = .ok (.ifCond .ne 6, 3) := by decide +kernel
theorem dX10_cafe_21 : decode cX10_cafe 21 = .ok (.bipush (-2), 2) := by decide +kernel
theorem dX10_cafe_23 : decode cX10_cafe 23 = .ok (.ireturn, 1) := by decide +kernel
theorem dX10_cafe_24 : decode cX10_cafe 24 = .ok (.aload_n 0, 1) := by decide +kernel
theorem dX10_cafe_25 : decode cX10_cafe 25 = .ok (.iload_n 1, 1) := by decide +kernel
theorem dX10_cafe_26 : decode cX10_cafe 26 = .ok (.iload_n 2, 1) := by decide +kernel
theorem dX10_cafe_27 : decode cX10_cafe 27 = .ok (.iload_n 3, 1) := by decide +kernel
theorem dX10_cafe_28 : decode cX10_cafe 28 = .ok (.iload 4, 2) := by decide +kernel
theorem dX10_cafe_30 : decode cX10_cafe 30 = .ok (.invokevirtual 121, 3) := by decide +kernel
theorem dX10_cafe_33 : decode cX10_cafe 33 = .ok (.istore 5, 2) := by decide +kernel
theorem dX10_cafe_35 : decode cX10_cafe 35 = .ok (.iload 5, 2) := by decide +kernel
theorem dX10_cafe_37 : decode cX10_cafe 37 = .ok (.ifCond .eq 10, 3) := by decide +kernel
theorem dX10_cafe_40 : decode cX10_cafe 40 = .ok (.aload_n 0, 1) := by decide +kernel
theorem dX10_cafe_41 : decode cX10_cafe 41 = .ok (.iload 5, 2) := by decide +kernel
theorem dX10_cafe_43 : decode cX10_cafe 43 = .ok (.invokevirtual 125, 3) := by decide +kernel
theorem dX10_cafe_46 : decode cX10_cafe 46 = .ok (.ireturn, 1) := by decide +kernel
theorem dX10_cafe_47 : decode cX10_cafe 47 = .ok (.bipush 40, 2) := by decide +kernel
theorem dX10_cafe_49 : decode cX10_cafe 49 = .ok (.iload_n 1, 1) := by decide +kernel
theorem dX10_cafe_50 : decode cX10_cafe 50 = .ok (.imul, 1) := by decide +kernel
theorem dX10_cafe_51 : decode cX10_cafe 51 = .ok (.iload_n 3, 1) := by decide +kernel
theorem dX10_cafe_52 : decode cX10_cafe 52 = .ok (.iadd, 1) := by decide +kernel
theorem dX10_cafe_53 : decode cX10_cafe 53 = .ok (.istore 6, 2) := by decide +kernel
theorem dX10_cafe_55 : decode cX10_cafe 55 = .ok (.aload_n 0, 1) := by decide +kernel
theorem dX10_cafe_56 : decode cX10_cafe 56 = .ok (.iload 6, 2) := by decide +kernel
theorem dX10_cafe_58 : decode cX10_cafe 58 = .ok (.putfield 111, 3) := by decide +kernel
theorem dX10_cafe_61 : decode cX10_cafe 61 = .ok (.aload_n 0, 1) := by decide +kernel
theorem dX10_cafe_62 : decode cX10_cafe 62 = .ok (.iload 6, 2) := by decide +kernel
theorem dX10_cafe_64 : decode cX10_cafe 64 = .ok (.iload 4, 2) := by decide +kernel
theorem dX10_cafe_66 : decode cX10_cafe 66 = .ok (.iadd, 1) := by decide +kernel
theorem dX10_cafe_67 : decode cX10_cafe 67 = .ok (.invokevirtual 129, 3) := by decide +kernel
theorem dX10_cafe_70 : decode cX10_cafe 70 = .ok (.ifCond .ne 14, 3) := by decide +kernel
theorem dX10_cafe_73 : decode cX10_cafe 73 = .ok (.bipush (-100), 2) := by decide +kernel
theorem dX10_cafe_75 : decode cX10_cafe 75 = .ok (.aload_n 0, 1) := by decide +kernel
theorem dX10_cafe_76 : decode cX10_cafe 76 = .ok (.getfield 111, 3) := by decide +kernel
theorem dX10_cafe_79 : decode cX10_cafe 79 = .ok (.iload 6, 2) := by decide +kernel
theorem dX10_cafe_81 : decode cX10_cafe 81 = .ok (.isub, 1) := by decide +kernel
theorem dX10_cafe_82 : decode cX10_cafe 82 = .ok (.isub, 1) := by decide +kernel
theorem dX10_cafe_83 : decode cX10_cafe 83 = .ok (.ireturn, 1) := by decide +kernel
theorem dX10_cafe_84 : decode cX10_cafe 84 = .ok (.aload_n 0, 1) := by decide +kernel
theorem dX10_cafe_85 : decode cX10_cafe 85 = .ok (.aload_n 0, 1) := by decide +kernel
theorem dX10_cafe_86 : decode cX10_cafe 86 = .ok (.getfield 132, 3) := by decide +kernel
theorem dX10_cafe_89 : decode cX10_cafe 89 = .ok (.putfield 108, 3) := by decide +kernel
theorem dX10_cafe_92 : decode cX10_cafe 92 = .ok (.iconst 0, 1) := by decide +kernel
theorem dX10_cafe_93 : decode cX10_cafe 93 = .ok (.istore 7, 2) := by decide +kernel
theorem dX10_cafe_95 : decode cX10_cafe 95 = .ok (.iload 7, 2) := by decide +kernel
theorem dX10_cafe_97 : decode cX10_cafe 97 = .ok (.aload_n 0, 1) := by decide +kernel
theorem dX10_cafe_98 : decode cX10_cafe 98 = .ok (.getfield 108, 3) := by decide +kernel
theorem dX10_cafe_101 : decode cX10_cafe 101 = .ok (.if_icmp .ge 37, 3) := by decide +kernel
theorem dX10_cafe_104 : decode cX10_cafe 104 = .ok (.aload_n 0, 1) := by decide +kernel
theorem dX10_cafe_105 : decode cX10_cafe 105 = .ok (.getfield 19, 3) := by decide +kernel
theorem dX10_cafe_108 : decode cX10_cafe 108 = .ok (.iload 7, 2) := by decide +kernel
theorem dX10_cafe_110 : decode cX10_cafe 110 = .ok (.aload_n 0, 1) := by decide +kernel
theorem dX10_cafe_111 : decode cX10_cafe 111 = .ok (.getfield 29, 3) := by decide +kernel
theorem dX10_cafe_114 : decode cX10_cafe 114 = .ok (.iload 7, 2) := by decide +kernel
theorem dX10_cafe_116 : decode cX10_cafe 116 = .ok (.iaload, 1) := by decide +kernel
theorem dX10_cafe_117 : decode cX10_cafe 117 = .ok (.iastore, 1) := by decide +kernel
theorem dX10_cafe_118 : decode cX10_cafe 118 = .ok (.aload_n 0, 1) := by decide +kernel
theorem dX10_cafe_119 : decode cX10_cafe 119 = .ok (.getfield 22, 3) := by decide +kernel
theorem dX10_cafe_122 : decode cX10_cafe 122 = .ok (.iload 7, 2) := by decide +kernel
theorem dX10_cafe_124 : decode cX10_cafe 124 = .ok (.aload_n 0, 1) := by decide +kernel
theorem dX10_cafe_125 : decode cX10_cafe 125 = .ok (.getfield 32, 3) := by decide +kernel
theorem dX10_cafe_128 : decode cX10_cafe 128 = .ok (.iload 7, 2) := by decide +kernel
theorem dX10_cafe_130 : decode cX10_cafe 130 = .ok (.iaload, 1) := by decide +kernel
theorem dX10_cafe_131 : decode cX10_cafe 131 = .ok (.iastore, 1) := by decide +kernel
theorem dX10_cafe_132 : decode cX10_cafe 132 = .ok (.iinc 7 1, 3) := by decide +kernel
theorem dX10_cafe_135 : decode cX10_cafe 135 = .ok (.goto (-40), 3) := by decide +kernel
theorem dX10_cafe_138 : decode cX10_cafe 138 = .ok (.aload_n 0, 1) := by decide +kernel
theorem dX10_cafe_139 : decode cX10_cafe 139 = .ok (.iconst 0, 1) := by decide +kernel
theorem dX10_cafe_140 : decode cX10_cafe 140 = .ok (.putfield 135, 3) := by decide +kernel
theorem dX10_cafe_143 : decode cX10_cafe 143 = .ok (.aload_n 0, 1) := by decide +kernel
theorem dX10_cafe_144 : decode cX10_cafe 144 = .ok (.iconst 0, 1) := by decide +kernel
theorem dX10_cafe_145 : decode cX10_cafe 145 = .ok (.putfield 138, 3) := by decide +kernel
theorem dX10_cafe_148 : decode cX10_cafe 148 = .ok (.aload_n 0, 1) := by decide +kernel
theorem dX10_cafe_149 : decode cX10_cafe 149 = .ok (.iconst 0, 1) := by decide +kernel
theorem dX10_cafe_150 : decode cX10_cafe 150 = .ok (.putfield 141, 3) := by decide +kernel
theorem dX10_cafe_153 : decode cX10_cafe 153 = .ok (.aload_n 0, 1) := by decide +kernel
theorem dX10_cafe_154 : decode cX10_cafe 154 = .ok (.iconst 0, 1) := by decide +kernel
theorem dX10_cafe_155 : decode cX10_cafe 155 = .ok (.putfield 144, 3) := by decide +kernel
theorem dX10_cafe_158 : decode cX10_cafe 158 = .ok (.aload_n 0, 1) := by decide +kernel
theorem dX10_cafe_159 : decode cX10_cafe 159 = .ok (.bipush (-9), 2) := by decide +kernel
theorem dX10_cafe_161 : decode cX10_cafe 161 = .ok (.putfield 25, 3) := by decide +kernel
theorem dX10_cafe_164 : decode cX10_cafe 164 = .ok (.aload_n 0, 1) := by decide +kernel
theorem dX10_cafe_165 : decode cX10_cafe 165 = .ok (.getfield 108, 3) := by decide +kernel
theorem dX10_cafe_168 : decode cX10_cafe 168 = .ok (.ireturn, 1) := by decide +kernel
theorem dX10_readCafe_0 : decode cX10_readCafe 0 = .ok (.aload_n 0, 1) := by decide +kernel
theorem dX10_readCafe_1 : decode cX10_readCafe 1 = .ok (.iconst 0, 1) := by decide +kernel
theorem dX10_readCafe_2 : decode cX10_readCafe 2 = .ok (.putfield 132, 3) := by decide +kernel
theorem dX10_readCafe_5 : decode cX10_readCafe 5 = .ok (.aload_n 0, 1) := by decide +kernel
theorem dX10_readCafe_6 : decode cX10_readCafe 6 = .ok (.getfield 132, 3) := by decide +kernel
theorem dX10_readCafe_9 : decode cX10_readCafe 9 = .ok (.ifCond .eq 11, 3) := by decide +kernel
theorem dX10_readCafe_12 : decode cX10_readCafe 12 = .ok (.aload_n 0, 1) := by decide +kernel
theorem dX10_readCafe_13 : decode cX10_readCafe 13 = .ok (.getfield 111, 3) := by decide +kernel
theorem dX10_readCafe_16 : decode cX10_readCafe 16 = .ok (.iload_n 1, 1) := by decide +kernel
theorem dX10_readCafe_17 : decode cX10_readCafe 17 = .ok (.if_icmp .ge 195, 3) := by decide +kernel
theorem dX10_readCafe_20 : decode cX10_readCafe 20 = .ok (.aload_n 0, 1) := by decide +kernel
theorem dX10_readCafe_21 : decode cX10_readCafe 21 = .ok (.getfield 132, 3) := by decide +kernel
theorem dX10_readCafe_24 : decode cX10_readCafe 24 = .ok (.ifCond .le 34, 3) := by decide +kernel
theorem dX10_readCafe_27 : decode cX10_readCafe 27 = .ok (.aload_n 0, 1) := by decide +kernel
theorem dX10_readCafe_28 : decode cX10_readCafe 28 = .ok (.getfield 132, 3) := by decide +kernel
theorem dX10_readCafe_31 : decode cX10_readCafe 31 = .ok (.bipush 6, 2) := by decide +kernel
theorem dX10_readCafe_33 : decode cX10_readCafe 33 = .ok (.if_icmp .eq 13, 3) := by decide +kernel
theorem dX10_readCafe_36 : decode cX10_readCafe 36 = .ok (.aload_n 0, 1) := by decide +kernel
theorem dX10_readCafe_37 : decode cX10_readCafe 37 = .ok (.bipush 59, 2) := by decide +kernel
theorem dX10_readCafe_39 : decode cX10_readCafe 39 = .ok (.iload_n 1, 1) := by decide +kernel
theorem dX10_readCafe_40 : decode cX10_readCafe 40 = .ok (.invokevirtual 148, 3) := by decide +kernel
theorem dX10_readCafe_43 : decode cX10_readCafe 43 = .ok (.ifCond .ne 5, 3) := by decide +kernel
theorem dX10_readCafe_46 : decode cX10_readCafe 46 = .ok (.iconst 0, 1) := by decide +kernel
theorem dX10_readCafe_47 : decode cX10_readCafe 47 = .ok (.ireturn, 1) := by decide +kernel
theorem dX10_readCafe_48 : decode cX10_readCafe 48 = .ok (.aload_n 0, 1) := by decide +kernel
theorem dX10_readCafe_49 : decode cX10_readCafe 49 = .ok (.dup, 1) := by decide +kernel
theorem dX10_readCafe_50 : decode cX10_readCafe 50 = .ok (.getfield 111, 3) := by decide +kernel
theorem dX10_readCafe_53 : decode cX10_readCafe 53 = .ok (.iconst 1, 1) := by decide +kernel
theorem dX10_readCafe_54 : decode cX10_readCafe 54 = .ok (.iadd, 1) := by decide +kernel
theorem dX10_readCafe_55 : decode cX10_readCafe 55 = .ok (.putfield 111, 3) := by decide +kernel
theorem dX10_readCafe_58 : decode cX10_readCafe 58 = .ok (.aload_n 0, 1) := by decide +kernel
theorem dX10_readCafe_59 : decode cX10_readCafe 59 = .ok (.bipush 115, 2) := by decide +kernel
theorem dX10_readCafe_61 : decode cX10_readCafe 61 = .ok (.iload_n 1, 1) := by decide +kernel
theorem dX10_readCafe_62 : decode cX10_readCafe 62 = .ok (.invokevirtual 148, 3) := by decide +kernel
theorem dX10_readCafe_65 : decode cX10_readCafe 65 = .ok (.ifCond .eq 16, 3) := by decide +kernel
theorem dX10_readCafe_68 : decode cX10_readCafe 68 = .ok (.aload_n 0, 1) := by decide +kernel
theorem dX10_readCafe_69 : decode cX10_readCafe 69 = .ok (.getfield 29, 3) := by decide +kernel
theorem dX10_readCafe_72 : decode cX10_readCafe 72 = .ok (.aload_n 0, 1) := by decide +kernel
theorem dX10_readCafe_73 : decode cX10_readCafe 73 = .ok (.getfield 132, 3) := by decide +kernel
theorem dX10_readCafe_76 : decode cX10_readCafe 76 = .ok (.iconst 0, 1) := by decide +kernel
theorem dX10_readCafe_77 : decode cX10_readCafe 77 = .ok (.iastore, 1) := by decide +kernel
theorem dX10_readCafe_78 : decode cX10_readCafe 78 = .ok (.goto 51, 3) := by decide +kernel
theorem dX10_readCafe_81 : decode cX10_readCafe 81 = .ok (.aload_n 0, 1) := by decide +kernel
theorem dX10_readCafe_82 : decode cX10_readCafe 82 = .ok (.bipush 119, 2) := by decide +kernel
theorem dX10_readCafe_84 : decode cX10_readCafe 84 = .ok (.iload_n 1, 1) := by decide +kernel
theorem dX10_readCafe_85 : decode cX10_readCafe 85 = .ok (.invokevirtual 148, 3) := by decide +kernel
theorem dX10_readCafe_88 : decode cX10_readCafe 88 = .ok (.ifCond .eq 16, 3) := by decide +kernel
theorem dX10_readCafe_91 : decode cX10_readCafe 91 = .ok (.aload_n 0, 1) := by decide +kernel
theorem dX10_readCafe_92 : decode cX10_readCafe 92 = .ok (.getfield 29, 3) := by decide +kernel
theorem dX10_readCafe_95 : decode cX10_readCafe 95 = .ok (.aload_n 0, 1) := by decide +kernel
theorem dX10_readCafe_96 : decode cX10_readCafe 96 = .ok (.getfield 132, 3) := by decide +kernel
theorem dX10_readCafe_99 : decode cX10_readCafe 99 = .ok (.iconst 1, 1) := by decide +kernel
theorem dX10_readCafe_100 : decode cX10_readCafe 100 = .ok (.iastore, 1) := by decide +kernel
theorem dX10_readCafe_101 : decode cX10_readCafe 101 = .ok (.goto 28, 3) := by decide +kernel
theorem dX10_readCafe_104 : decode cX10_readCafe 104 = .ok (.aload_n 0, 1) := by decide +kernel
theorem dX10_readCafe_105 : decode cX10_readCafe 105 = .ok (.bipush 105, 2) := by decide +kernel
theorem dX10_readCafe_107 : decode cX10_readCafe 107 = .ok (.iload_n 1, 1) := by decide +kernel
theorem dX10_readCafe_108 : decode cX10_readCafe 108 = .ok (.invokevirtual 148, 3) := by decide +kernel
theorem dX10_readCafe_111 : decode cX10_readCafe 111 = .ok (.ifCond .eq 16, 3) := by decide +kernel
theorem dX10_readCafe_114 : decode cX10_readCafe 114 = .ok (.aload_n 0, 1) := by decide +kernel
theorem dX10_readCafe_115 : decode cX10_readCafe 115 = .ok (.getfield 29, 3) := by decide +kernel
theorem dX10_readCafe_118 : decode cX10_readCafe 118 = .ok (.aload_n 0, 1) := by decide +kernel
theorem dX10_readCafe_119 : decode cX10_readCafe 119 = .ok (.getfield 132, 3) := by decide +kernel
theorem dX10_readCafe_122 : decode cX10_readCafe 122 = .ok (.iconst 2, 1) := by decide +kernel
theorem dX10_readCafe_123 : decode cX10_readCafe 123 = .ok (.iastore, 1) := by decide +kernel
theorem dX10_readCafe_124 : decode cX10_readCafe 124 = .ok (.goto 5, 3) := by decide +kernel
theorem dX10_readCafe_127 : decode cX10_readCafe 127 = .ok (.iconst 0, 1) := by decide +kernel
theorem dX10_readCafe_128 : decode cX10_readCafe 128 = .ok (.ireturn, 1) := by decide +kernel
theorem dX10_readCafe_129 : decode cX10_readCafe 129 = .ok (.aload_n 0, 1) := by decide +kernel
theorem dX10_readCafe_130 : decode cX10_readCafe 130 = .ok (.dup, 1) := by decide +kernel
theorem dX10_readCafe_131 : decode cX10_readCafe 131 = .ok (.getfield 111, 3) := by decide +kernel
theorem dX10_readCafe_134 : decode cX10_readCafe 134 = .ok (.iconst 1, 1) := by decide +kernel
theorem dX10_readCafe_135 : decode cX10_readCafe 135 = .ok (.iadd, 1) := by decide +kernel
theorem dX10_readCafe_136 : decode cX10_readCafe 136 = .ok (.putfield 111, 3) := by decide +kernel
theorem dX10_readCafe_139 : decode cX10_readCafe 139 = .ok (.aload_n 0, 1) := by decide +kernel
theorem dX10_readCafe_140 : decode cX10_readCafe 140 = .ok (.getfield 111, 3) := by decide +kernel
theorem dX10_readCafe_143 : decode cX10_readCafe 143 = .ok (.iload_n 1, 1) := by decide +kernel
theorem dX10_readCafe_144 : decode cX10_readCafe 144 = .ok (.if_icmp .ge 22, 3) := by decide +kernel
theorem dX10_readCafe_147 : decode cX10_readCafe 147 = .ok (.aload_n 0, 1) := by decide +kernel
theorem dX10_readCafe_148 : decode cX10_readCafe 148 = .ok (.getfield 16, 3) := by decide +kernel
theorem dX10_readCafe_151 : decode cX10_readCafe 151 = .ok (.aload_n 0, 1) := by decide +kernel
theorem dX10_readCafe_152 : decode cX10_readCafe 152 = .ok (.getfield 111, 3) := by decide +kernel
theorem dX10_readCafe_155 : decode cX10_readCafe 155 = .ok (.iaload, 1) := by decide +kernel
theorem dX10_readCafe_156 : decode cX10_readCafe 156 = .ok (.bipush 49, 2) := by decide +kernel
theorem dX10_readCafe_158 : decode cX10_readCafe 158 = .ok (.bipush 54, 2) := by decide +kernel
theorem dX10_readCafe_160 : decode cX10_readCafe 160 = .ok (.invokestatic 104, 3) := by decide +kernel
theorem dX10_readCafe_163 : decode cX10_readCafe 163 = .ok (.ifCond .ne 5, 3) := by decide +kernel
theorem dX10_readCafe_166 : decode cX10_readCafe 166 = .ok (.iconst 0, 1) := by decide +kernel
theorem dX10_readCafe_167 : decode cX10_readCafe 167 = .ok (.ireturn, 1) := by decide +kernel
theorem dX10_readCafe_168 : decode cX10_readCafe 168 = .ok (.aload_n 0, 1) := by decide +kernel
theorem dX10_readCafe_169 : decode cX10_readCafe 169 = .ok (.getfield 32, 3) := by decide +kernel
theorem dX10_readCafe_172 : decode cX10_readCafe 172 = .ok (.aload_n 0, 1) := by decide +kernel
theorem dX10_readCafe_173 : decode cX10_readCafe 173 = .ok (.getfield 132, 3) := by decide +kernel
theorem dX10_readCafe_176 : decode cX10_readCafe 176 = .ok (.aload_n 0, 1) := by decide +kernel
theorem dX10_readCafe_177 : decode cX10_readCafe 177 = .ok (.getfield 16, 3) := by decide +kernel
theorem dX10_readCafe_180 : decode cX10_readCafe 180 = .ok (.aload_n 0, 1) := by decide +kernel
theorem dX10_readCafe_181 : decode cX10_readCafe 181 = .ok (.getfield 111, 3) := by decide +kernel
theorem dX10_readCafe_184 : decode cX10_readCafe 184 = .ok (.iaload, 1) := by decide +kernel
theorem dX10_readCafe_185 : decode cX10_readCafe 185 = .ok (.bipush 48, 2) := by decide +kernel
theorem dX10_readCafe_187 : decode cX10_readCafe 187 = .ok (.isub, 1) := by decide +kernel
theorem dX10_readCafe_188 : decode cX10_readCafe 188 = .ok (.iastore, 1) := by decide +kernel
theorem dX10_readCafe_189 : decode cX10_readCafe 189 = .ok (.aload_n 0, 1) := by decide +kernel
theorem dX10_readCafe_190 : decode cX10_readCafe 190 = .ok (.dup, 1) := by decide +kernel
theorem dX10_readCafe_191 : decode cX10_readCafe 191 = .ok (.getfield 132, 3) := by decide +kernel
theorem dX10_readCafe_194 : decode cX10_readCafe 194 = .ok (.iconst 1, 1) := by decide +kernel
theorem dX10_readCafe_195 : decode cX10_readCafe 195 = .ok (.iadd, 1) := by decide +kernel
theorem dX10_readCafe_196 : decode cX10_readCafe 196 = .ok (.putfield 132, 3) := by decide +kernel
theorem dX10_readCafe_199 : decode cX10_readCafe 199 = .ok (.aload_n 0, 1) := by decide +kernel
theorem dX10_readCafe_200 : decode cX10_readCafe 200 = .ok (.dup, 1) := by decide +kernel
theorem dX10_readCafe_201 : decode cX10_readCafe 201 = .ok (.getfield 111, 3) := by decide +kernel
theorem dX10_readCafe_204 : decode cX10_readCafe 204 = .ok (.iconst 1, 1) := by decide +kernel
theorem dX10_readCafe_205 : decode cX10_readCafe 205 = .ok (.iadd, 1) := by decide +kernel
theorem dX10_readCafe_206 : decode cX10_readCafe 206 = .ok (.putfield 111, 3) := by decide +kernel
theorem dX10_readCafe_209 : decode cX10_readCafe 209 = .ok (.goto (-204), 3) := by decide +kernel
theorem dX10_readCafe_212 : decode cX10_readCafe 212 = .ok (.iconst 1, 1) := by decide +kernel
theorem dX10_readCafe_213 : decode cX10_readCafe 213 = .ok (.ireturn, 1) := by decide +kernel
theorem dX10_ofTable_0 : decode cX10_ofTable 0 = .ok (.iload_n 1, 1) := by decide +kernel
theorem dX10_ofTable_1 : decode cX10_ofTable 1 = .ok (.ifCond .lt 11, 3) := by decide +kernel
theorem dX10_ofTable_4 : decode cX10_ofTable 4 = .ok (.iload_n 1, 1) := by decide +kernel
theorem dX10_ofTable_5 : decode cX10_ofTable 5 = .ok (.aload_n 0, 1) := by decide +kernel
theorem dX10_ofTable_6 : decode cX10_ofTable 6 = .ok (.getfield 108, 3) := by decide +kernel
theorem dX10_ofTable_9 : decode cX10_ofTable 9 = .ok (.if_icmp .lt 5, 3) := by decide +kernel
theorem dX10_ofTable_12 : decode cX10_ofTable 12 = .ok (.iconst (-1), 1) := by decide +kernel
theorem dX10_ofTable_13 : decode cX10_ofTable 13 = .ok (.ireturn, 1) := by decide +kernel
theorem dX10_ofTable_14 : decode cX10_ofTable 14 = .ok (.iload_n 2, 1) := by decide +kernel
theorem dX10_ofTable_15 : decode cX10_ofTable 15 = .ok (.ifCond .ne 12, 3) := by decide +kernel
theorem dX10_ofTable_18 : decode cX10_ofTable 18 = .ok (.aload_n 0, 1) := by decide +kernel
theorem dX10_ofTable_19 : decode cX10_ofTable 19 = .ok (.getfield 19, 3) := by decide +kernel
theorem dX10_ofTable_22 : decode cX10_ofTable 22 = .ok (.iload_n 1, 1) := by decide +kernel
theorem dX10_ofTable_23 : decode cX10_ofTable 23 = .ok (.iaload, 1) := by decide +kernel
theorem dX10_ofTable_24 : decode cX10_ofTable 24 = .ok (.goto 19, 3) := by decide +kernel
theorem dX10_ofTable_27 : decode cX10_ofTable 27 = .ok (.iload_n 2, 1) := by decide +kernel
theorem dX10_ofTable_28 : decode cX10_ofTable 28 = .ok (.iconst 1, 1) := by decide +kernel
theorem dX10_ofTable_29 : decode cX10_ofTable 29 = .ok (.if_icmp .ne 12, 3) := by decide +kernel
theorem dX10_ofTable_32 : decode cX10_ofTable 32 = .ok (.aload_n 0, 1) := by decide +kernel
theorem dX10_ofTable_33 : decode cX10_ofTable 33 = .ok (.getfield 22, 3) := by decide +kernel
theorem dX10_ofTable_36 : decode cX10_ofTable 36 = .ok (.iload_n 1, 1) := by decide +kernel
theorem dX10_ofTable_37 : decode cX10_ofTable 37 = .ok (.iaload, 1) := by decide +kernel
theorem dX10_ofTable_38 : decode cX10_ofTable 38 = .ok (.goto 5, 3) := by decide +kernel
theorem dX10_ofTable_41 : decode cX10_ofTable 41 = .ok (.bipush (-2), 2) := by decide +kernel
theorem dX10_ofTable_43 : decode cX10_ofTable 43 = .ok (.ireturn, 1) := by decide +kernel
theorem dX10_rule_0 : decode cX10_rule 0 = .ok (.iload_n 1, 1) := by decide +kernel
theorem dX10_rule_1 : decode cX10_rule 1 = .ok (.iconst 0, 1) := by decide +kernel
theorem dX10_rule_2 : decode cX10_rule 2 = .ok (.iconst 2, 1) := by decide +kernel
theorem dX10_rule_3 : decode cX10_rule 3 = .ok (.invokestatic 104, 3) := by decide +kernel
theorem dX10_rule_6 : decode cX10_rule 6 = .ok (.ifCond .ne 6, 3) := by decide +kernel
theorem dX10_rule_9 : decode cX10_rule 9 = .ok (.bipush (-2), 2) := by decide +kernel
theorem dX10_rule_11 : decode cX10_rule 11 = .ok (.ireturn, 1) := by decide +kernel
theorem dX10_rule_12 : decode cX10_rule 12 = .ok (.aload_n 0, 1) := by decide +kernel
theorem dX10_rule_13 : decode cX10_rule 13 = .ok (.invokevirtual 152, 3) := by decide +kernel
theorem dX10_rule_16 : decode cX10_rule 16 = .ok (.ifCond .ne 6, 3) := by decide +kernel
theorem dX10_rule_19 : decode cX10_rule 19 = .ok (.bipush (-3), 2) := by decide +kernel
theorem dX10_rule_21 : decode cX10_rule 21 = .ok (.ireturn, 1) := by decide +kernel
theorem dX10_rule_22 : decode cX10_rule 22 = .ok (.aload_n 0, 1) := by decide +kernel
theorem dX10_rule_23 : decode cX10_rule 23 = .ok (.getfield 138, 3) := by decide +kernel
theorem dX10_rule_26 : decode cX10_rule 26 = .ok (.istore_n 2, 1) := by decide +kernel
theorem dX10_rule_27 : decode cX10_rule 27 = .ok (.aload_n 0, 1) := by decide +kernel
theorem dX10_rule_28 : decode cX10_rule 28 = .ok (.iload_n 1, 1) := by decide +kernel
theorem dX10_rule_29 : decode cX10_rule 29 = .ok (.putfield 138, 3) := by decide +kernel
theorem dX10_rule_32 : decode cX10_rule 32 = .ok (.iload_n 2, 1) := by decide +kernel
theorem dX10_rule_33 : decode cX10_rule 33 = .ok (.ireturn, 1) := by decide +kernel
theorem dX10_patience_0 : decode cX10_patience 0 = .ok (.iload_n 1, 1) := by decide +kernel
theorem dX10_patience_1 : decode cX10_patience 1 = .ok (.iconst 0, 1) := by decide +kernel
theorem dX10_patience_2 : decode cX10_patience 2 = .ok (.bipush 30, 2) := by decide +kernel
theorem dX10_patience_4 : decode cX10_patience 4 = .ok (.invokestatic 104, 3) := by decide +kernel
theorem dX10_patience_7 : decode cX10_patience 7 = .ok (.ifCond .ne 6, 3) := by decide +kernel
theorem dX10_patience_10 : decode cX10_patience 10 = .ok (.bipush (-2), 2) := by decide +kernel
theorem dX10_patience_12 : decode cX10_patience 12 = .ok (.ireturn, 1) := by decide +kernel
theorem dX10_patience_13 : decode cX10_patience 13 = .ok (.aload_n 0, 1) := by decide +kernel
theorem dX10_patience_14 : decode cX10_patience 14 = .ok (.invokevirtual 152, 3) := by decide +kernel
theorem dX10_patience_17 : decode cX10_patience 17 = .ok (.ifCond .ne 6, 3) := by decide +kernel
theorem dX10_patience_20 : decode cX10_patience 20 = .ok (.bipush (-3), 2) := by decide +kernel
theorem dX10_patience_22 : decode cX10_patience 22 = .ok (.ireturn, 1) := by decide +kernel
theorem dX10_patience_23 : decode cX10_patience 23 = .ok (.aload_n 0, 1) := by decide +kernel
theorem dX10_patience_24 : decode cX10_patience 24 = .ok (.getfield 141, 3) := by decide +kernel
theorem dX10_patience_27 : decode cX10_patience 27 = .ok (.istore_n 2, 1) := by decide +kernel
theorem dX10_patience_28 : decode cX10_patience 28 = .ok (.aload_n 0, 1) := by decide +kernel
theorem dX10_patience_29 : decode cX10_patience 29 = .ok (.iload_n 1, 1) := by decide +kernel
theorem dX10_patience_30 : decode cX10_patience 30 = .ok (.putfield 141, 3) := by decide +kernel
theorem dX10_patience_33 : decode cX10_patience 33 = .ok (.iload_n 2, 1) := by decide +kernel
theorem dX10_patience_34 : decode cX10_patience 34 = .ok (.ireturn, 1) := by decide +kernel
theorem dX10_joining_0 : decode cX10_joining 0 = .ok (.aload_n 0, 1) := by decide +kernel
theorem dX10_joining_1 : decode cX10_joining 1 = .ok (.invokevirtual 152, 3) := by decide +kernel
theorem dX10_joining_4 : decode cX10_joining 4 = .ok (.ifCond .ne 6, 3) := by decide +kernel
theorem dX10_joining_7 : decode cX10_joining 7 = .ok (.bipush (-3), 2) := by decide +kernel
theorem dX10_joining_9 : decode cX10_joining 9 = .ok (.ireturn, 1) := by decide +kernel
theorem dX10_joining_10 : decode cX10_joining 10 = .ok (.aload_n 0, 1) := by decide +kernel
theorem dX10_joining_11 : decode cX10_joining 11 = .ok (.getfield 144, 3) := by decide +kernel
theorem dX10_joining_14 : decode cX10_joining 14 = .ok (.istore_n 2, 1) := by decide +kernel
theorem dX10_joining_15 : decode cX10_joining 15 = .ok (.aload_n 0, 1) := by decide +kernel
theorem dX10_joining_16 : decode cX10_joining 16 = .ok (.iload_n 1, 1) := by decide +kernel
theorem dX10_joining_17 : decode cX10_joining 17 = .ok (.putfield 144, 3) := by decide +kernel
theorem dX10_joining_20 : decode cX10_joining 20 = .ok (.iload_n 2, 1) := by decide +kernel
theorem dX10_joining_21 : decode cX10_joining 21 = .ok (.iload_n 1, 1) := by decide +kernel
theorem dX10_joining_22 : decode cX10_joining 22 = .ok (.if_icmp .ne 7, 3) := by decide +kernel
theorem dX10_joining_25 : decode cX10_joining 25 = .ok (.iconst 0, 1) := by decide +kernel
theorem dX10_joining_26 : decode cX10_joining 26 = .ok (.goto 4, 3) := by decide +kernel
theorem dX10_joining_29 : decode cX10_joining 29 = .ok (.iconst 1, 1) := by decide +kernel
theorem dX10_joining_30 : decode cX10_joining 30 = .ok (.ireturn, 1) := by decide +kernel
theorem dX10_rain_0 : decode cX10_rain 0 = .ok (.iload_n 1, 1) := by decide +kernel
theorem dX10_rain_1 : decode cX10_rain 1 = .ok (.bipush (-9), 2) := by decide +kernel
theorem dX10_rain_3 : decode cX10_rain 3 = .ok (.if_icmp .eq 17, 3) := by decide +kernel
theorem dX10_rain_6 : decode cX10_rain 6 = .ok (.iload_n 1, 1) := by decide +kernel
theorem dX10_rain_7 : decode cX10_rain 7 = .ok (.iconst 0, 1) := by decide +kernel
theorem dX10_rain_8 : decode cX10_rain 8 = .ok (.sipush 399, 3) := by decide +kernel
theorem dX10_rain_11 : decode cX10_rain 11 = .ok (.invokestatic 104, 3) := by decide +kernel
theorem dX10_rain_14 : decode cX10_rain 14 = .ok (.ifCond .ne 6, 3) := by decide +kernel
theorem dX10_rain_17 : decode cX10_rain 17 = .ok (.bipush (-2), 2) := by decide +kernel
theorem dX10_rain_19 : decode cX10_rain 19 = .ok (.ireturn, 1) := by decide +kernel
theorem dX10_rain_20 : decode cX10_rain 20 = .ok (.aload_n 0, 1) := by decide +kernel
theorem dX10_rain_21 : decode cX10_rain 21 = .ok (.invokevirtual 152, 3) := by decide +kernel
theorem dX10_rain_24 : decode cX10_rain 24 = .ok (.ifCond .ne 6, 3) := by decide +kernel
theorem dX10_rain_27 : decode cX10_rain 27 = .ok (.bipush (-3), 2) := by decide +kernel
theorem dX10_rain_29 : decode cX10_rain 29 = .ok (.ireturn, 1) := by decide +kernel
theorem dX10_rain_30 : decode cX10_rain 30 = .ok (.aload_n 0, 1) := by decide +kernel
theorem dX10_rain_31 : decode cX10_rain 31 = .ok (.iload_n 1, 1) := by decide +kernel
theorem dX10_rain_32 : decode cX10_rain 32 = .ok (.putfield 25, 3) := by decide +kernel
theorem dX10_rain_35 : decode cX10_rain 35 = .ok (.iconst 1, 1) := by decide +kernel
theorem dX10_rain_36 : decode cX10_rain 36 = .ok (.ireturn, 1) := by decide +kernel
theorem dX10_isGroup_0 : decode cX10_isGroup 0 = .ok (.iload_n 1, 1) := by decide +kernel
theorem dX10_isGroup_1 : decode cX10_isGroup 1 = .ok (.ifCond .lt 15, 3) := by decide +kernel
theorem dX10_isGroup_4 : decode cX10_isGroup 4 = .ok (.iload_n 1, 1) := by decide +kernel
theorem dX10_isGroup_5 : decode cX10_isGroup 5 = .ok (.aload_n 0, 1) := by decide +kernel
theorem dX10_isGroup_6 : decode cX10_isGroup 6 = .ok (.getfield 135, 3) := by decide +kernel
theorem dX10_isGroup_9 : decode cX10_isGroup 9 = .ok (.if_icmp .ge 7, 3) := by decide +kernel
theorem dX10_isGroup_12 : decode cX10_isGroup 12 = .ok (.iconst 1, 1) := by decide +kernel
theorem dX10_isGroup_13 : decode cX10_isGroup 13 = .ok (.goto 4, 3) := by decide +kernel
theorem dX10_isGroup_16 : decode cX10_isGroup 16 = .ok (.iconst 0, 1) := by decide +kernel
theorem dX10_isGroup_17 : decode cX10_isGroup 17 = .ok (.ireturn, 1) := by decide +kernel
theorem dX10_group_0 : decode cX10_group 0 = .ok (.iload_n 1, 1) := by decide +kernel
theorem dX10_group_1 : decode cX10_group 1 = .ok (.iconst 0, 1) := by decide +kernel
theorem dX10_group_2 : decode cX10_group 2 = .ok (.iconst 2, 1) := by decide +kernel
theorem dX10_group_3 : decode cX10_group 3 = .ok (.invokestatic 104, 3) := by decide +kernel
theorem dX10_group_6 : decode cX10_group 6 = .ok (.ifCond .eq 55, 3) := by decide +kernel
theorem dX10_group_9 : decode cX10_group 9 = .ok (.iload_n 2, 1) := by decide +kernel
theorem dX10_group_10 : decode cX10_group 10 = .ok (.iconst 1, 1) := by decide +kernel
theorem dX10_group_11 : decode cX10_group 11 = .ok (.bipush 6, 2) := by decide +kernel
theorem dX10_group_13 : decode cX10_group 13 = .ok (.invokestatic 104, 3) := by decide +kernel
theorem dX10_group_16 : decode cX10_group 16 = .ok (.ifCond .eq 45, 3) := by decide +kernel
theorem dX10_group_19 : decode cX10_group 19 = .ok (.iload_n 3, 1) := by decide +kernel
theorem dX10_group_20 : decode cX10_group 20 = .ok (.iconst 0, 1) := by decide +kernel
theorem dX10_group_21 : decode cX10_group 21 = .ok (.bipush 99, 2) := by decide +kernel
theorem dX10_group_23 : decode cX10_group 23 = .ok (.invokestatic 104, 3) := by decide +kernel
theorem dX10_group_26 : decode cX10_group 26 = .ok (.ifCond .eq 35, 3) := by decide +kernel
theorem dX10_group_29 : decode cX10_group 29 = .ok (.iload 4, 2) := by decide +kernel
theorem dX10_group_31 : decode cX10_group 31 = .ok (.iconst 1, 1) := by decide +kernel
theorem dX10_group_32 : decode cX10_group 32 = .ok (.bipush 60, 2) := by decide +kernel
theorem dX10_group_34 : decode cX10_group 34 = .ok (.invokestatic 104, 3) := by decide +kernel
theorem dX10_group_37 : decode cX10_group 37 = .ok (.ifCond .eq 24, 3) := by decide +kernel
theorem dX10_group_40 : decode cX10_group 40 = .ok (.iload 5, 2) := by decide +kernel
theorem dX10_group_42 : decode cX10_group 42 = .ok (.iconst 0, 1) := by decide +kernel
theorem dX10_group_43 : decode cX10_group 43 = .ok (.iconst 2, 1) := by decide +kernel
theorem dX10_group_44 : decode cX10_group 44 = .ok (.invokestatic 104, 3) := by decide +kernel
theorem dX10_group_47 : decode cX10_group 47 = .ok (.ifCond .eq 14, 3) := by decide +kernel
theorem dX10_group_50 : decode cX10_group 50 = .ok (.iload 6, 2) := by decide +kernel
theorem dX10_group_52 : decode cX10_group 52 = .ok (.iconst 0, 1) := by decide +kernel
theorem dX10_group_53 : decode cX10_group 53 = .ok (.bipush 6, 2) := by decide +kernel
theorem dX10_group_55 : decode cX10_group 55 = .ok (.invokestatic 104, 3) := by decide +kernel
theorem dX10_group_58 : decode cX10_group 58 = .ok (.ifCond .ne 6, 3) := by decide +kernel
theorem dX10_group_61 : decode cX10_group 61 = .ok (.bipush (-2), 2) := by decide +kernel
theorem dX10_group_63 : decode cX10_group 63 = .ok (.ireturn, 1) := by decide +kernel
theorem dX10_group_64 : decode cX10_group 64 = .ok (.aload_n 0, 1) := by decide +kernel
theorem dX10_group_65 : decode cX10_group 65 = .ok (.invokevirtual 152, 3) := by decide +kernel
theorem dX10_group_68 : decode cX10_group 68 = .ok (.ifCond .ne 6, 3) := by decide +kernel
theorem dX10_group_71 : decode cX10_group 71 = .ok (.bipush (-3), 2) := by decide +kernel
theorem dX10_group_73 : decode cX10_group 73 = .ok (.ireturn, 1) := by decide +kernel
theorem dX10_group_74 : decode cX10_group 74 = .ok (.aload_n 0, 1) := by decide +kernel
theorem dX10_group_75 : decode cX10_group 75 = .ok (.getfield 135, 3) := by decide +kernel
theorem dX10_group_78 : decode cX10_group 78 = .ok (.bipush 8, 2) := by decide +kernel
theorem dX10_group_80 : decode cX10_group 80 = .ok (.if_icmp .ne 6, 3) := by decide +kernel
theorem dX10_group_83 : decode cX10_group 83 = .ok (.bipush (-4), 2) := by decide +kernel
theorem dX10_group_85 : decode cX10_group 85 = .ok (.ireturn, 1) := by decide +kernel
theorem dX10_group_86 : decode cX10_group 86 = .ok (.aload_n 0, 1) := by decide +kernel
theorem dX10_group_87 : decode cX10_group 87 = .ok (.getfield 35, 3) := by decide +kernel
theorem dX10_group_90 : decode cX10_group 90 = .ok (.aload_n 0, 1) := by decide +kernel
theorem dX10_group_91 : decode cX10_group 91 = .ok (.getfield 135, 3) := by decide +kernel
theorem dX10_group_94 : decode cX10_group 94 = .ok (.iload_n 1, 1) := by decide +kernel
theorem dX10_group_95 : decode cX10_group 95 = .ok (.iastore, 1) := by decide +kernel
theorem dX10_group_96 : decode cX10_group 96 = .ok (.aload_n 0, 1) := by decide +kernel
theorem dX10_group_97 : decode cX10_group 97 = .ok (.getfield 38, 3) := by decide +kernel
theorem dX10_group_100 : decode cX10_group 100 = .ok (.aload_n 0, 1) := by decide +kernel
theorem dX10_group_101 : decode cX10_group 101 = .ok (.getfield 135, 3) := by decide +kernel
theorem dX10_group_104 : decode cX10_group 104 = .ok (.iload_n 2, 1) := by decide +kernel
theorem dX10_group_105 : decode cX10_group 105 = .ok (.iastore, 1) := by decide +kernel
theorem dX10_group_106 : decode cX10_group 106 = .ok (.aload_n 0, 1) := by decide +kernel
theorem dX10_group_107 : decode cX10_group 107 = .ok (.getfield 41, 3) := by decide +kernel
theorem dX10_group_110 : decode cX10_group 110 = .ok (.aload_n 0, 1) := by decide +kernel
theorem dX10_group_111 : decode cX10_group 111 = .ok (.getfield 135, 3) := by decide +kernel
theorem dX10_group_114 : decode cX10_group 114 = .ok (.iload_n 3, 1) := by decide +kernel
theorem dX10_group_115 : decode cX10_group 115 = .ok (.iastore, 1) := by decide +kernel
theorem dX10_group_116 : decode cX10_group 116 = .ok (.aload_n 0, 1) := by decide +kernel
theorem dX10_group_117 : decode cX10_group 117 = .ok (.getfield 44, 3) := by decide +kernel
theorem dX10_group_120 : decode cX10_group 120 = .ok (.aload_n 0, 1) := by decide +kernel
theorem dX10_group_121 : decode cX10_group 121 = .ok (.getfield 135, 3) := by decide +kernel
theorem dX10_group_124 : decode cX10_group 124 = .ok (.iload 4, 2) := by decide +kernel
theorem dX10_group_126 : decode cX10_group 126 = .ok (.iastore, 1) := by decide +kernel
theorem dX10_group_127 : decode cX10_group 127 = .ok (.aload_n 0, 1) := by decide +kernel
theorem dX10_group_128 : decode cX10_group 128 = .ok (.getfield 47, 3) := by decide +kernel
theorem dX10_group_131 : decode cX10_group 131 = .ok (.aload_n 0, 1) := by decide +kernel
theorem dX10_group_132 : decode cX10_group 132 = .ok (.getfield 135, 3) := by decide +kernel
theorem dX10_group_135 : decode cX10_group 135 = .ok (.iload 5, 2) := by decide +kernel
theorem dX10_group_137 : decode cX10_group 137 = .ok (.iastore, 1) := by decide +kernel
theorem dX10_group_138 : decode cX10_group 138 = .ok (.aload_n 0, 1) := by decide +kernel
theorem dX10_group_139 : decode cX10_group 139 = .ok (.getfield 50, 3) := by decide +kernel
theorem dX10_group_142 : decode cX10_group 142 = .ok (.aload_n 0, 1) := by decide +kernel
theorem dX10_group_143 : decode cX10_group 143 = .ok (.getfield 135, 3) := by decide +kernel
theorem dX10_group_146 : decode cX10_group 146 = .ok (.iload 6, 2) := by decide +kernel
theorem dX10_group_148 : decode cX10_group 148 = .ok (.iastore, 1) := by decide +kernel
theorem dX10_group_149 : decode cX10_group 149 = .ok (.aload_n 0, 1) := by decide +kernel
theorem dX10_group_150 : decode cX10_group 150 = .ok (.dup, 1) := by decide +kernel
theorem dX10_group_151 : decode cX10_group 151 = .ok (.getfield 135, 3) := by decide +kernel
theorem dX10_group_154 : decode cX10_group 154 = .ok (.iconst 1, 1) := by decide +kernel
theorem dX10_group_155 : decode cX10_group 155 = .ok (.iadd, 1) := by decide +kernel
theorem dX10_group_156 : decode cX10_group 156 = .ok (.putfield 135, 3) := by decide +kernel
theorem dX10_group_159 : decode cX10_group 159 = .ok (.aload_n 0, 1) := by decide +kernel
theorem dX10_group_160 : decode cX10_group 160 = .ok (.getfield 135, 3) := by decide +kernel
theorem dX10_group_163 : decode cX10_group 163 = .ok (.iconst 1, 1) := by decide +kernel
theorem dX10_group_164 : decode cX10_group 164 = .ok (.isub, 1) := by decide +kernel
theorem dX10_group_165 : decode cX10_group 165 = .ok (.ireturn, 1) := by decide +kernel
theorem dX10_stays_0 : decode cX10_stays 0 = .ok (.aload_n 0, 1) := by decide +kernel
theorem dX10_stays_1 : decode cX10_stays 1 = .ok (.getfield 35, 3) := by decide +kernel
theorem dX10_stays_4 : decode cX10_stays 4 = .ok (.iload_n 1, 1) := by decide +kernel
theorem dX10_stays_5 : decode cX10_stays 5 = .ok (.iaload, 1) := by decide +kernel
theorem dX10_stays_6 : decode cX10_stays 6 = .ok (.ifCond .le 14, 3) := by decide +kernel
theorem dX10_stays_9 : decode cX10_stays 9 = .ok (.iconst 2, 1) := by decide +kernel
theorem dX10_stays_10 : decode cX10_stays 10 = .ok (.aload_n 0, 1) := by decide +kernel
theorem dX10_stays_11 : decode cX10_stays 11 = .ok (.getfield 44, 3) := by decide +kernel
theorem dX10_stays_14 : decode cX10_stays 14 = .ok (.iload_n 1, 1) := by decide +kernel
theorem dX10_stays_15 : decode cX10_stays 15 = .ok (.iaload, 1) := by decide +kernel
theorem dX10_stays_16 : decode cX10_stays 16 = .ok (.imul, 1) := by decide +kernel
theorem dX10_stays_17 : decode cX10_stays 17 = .ok (.goto 9, 3) := by decide +kernel
theorem dX10_stays_20 : decode cX10_stays 20 = .ok (.aload_n 0, 1) := by decide +kernel
theorem dX10_stays_21 : decode cX10_stays 21 = .ok (.getfield 44, 3) := by decide +kernel
theorem dX10_stays_24 : decode cX10_stays 24 = .ok (.iload_n 1, 1) := by decide +kernel
theorem dX10_stays_25 : decode cX10_stays 25 = .ok (.iaload, 1) := by decide +kernel
theorem dX10_stays_26 : decode cX10_stays 26 = .ok (.ireturn, 1) := by decide +kernel
theorem dX10_ofGroup_0 : decode cX10_ofGroup 0 = .ok (.aload_n 0, 1) := by decide +kernel
theorem dX10_ofGroup_1 : decode cX10_ofGroup 1 = .ok (.iload_n 1, 1) := by decide +kernel
theorem dX10_ofGroup_2 : decode cX10_ofGroup 2 = .ok (.invokevirtual 156, 3) := by decide +kernel
theorem dX10_ofGroup_5 : decode cX10_ofGroup 5 = .ok (.ifCond .ne 5, 3) := by decide +kernel
theorem dX10_ofGroup_8 : decode cX10_ofGroup 8 = .ok (.iconst (-1), 1) := by decide +kernel
theorem dX10_ofGroup_9 : decode cX10_ofGroup 9 = .ok (.ireturn, 1) := by decide +kernel
theorem dX10_ofGroup_10 : decode cX10_ofGroup 10 = .ok (.iload_n 2, 1) := by decide +kernel
theorem dX10_ofGroup_11 : decode cX10_ofGroup 11 = .ok (.tableswitch 89 0 6 #[41, 48, 55, 62, 69, 76, 83], 41) := by decide +kernel
theorem dX10_ofGroup_52 : decode cX10_ofGroup 52 = .ok (.aload_n 0, 1) := by decide +kernel
theorem dX10_ofGroup_53 : decode cX10_ofGroup 53 = .ok (.getfield 35, 3) := by decide +kernel
theorem dX10_ofGroup_56 : decode cX10_ofGroup 56 = .ok (.iload_n 1, 1) := by decide +kernel
theorem dX10_ofGroup_57 : decode cX10_ofGroup 57 = .ok (.iaload, 1) := by decide +kernel
theorem dX10_ofGroup_58 : decode cX10_ofGroup 58 = .ok (.ireturn, 1) := by decide +kernel
theorem dX10_ofGroup_59 : decode cX10_ofGroup 59 = .ok (.aload_n 0, 1) := by decide +kernel
theorem dX10_ofGroup_60 : decode cX10_ofGroup 60 = .ok (.getfield 38, 3) := by decide +kernel
theorem dX10_ofGroup_63 : decode cX10_ofGroup 63 = .ok (.iload_n 1, 1) := by decide +kernel
theorem dX10_ofGroup_64 : decode cX10_ofGroup 64 = .ok (.iaload, 1) := by decide +kernel
theorem dX10_ofGroup_65 : decode cX10_ofGroup 65 = .ok (.ireturn, 1) := by decide +kernel
theorem dX10_ofGroup_66 : decode cX10_ofGroup 66 = .ok (.aload_n 0, 1) := by decide +kernel
theorem dX10_ofGroup_67 : decode cX10_ofGroup 67 = .ok (.getfield 41, 3) := by decide +kernel
theorem dX10_ofGroup_70 : decode cX10_ofGroup 70 = .ok (.iload_n 1, 1) := by decide +kernel
theorem dX10_ofGroup_71 : decode cX10_ofGroup 71 = .ok (.iaload, 1) := by decide +kernel
theorem dX10_ofGroup_72 : decode cX10_ofGroup 72 = .ok (.ireturn, 1) := by decide +kernel
theorem dX10_ofGroup_73 : decode cX10_ofGroup 73 = .ok (.aload_n 0, 1) := by decide +kernel
theorem dX10_ofGroup_74 : decode cX10_ofGroup 74 = .ok (.getfield 44, 3) := by decide +kernel
theorem dX10_ofGroup_77 : decode cX10_ofGroup 77 = .ok (.iload_n 1, 1) := by decide +kernel
theorem dX10_ofGroup_78 : decode cX10_ofGroup 78 = .ok (.iaload, 1) := by decide +kernel
theorem dX10_ofGroup_79 : decode cX10_ofGroup 79 = .ok (.ireturn, 1) := by decide +kernel
theorem dX10_ofGroup_80 : decode cX10_ofGroup 80 = .ok (.aload_n 0, 1) := by decide +kernel
theorem dX10_ofGroup_81 : decode cX10_ofGroup 81 = .ok (.getfield 47, 3) := by decide +kernel
theorem dX10_ofGroup_84 : decode cX10_ofGroup 84 = .ok (.iload_n 1, 1) := by decide +kernel
theorem dX10_ofGroup_85 : decode cX10_ofGroup 85 = .ok (.iaload, 1) := by decide +kernel
theorem dX10_ofGroup_86 : decode cX10_ofGroup 86 = .ok (.ireturn, 1) := by decide +kernel
theorem dX10_ofGroup_87 : decode cX10_ofGroup 87 = .ok (.aload_n 0, 1) := by decide +kernel
theorem dX10_ofGroup_88 : decode cX10_ofGroup 88 = .ok (.getfield 50, 3) := by decide +kernel
theorem dX10_ofGroup_91 : decode cX10_ofGroup 91 = .ok (.iload_n 1, 1) := by decide +kernel
theorem dX10_ofGroup_92 : decode cX10_ofGroup 92 = .ok (.iaload, 1) := by decide +kernel
theorem dX10_ofGroup_93 : decode cX10_ofGroup 93 = .ok (.ireturn, 1) := by decide +kernel
theorem dX10_ofGroup_94 : decode cX10_ofGroup 94 = .ok (.aload_n 0, 1) := by decide +kernel
theorem dX10_ofGroup_95 : decode cX10_ofGroup 95 = .ok (.iload_n 1, 1) := by decide +kernel
theorem dX10_ofGroup_96 : decode cX10_ofGroup 96 = .ok (.invokevirtual 159, 3) := by decide +kernel
theorem dX10_ofGroup_99 : decode cX10_ofGroup 99 = .ok (.ireturn, 1) := by decide +kernel
theorem dX10_ofGroup_100 : decode cX10_ofGroup 100 = .ok (.bipush (-2), 2) := by decide +kernel
theorem dX10_ofGroup_102 : decode cX10_ofGroup 102 = .ok (.ireturn, 1) := by decide +kernel
theorem dX10_coinOf_0 : decode cX10_coinOf 0 = .ok (.aload_n 0, 1) := by decide +kernel
theorem dX10_coinOf_1 : decode cX10_coinOf 1 = .ok (.getfield 38, 3) := by decide +kernel
theorem dX10_coinOf_4 : decode cX10_coinOf 4 = .ok (.iload_n 1, 1) := by decide +kernel
theorem dX10_coinOf_5 : decode cX10_coinOf 5 = .ok (.iaload, 1) := by decide +kernel
theorem dX10_coinOf_6 : decode cX10_coinOf 6 = .ok (.iconst 5, 1) := by decide +kernel
theorem dX10_coinOf_7 : decode cX10_coinOf 7 = .ok (.iload_n 2, 1) := by decide +kernel
theorem dX10_coinOf_8 : decode cX10_coinOf 8 = .ok (.aload_n 0, 1) := by decide +kernel
theorem dX10_coinOf_9 : decode cX10_coinOf 9 = .ok (.getfield 35, 3) := by decide +kernel
theorem dX10_coinOf_12 : decode cX10_coinOf 12 = .ok (.iload_n 1, 1) := by decide +kernel
theorem dX10_coinOf_13 : decode cX10_coinOf 13 = .ok (.iaload, 1) := by decide +kernel
theorem dX10_coinOf_14 : decode cX10_coinOf 14 = .ok (.ifCond .le 8, 3) := by decide +kernel
theorem dX10_coinOf_17 : decode cX10_coinOf 17 = .ok (.bipush 20, 2) := by decide +kernel
theorem dX10_coinOf_19 : decode cX10_coinOf 19 = .ok (.goto 5, 3) := by decide +kernel
theorem dX10_coinOf_22 : decode cX10_coinOf 22 = .ok (.bipush 10, 2) := by decide +kernel
theorem dX10_coinOf_24 : decode cX10_coinOf 24 = .ok (.idiv, 1) := by decide +kernel
theorem dX10_coinOf_25 : decode cX10_coinOf 25 = .ok (.iadd, 1) := by decide +kernel
theorem dX10_coinOf_26 : decode cX10_coinOf 26 = .ok (.imul, 1) := by decide +kernel
theorem dX10_coinOf_27 : decode cX10_coinOf 27 = .ok (.ireturn, 1) := by decide +kernel
theorem dX10_layNow_0 : decode cX10_layNow 0 = .ok (.aload_n 0, 1) := by decide +kernel
theorem dX10_layNow_1 : decode cX10_layNow 1 = .ok (.aload_n 0, 1) := by decide +kernel
theorem dX10_layNow_2 : decode cX10_layNow 2 = .ok (.getfield 108, 3) := by decide +kernel
theorem dX10_layNow_5 : decode cX10_layNow 5 = .ok (.putfield 162, 3) := by decide +kernel
theorem dX10_layNow_8 : decode cX10_layNow 8 = .ok (.iconst 0, 1) := by decide +kernel
theorem dX10_layNow_9 : decode cX10_layNow 9 = .ok (.istore_n 1, 1) := by decide +kernel
theorem dX10_layNow_10 : decode cX10_layNow 10 = .ok (.iload_n 1, 1) := by decide +kernel
theorem dX10_layNow_11 : decode cX10_layNow 11 = .ok (.aload_n 0, 1) := by decide +kernel
theorem dX10_layNow_12 : decode cX10_layNow 12 = .ok (.getfield 108, 3) := by decide +kernel
theorem dX10_layNow_15 : decode cX10_layNow 15 = .ok (.if_icmp .ge 33, 3) := by decide +kernel
theorem dX10_layNow_18 : decode cX10_layNow 18 = .ok (.aload_n 0, 1) := by decide +kernel
theorem dX10_layNow_19 : decode cX10_layNow 19 = .ok (.getfield 53, 3) := by decide +kernel
theorem dX10_layNow_22 : decode cX10_layNow 22 = .ok (.iload_n 1, 1) := by decide +kernel
theorem dX10_layNow_23 : decode cX10_layNow 23 = .ok (.aload_n 0, 1) := by decide +kernel
theorem dX10_layNow_24 : decode cX10_layNow 24 = .ok (.getfield 19, 3) := by decide +kernel
theorem dX10_layNow_27 : decode cX10_layNow 27 = .ok (.iload_n 1, 1) := by decide +kernel
theorem dX10_layNow_28 : decode cX10_layNow 28 = .ok (.iaload, 1) := by decide +kernel
theorem dX10_layNow_29 : decode cX10_layNow 29 = .ok (.iastore, 1) := by decide +kernel
theorem dX10_layNow_30 : decode cX10_layNow 30 = .ok (.aload_n 0, 1) := by decide +kernel
theorem dX10_layNow_31 : decode cX10_layNow 31 = .ok (.getfield 56, 3) := by decide +kernel
theorem dX10_layNow_34 : decode cX10_layNow 34 = .ok (.iload_n 1, 1) := by decide +kernel
theorem dX10_layNow_35 : decode cX10_layNow 35 = .ok (.aload_n 0, 1) := by decide +kernel
theorem dX10_layNow_36 : decode cX10_layNow 36 = .ok (.getfield 22, 3) := by decide +kernel
theorem dX10_layNow_39 : decode cX10_layNow 39 = .ok (.iload_n 1, 1) := by decide +kernel
theorem dX10_layNow_40 : decode cX10_layNow 40 = .ok (.iaload, 1) := by decide +kernel
theorem dX10_layNow_41 : decode cX10_layNow 41 = .ok (.iastore, 1) := by decide +kernel
theorem dX10_layNow_42 : decode cX10_layNow 42 = .ok (.iinc 1 1, 3) := by decide +kernel
theorem dX10_layNow_45 : decode cX10_layNow 45 = .ok (.goto (-35), 3) := by decide +kernel
theorem dX10_layNow_48 : decode cX10_layNow 48 = .ok (.aload_n 0, 1) := by decide +kernel
theorem dX10_layNow_49 : decode cX10_layNow 49 = .ok (.aload_n 0, 1) := by decide +kernel
theorem dX10_layNow_50 : decode cX10_layNow 50 = .ok (.getfield 138, 3) := by decide +kernel
theorem dX10_layNow_53 : decode cX10_layNow 53 = .ok (.putfield 165, 3) := by decide +kernel
theorem dX10_layNow_56 : decode cX10_layNow 56 = .ok (.aload_n 0, 1) := by decide +kernel
theorem dX10_layNow_57 : decode cX10_layNow 57 = .ok (.aload_n 0, 1) := by decide +kernel
theorem dX10_layNow_58 : decode cX10_layNow 58 = .ok (.getfield 141, 3) := by decide +kernel
theorem dX10_layNow_61 : decode cX10_layNow 61 = .ok (.putfield 168, 3) := by decide +kernel
theorem dX10_layNow_64 : decode cX10_layNow 64 = .ok (.aload_n 0, 1) := by decide +kernel
theorem dX10_layNow_65 : decode cX10_layNow 65 = .ok (.aload_n 0, 1) := by decide +kernel
theorem dX10_layNow_66 : decode cX10_layNow 66 = .ok (.getfield 25, 3) := by decide +kernel
theorem dX10_layNow_69 : decode cX10_layNow 69 = .ok (.putfield 171, 3) := by decide +kernel
theorem dX10_layNow_72 : decode cX10_layNow 72 = .ok (.aload_n 0, 1) := by decide +kernel
theorem dX10_layNow_73 : decode cX10_layNow 73 = .ok (.bipush (-9), 2) := by decide +kernel
theorem dX10_layNow_75 : decode cX10_layNow 75 = .ok (.putfield 174, 3) := by decide +kernel
theorem dX10_layNow_78 : decode cX10_layNow 78 = .ok (.return_, 1) := by decide +kernel
theorem dX10_goDay_0 : decode cX10_goDay 0 = .ok (.iconst 0, 1) := by decide +kernel
theorem dX10_goDay_1 : decode cX10_goDay 1 = .ok (.istore_n 1, 1) := by decide +kernel
theorem dX10_goDay_2 : decode cX10_goDay 2 = .ok (.iload_n 1, 1) := by decide +kernel
theorem dX10_goDay_3 : decode cX10_goDay 3 = .ok (.bipush 6, 2) := by decide +kernel
theorem dX10_goDay_5 : decode cX10_goDay 5 = .ok (.if_icmp .ge 24, 3) := by decide +kernel
theorem dX10_goDay_8 : decode cX10_goDay 8 = .ok (.aload_n 0, 1) := by decide +kernel
theorem dX10_goDay_9 : decode cX10_goDay 9 = .ok (.getfield 59, 3) := by decide +kernel
theorem dX10_goDay_12 : decode cX10_goDay 12 = .ok (.iload_n 1, 1) := by decide +kernel
theorem dX10_goDay_13 : decode cX10_goDay 13 = .ok (.bipush (-9), 2) := by decide +kernel
theorem dX10_goDay_15 : decode cX10_goDay 15 = .ok (.iastore, 1) := by decide +kernel
theorem dX10_goDay_16 : decode cX10_goDay 16 = .ok (.aload_n 0, 1) := by decide +kernel
theorem dX10_goDay_17 : decode cX10_goDay 17 = .ok (.getfield 62, 3) := by decide +kernel
theorem dX10_goDay_20 : decode cX10_goDay 20 = .ok (.iload_n 1, 1) := by decide +kernel
theorem dX10_goDay_21 : decode cX10_goDay 21 = .ok (.iconst 0, 1) := by decide +kernel
theorem dX10_goDay_22 : decode cX10_goDay 22 = .ok (.bastore, 1) := by decide +kernel
theorem dX10_goDay_23 : decode cX10_goDay 23 = .ok (.iinc 1 1, 3) := by decide +kernel
theorem dX10_goDay_26 : decode cX10_goDay 26 = .ok (.goto (-24), 3) := by decide +kernel
theorem dX10_goDay_29 : decode cX10_goDay 29 = .ok (.iconst 0, 1) := by decide +kernel
theorem dX10_goDay_30 : decode cX10_goDay 30 = .ok (.istore_n 1, 1) := by decide +kernel
theorem dX10_goDay_31 : decode cX10_goDay 31 = .ok (.iload_n 1, 1) := by decide +kernel
theorem dX10_goDay_32 : decode cX10_goDay 32 = .ok (.bipush 8, 2) := by decide +kernel
theorem dX10_goDay_34 : decode cX10_goDay 34 = .ok (.if_icmp .ge 54, 3) := by decide +kernel
theorem dX10_goDay_37 : decode cX10_goDay 37 = .ok (.aload_n 0, 1) := by decide +kernel
theorem dX10_goDay_38 : decode cX10_goDay 38 = .ok (.getfield 66, 3) := by decide +kernel
theorem dX10_goDay_41 : decode cX10_goDay 41 = .ok (.iload_n 1, 1) := by decide +kernel
theorem dX10_goDay_42 : decode cX10_goDay 42 = .ok (.iconst 0, 1) := by decide +kernel
theorem dX10_goDay_43 : decode cX10_goDay 43 = .ok (.iastore, 1) := by decide +kernel
theorem dX10_goDay_44 : decode cX10_goDay 44 = .ok (.aload_n 0, 1) := by decide +kernel
theorem dX10_goDay_45 : decode cX10_goDay 45 = .ok (.getfield 69, 3) := by decide +kernel
theorem dX10_goDay_48 : decode cX10_goDay 48 = .ok (.iload_n 1, 1) := by decide +kernel
theorem dX10_goDay_49 : decode cX10_goDay 49 = .ok (.bipush (-9), 2) := by decide +kernel
theorem dX10_goDay_51 : decode cX10_goDay 51 = .ok (.iastore, 1) := by decide +kernel
theorem dX10_goDay_52 : decode cX10_goDay 52 = .ok (.aload_n 0, 1) := by decide +kernel
theorem dX10_goDay_53 : decode cX10_goDay 53 = .ok (.getfield 72, 3) := by decide +kernel
theorem dX10_goDay_56 : decode cX10_goDay 56 = .ok (.iload_n 1, 1) := by decide +kernel
theorem dX10_goDay_57 : decode cX10_goDay 57 = .ok (.bipush (-9), 2) := by decide +kernel
theorem dX10_goDay_59 : decode cX10_goDay 59 = .ok (.iastore, 1) := by decide +kernel
theorem dX10_goDay_60 : decode cX10_goDay 60 = .ok (.aload_n 0, 1) := by decide +kernel
theorem dX10_goDay_61 : decode cX10_goDay 61 = .ok (.getfield 75, 3) := by decide +kernel
theorem dX10_goDay_64 : decode cX10_goDay 64 = .ok (.iload_n 1, 1) := by decide +kernel
theorem dX10_goDay_65 : decode cX10_goDay 65 = .ok (.bipush (-9), 2) := by decide +kernel
theorem dX10_goDay_67 : decode cX10_goDay 67 = .ok (.iastore, 1) := by decide +kernel
theorem dX10_goDay_68 : decode cX10_goDay 68 = .ok (.aload_n 0, 1) := by decide +kernel
theorem dX10_goDay_69 : decode cX10_goDay 69 = .ok (.getfield 78, 3) := by decide +kernel
theorem dX10_goDay_72 : decode cX10_goDay 72 = .ok (.iload_n 1, 1) := by decide +kernel
theorem dX10_goDay_73 : decode cX10_goDay 73 = .ok (.iconst 0, 1) := by decide +kernel
theorem dX10_goDay_74 : decode cX10_goDay 74 = .ok (.iastore, 1) := by decide +kernel
theorem dX10_goDay_75 : decode cX10_goDay 75 = .ok (.aload_n 0, 1) := by decide +kernel
theorem dX10_goDay_76 : decode cX10_goDay 76 = .ok (.getfield 81, 3) := by decide +kernel
theorem dX10_goDay_79 : decode cX10_goDay 79 = .ok (.iload_n 1, 1) := by decide +kernel
theorem dX10_goDay_80 : decode cX10_goDay 80 = .ok (.iconst 0, 1) := by decide +kernel
theorem dX10_goDay_81 : decode cX10_goDay 81 = .ok (.iastore, 1) := by decide +kernel
theorem dX10_goDay_82 : decode cX10_goDay 82 = .ok (.iinc 1 1, 3) := by decide +kernel
theorem dX10_goDay_85 : decode cX10_goDay 85 = .ok (.goto (-54), 3) := by decide +kernel
theorem dX10_goDay_88 : decode cX10_goDay 88 = .ok (.iconst 0, 1) := by decide +kernel
theorem dX10_goDay_89 : decode cX10_goDay 89 = .ok (.istore_n 1, 1) := by decide +kernel
theorem dX10_goDay_90 : decode cX10_goDay 90 = .ok (.iload_n 1, 1) := by decide +kernel
theorem dX10_goDay_91 : decode cX10_goDay 91 = .ok (.sipush 400, 3) := by decide +kernel
theorem dX10_goDay_94 : decode cX10_goDay 94 = .ok (.if_icmp .ge 36, 3) := by decide +kernel
theorem dX10_goDay_97 : decode cX10_goDay 97 = .ok (.aload_n 0, 1) := by decide +kernel
theorem dX10_goDay_98 : decode cX10_goDay 98 = .ok (.iload_n 1, 1) := by decide +kernel
theorem dX10_goDay_99 : decode cX10_goDay 99 = .ok (.invokevirtual 177, 3) := by decide +kernel
theorem dX10_goDay_102 : decode cX10_goDay 102 = .ok (.aload_n 0, 1) := by decide +kernel
theorem dX10_goDay_103 : decode cX10_goDay 103 = .ok (.getfield 84, 3) := by decide +kernel
theorem dX10_goDay_106 : decode cX10_goDay 106 = .ok (.iload_n 1, 1) := by decide +kernel
theorem dX10_goDay_107 : decode cX10_goDay 107 = .ok (.aload_n 0, 1) := by decide +kernel
theorem dX10_goDay_108 : decode cX10_goDay 108 = .ok (.invokevirtual 181, 3) := by decide +kernel
theorem dX10_goDay_111 : decode cX10_goDay 111 = .ok (.iastore, 1) := by decide +kernel
theorem dX10_goDay_112 : decode cX10_goDay 112 = .ok (.aload_n 0, 1) := by decide +kernel
theorem dX10_goDay_113 : decode cX10_goDay 113 = .ok (.getfield 87, 3) := by decide +kernel
theorem dX10_goDay_116 : decode cX10_goDay 116 = .ok (.iload_n 1, 1) := by decide +kernel
theorem dX10_goDay_117 : decode cX10_goDay 117 = .ok (.aload_n 0, 1) := by decide +kernel
theorem dX10_goDay_118 : decode cX10_goDay 118 = .ok (.bipush (-9), 2) := by decide +kernel
theorem dX10_goDay_120 : decode cX10_goDay 120 = .ok (.invokevirtual 185, 3) := by decide +kernel
theorem dX10_goDay_123 : decode cX10_goDay 123 = .ok (.iastore, 1) := by decide +kernel
theorem dX10_goDay_124 : decode cX10_goDay 124 = .ok (.iinc 1 1, 3) := by decide +kernel
theorem dX10_goDay_127 : decode cX10_goDay 127 = .ok (.goto (-37), 3) := by decide +kernel
theorem dX10_goDay_130 : decode cX10_goDay 130 = .ok (.return_, 1) := by decide +kernel
theorem dX10_manyTaken_0 : decode cX10_manyTaken 0 = .ok (.iconst 0, 1) := by decide +kernel
theorem dX10_manyTaken_1 : decode cX10_manyTaken 1 = .ok (.istore_n 1, 1) := by decide +kernel
theorem dX10_manyTaken_2 : decode cX10_manyTaken 2 = .ok (.iconst 0, 1) := by decide +kernel
theorem dX10_manyTaken_3 : decode cX10_manyTaken 3 = .ok (.istore_n 2, 1) := by decide +kernel
theorem dX10_manyTaken_4 : decode cX10_manyTaken 4 = .ok (.iload_n 2, 1) := by decide +kernel
theorem dX10_manyTaken_5 : decode cX10_manyTaken 5 = .ok (.aload_n 0, 1) := by decide +kernel
theorem dX10_manyTaken_6 : decode cX10_manyTaken 6 = .ok (.getfield 162, 3) := by decide +kernel
theorem dX10_manyTaken_9 : decode cX10_manyTaken 9 = .ok (.if_icmp .ge 28, 3) := by decide +kernel
theorem dX10_manyTaken_12 : decode cX10_manyTaken 12 = .ok (.iload_n 1, 1) := by decide +kernel
theorem dX10_manyTaken_13 : decode cX10_manyTaken 13 = .ok (.aload_n 0, 1) := by decide +kernel
theorem dX10_manyTaken_14 : decode cX10_manyTaken 14 = .ok (.getfield 59, 3) := by decide +kernel
theorem dX10_manyTaken_17 : decode cX10_manyTaken 17 = .ok (.iload_n 2, 1) := by decide +kernel
theorem dX10_manyTaken_18 : decode cX10_manyTaken 18 = .ok (.iaload, 1) := by decide +kernel
theorem dX10_manyTaken_19 : decode cX10_manyTaken 19 = .ok (.bipush (-9), 2) := by decide +kernel
theorem dX10_manyTaken_21 : decode cX10_manyTaken 21 = .ok (.if_icmp .ne 7, 3) := by decide +kernel
theorem dX10_manyTaken_24 : decode cX10_manyTaken 24 = .ok (.iconst 0, 1) := by decide +kernel
theorem dX10_manyTaken_25 : decode cX10_manyTaken 25 = .ok (.goto 4, 3) := by decide +kernel
theorem dX10_manyTaken_28 : decode cX10_manyTaken 28 = .ok (.iconst 1, 1) := by decide +kernel
theorem dX10_manyTaken_29 : decode cX10_manyTaken 29 = .ok (.iadd, 1) := by decide +kernel
theorem dX10_manyTaken_30 : decode cX10_manyTaken 30 = .ok (.istore_n 1, 1) := by decide +kernel
theorem dX10_manyTaken_31 : decode cX10_manyTaken 31 = .ok (.iinc 2 1, 3) := by decide +kernel
theorem dX10_manyTaken_34 : decode cX10_manyTaken 34 = .ok (.goto (-30), 3) := by decide +kernel
theorem dX10_manyTaken_37 : decode cX10_manyTaken 37 = .ok (.iload_n 1, 1) := by decide +kernel
theorem dX10_manyTaken_38 : decode cX10_manyTaken 38 = .ok (.ireturn, 1) := by decide +kernel
theorem dX10_manyWait_0 : decode cX10_manyWait 0 = .ok (.iconst 0, 1) := by decide +kernel
theorem dX10_manyWait_1 : decode cX10_manyWait 1 = .ok (.istore_n 2, 1) := by decide +kernel
theorem dX10_manyWait_2 : decode cX10_manyWait 2 = .ok (.iconst 0, 1) := by decide +kernel
theorem dX10_manyWait_3 : decode cX10_manyWait 3 = .ok (.istore_n 3, 1) := by decide +kernel
theorem dX10_manyWait_4 : decode cX10_manyWait 4 = .ok (.iload_n 3, 1) := by decide +kernel
theorem dX10_manyWait_5 : decode cX10_manyWait 5 = .ok (.aload_n 0, 1) := by decide +kernel
theorem dX10_manyWait_6 : decode cX10_manyWait 6 = .ok (.getfield 135, 3) := by decide +kernel
theorem dX10_manyWait_9 : decode cX10_manyWait 9 = .ok (.if_icmp .ge 32, 3) := by decide +kernel
theorem dX10_manyWait_12 : decode cX10_manyWait 12 = .ok (.iload_n 2, 1) := by decide +kernel
theorem dX10_manyWait_13 : decode cX10_manyWait 13 = .ok (.iload_n 3, 1) := by decide +kernel
theorem dX10_manyWait_14 : decode cX10_manyWait 14 = .ok (.iload_n 1, 1) := by decide +kernel
theorem dX10_manyWait_15 : decode cX10_manyWait 15 = .ok (.if_icmp .eq 17, 3) := by decide +kernel
theorem dX10_manyWait_18 : decode cX10_manyWait 18 = .ok (.aload_n 0, 1) := by decide +kernel
theorem dX10_manyWait_19 : decode cX10_manyWait 19 = .ok (.getfield 66, 3) := by decide +kernel
theorem dX10_manyWait_22 : decode cX10_manyWait 22 = .ok (.iload_n 3, 1) := by decide +kernel
theorem dX10_manyWait_23 : decode cX10_manyWait 23 = .ok (.iaload, 1) := by decide +kernel
theorem dX10_manyWait_24 : decode cX10_manyWait 24 = .ok (.iconst 2, 1) := by decide +kernel
theorem dX10_manyWait_25 : decode cX10_manyWait 25 = .ok (.if_icmp .ne 7, 3) := by decide +kernel
theorem dX10_manyWait_28 : decode cX10_manyWait 28 = .ok (.iconst 1, 1) := by decide +kernel
theorem dX10_manyWait_29 : decode cX10_manyWait 29 = .ok (.goto 4, 3) := by decide +kernel
theorem dX10_manyWait_32 : decode cX10_manyWait 32 = .ok (.iconst 0, 1) := by decide +kernel
theorem dX10_manyWait_33 : decode cX10_manyWait 33 = .ok (.iadd, 1) := by decide +kernel
theorem dX10_manyWait_34 : decode cX10_manyWait 34 = .ok (.istore_n 2, 1) := by decide +kernel
theorem dX10_manyWait_35 : decode cX10_manyWait 35 = .ok (.iinc 3 1, 3) := by decide +kernel
theorem dX10_manyWait_38 : decode cX10_manyWait 38 = .ok (.goto (-34), 3) := by decide +kernel
theorem dX10_manyWait_41 : decode cX10_manyWait 41 = .ok (.iload_n 2, 1) := by decide +kernel
theorem dX10_manyWait_42 : decode cX10_manyWait 42 = .ok (.ireturn, 1) := by decide +kernel
theorem dX10_goMinute_0 : decode cX10_goMinute 0 = .ok (.iconst 0, 1) := by decide +kernel
theorem dX10_goMinute_1 : decode cX10_goMinute 1 = .ok (.istore_n 2, 1) := by decide +kernel
theorem dX10_goMinute_2 : decode cX10_goMinute 2 = .ok (.iload_n 2, 1) := by decide +kernel
theorem dX10_goMinute_3 : decode cX10_goMinute 3 = .ok (.aload_n 0, 1) := by decide +kernel
theorem dX10_goMinute_4 : decode cX10_goMinute 4 = .ok (.getfield 135, 3) := by decide +kernel
theorem dX10_goMinute_7 : decode cX10_goMinute 7 = .ok (.if_icmp .ge 40, 3) := by decide +kernel
theorem dX10_goMinute_10 : decode cX10_goMinute 10 = .ok (.aload_n 0, 1) := by decide +kernel
theorem dX10_goMinute_11 : decode cX10_goMinute 11 = .ok (.getfield 66, 3) := by decide +kernel
theorem dX10_goMinute_14 : decode cX10_goMinute 14 = .ok (.iload_n 2, 1) := by decide +kernel
theorem dX10_goMinute_15 : decode cX10_goMinute 15 = .ok (.iaload, 1) := by decide +kernel
theorem dX10_goMinute_16 : decode cX10_goMinute 16 = .ok (.iconst 1, 1) := by decide +kernel
theorem dX10_goMinute_17 : decode cX10_goMinute 17 = .ok (.if_icmp .ne 24, 3) := by decide +kernel
theorem dX10_goMinute_20 : decode cX10_goMinute 20 = .ok (.aload_n 0, 1) := by decide +kernel
theorem dX10_goMinute_21 : decode cX10_goMinute 21 = .ok (.getfield 75, 3) := by decide +kernel
theorem dX10_goMinute_24 : decode cX10_goMinute 24 = .ok (.iload_n 2, 1) := by decide +kernel
theorem dX10_goMinute_25 : decode cX10_goMinute 25 = .ok (.iaload, 1) := by decide +kernel
theorem dX10_goMinute_26 : decode cX10_goMinute 26 = .ok (.iload_n 1, 1) := by decide +kernel
theorem dX10_goMinute_27 : decode cX10_goMinute 27 = .ok (.if_icmp .gt 14, 3) := by decide +kernel
theorem dX10_goMinute_30 : decode cX10_goMinute 30 = .ok (.aload_n 0, 1) := by decide +kernel
theorem dX10_goMinute_31 : decode cX10_goMinute 31 = .ok (.iload_n 2, 1) := by decide +kernel
theorem dX10_goMinute_32 : decode cX10_goMinute 32 = .ok (.invokevirtual 188, 3) := by decide +kernel
theorem dX10_goMinute_35 : decode cX10_goMinute 35 = .ok (.aload_n 0, 1) := by decide +kernel
theorem dX10_goMinute_36 : decode cX10_goMinute 36 = .ok (.iload_n 2, 1) := by decide +kernel
theorem dX10_goMinute_37 : decode cX10_goMinute 37 = .ok (.iload_n 1, 1) := by decide +kernel
theorem dX10_goMinute_38 : decode cX10_goMinute 38 = .ok (.invokevirtual 191, 3) := by decide +kernel
theorem dX10_goMinute_41 : decode cX10_goMinute 41 = .ok (.iinc 2 1, 3) := by decide +kernel
theorem dX10_goMinute_44 : decode cX10_goMinute 44 = .ok (.goto (-42), 3) := by decide +kernel
theorem dX10_goMinute_47 : decode cX10_goMinute 47 = .ok (.iload_n 1, 1) := by decide +kernel
theorem dX10_goMinute_48 : decode cX10_goMinute 48 = .ok (.aload_n 0, 1) := by decide +kernel
theorem dX10_goMinute_49 : decode cX10_goMinute 49 = .ok (.getfield 171, 3) := by decide +kernel
theorem dX10_goMinute_52 : decode cX10_goMinute 52 = .ok (.if_icmp .ne 8, 3) := by decide +kernel
theorem dX10_goMinute_55 : decode cX10_goMinute 55 = .ok (.aload_n 0, 1) := by decide +kernel
theorem dX10_goMinute_56 : decode cX10_goMinute 56 = .ok (.iload_n 1, 1) := by decide +kernel
theorem dX10_goMinute_57 : decode cX10_goMinute 57 = .ok (.invokevirtual 195, 3) := by decide +kernel
theorem dX10_goMinute_60 : decode cX10_goMinute 60 = .ok (.aload_n 0, 1) := by decide +kernel
theorem dX10_goMinute_61 : decode cX10_goMinute 61 = .ok (.iload_n 1, 1) := by decide +kernel
theorem dX10_goMinute_62 : decode cX10_goMinute 62 = .ok (.invokevirtual 198, 3) := by decide +kernel
theorem dX10_goMinute_65 : decode cX10_goMinute 65 = .ok (.iconst 0, 1) := by decide +kernel
theorem dX10_goMinute_66 : decode cX10_goMinute 66 = .ok (.istore_n 2, 1) := by decide +kernel
theorem dX10_goMinute_67 : decode cX10_goMinute 67 = .ok (.iload_n 2, 1) := by decide +kernel
theorem dX10_goMinute_68 : decode cX10_goMinute 68 = .ok (.aload_n 0, 1) := by decide +kernel
theorem dX10_goMinute_69 : decode cX10_goMinute 69 = .ok (.getfield 135, 3) := by decide +kernel
theorem dX10_goMinute_72 : decode cX10_goMinute 72 = .ok (.if_icmp .ge 33, 3) := by decide +kernel
theorem dX10_goMinute_75 : decode cX10_goMinute 75 = .ok (.aload_n 0, 1) := by decide +kernel
theorem dX10_goMinute_76 : decode cX10_goMinute 76 = .ok (.getfield 41, 3) := by decide +kernel
theorem dX10_goMinute_79 : decode cX10_goMinute 79 = .ok (.iload_n 2, 1) := by decide +kernel
theorem dX10_goMinute_80 : decode cX10_goMinute 80 = .ok (.iaload, 1) := by decide +kernel
theorem dX10_goMinute_81 : decode cX10_goMinute 81 = .ok (.iload_n 1, 1) := by decide +kernel
theorem dX10_goMinute_82 : decode cX10_goMinute 82 = .ok (.if_icmp .ne 17, 3) := by decide +kernel
theorem dX10_goMinute_85 : decode cX10_goMinute 85 = .ok (.iload_n 2, 1) := by decide +kernel
theorem dX10_goMinute_86 : decode cX10_goMinute 86 = .ok (.aload_n 0, 1) := by decide +kernel
theorem dX10_goMinute_87 : decode cX10_goMinute 87 = .ok (.getfield 174, 3) := by decide +kernel
theorem dX10_goMinute_90 : decode cX10_goMinute 90 = .ok (.if_icmp .eq 9, 3) := by decide +kernel
theorem dX10_goMinute_93 : decode cX10_goMinute 93 = .ok (.aload_n 0, 1) := by decide +kernel
theorem dX10_goMinute_94 : decode cX10_goMinute 94 = .ok (.iload_n 2, 1) := by decide +kernel
theorem dX10_goMinute_95 : decode cX10_goMinute 95 = .ok (.iload_n 1, 1) := by decide +kernel
theorem dX10_goMinute_96 : decode cX10_goMinute 96 = .ok (.invokevirtual 201, 3) := by decide +kernel
theorem dX10_goMinute_99 : decode cX10_goMinute 99 = .ok (.iinc 2 1, 3) := by decide +kernel
theorem dX10_goMinute_102 : decode cX10_goMinute 102 = .ok (.goto (-35), 3) := by decide +kernel
theorem dX10_goMinute_105 : decode cX10_goMinute 105 = .ok (.return_, 1) := by decide +kernel
theorem dX10_goes_0 : decode cX10_goes 0 = .ok (.aload_n 0, 1) := by decide +kernel
theorem dX10_goes_1 : decode cX10_goes 1 = .ok (.getfield 66, 3) := by decide +kernel
theorem dX10_goes_4 : decode cX10_goes 4 = .ok (.iload_n 1, 1) := by decide +kernel
theorem dX10_goes_5 : decode cX10_goes 5 = .ok (.iconst 5, 1) := by decide +kernel
theorem dX10_goes_6 : decode cX10_goes 6 = .ok (.iastore, 1) := by decide +kernel
theorem dX10_goes_7 : decode cX10_goes 7 = .ok (.aload_n 0, 1) := by decide +kernel
theorem dX10_goes_8 : decode cX10_goes 8 = .ok (.getfield 78, 3) := by decide +kernel
theorem dX10_goes_11 : decode cX10_goes 11 = .ok (.iload_n 1, 1) := by decide +kernel
theorem dX10_goes_12 : decode cX10_goes 12 = .ok (.aload_n 0, 1) := by decide +kernel
theorem dX10_goes_13 : decode cX10_goes 13 = .ok (.iload_n 1, 1) := by decide +kernel
theorem dX10_goes_14 : decode cX10_goes 14 = .ok (.iload_n 2, 1) := by decide +kernel
theorem dX10_goes_15 : decode cX10_goes 15 = .ok (.aload_n 0, 1) := by decide +kernel
theorem dX10_goes_16 : decode cX10_goes 16 = .ok (.getfield 72, 3) := by decide +kernel
theorem dX10_goes_19 : decode cX10_goes 19 = .ok (.iload_n 1, 1) := by decide +kernel
theorem dX10_goes_20 : decode cX10_goes 20 = .ok (.iaload, 1) := by decide +kernel
theorem dX10_goes_21 : decode cX10_goes 21 = .ok (.isub, 1) := by decide +kernel
theorem dX10_goes_22 : decode cX10_goes 22 = .ok (.invokevirtual 204, 3) := by decide +kernel
theorem dX10_goes_25 : decode cX10_goes 25 = .ok (.iastore, 1) := by decide +kernel
theorem dX10_goes_26 : decode cX10_goes 26 = .ok (.return_, 1) := by decide +kernel
theorem dX10_getsUp_0 : decode cX10_getsUp 0 = .ok (.iconst 0, 1) := by decide +kernel
theorem dX10_getsUp_1 : decode cX10_getsUp 1 = .ok (.istore_n 2, 1) := by decide +kernel
theorem dX10_getsUp_2 : decode cX10_getsUp 2 = .ok (.iload_n 2, 1) := by decide +kernel
theorem dX10_getsUp_3 : decode cX10_getsUp 3 = .ok (.aload_n 0, 1) := by decide +kernel
theorem dX10_getsUp_4 : decode cX10_getsUp 4 = .ok (.getfield 162, 3) := by decide +kernel
theorem dX10_getsUp_7 : decode cX10_getsUp 7 = .ok (.if_icmp .ge 27, 3) := by decide +kernel
theorem dX10_getsUp_10 : decode cX10_getsUp 10 = .ok (.aload_n 0, 1) := by decide +kernel
theorem dX10_getsUp_11 : decode cX10_getsUp 11 = .ok (.getfield 59, 3) := by decide +kernel
theorem dX10_getsUp_14 : decode cX10_getsUp 14 = .ok (.iload_n 2, 1) := by decide +kernel
theorem dX10_getsUp_15 : decode cX10_getsUp 15 = .ok (.iaload, 1) := by decide +kernel
theorem dX10_getsUp_16 : decode cX10_getsUp 16 = .ok (.iload_n 1, 1) := by decide +kernel
theorem dX10_getsUp_17 : decode cX10_getsUp 17 = .ok (.if_icmp .ne 11, 3) := by decide +kernel
theorem dX10_getsUp_20 : decode cX10_getsUp 20 = .ok (.aload_n 0, 1) := by decide +kernel
theorem dX10_getsUp_21 : decode cX10_getsUp 21 = .ok (.getfield 59, 3) := by decide +kernel
theorem dX10_getsUp_24 : decode cX10_getsUp 24 = .ok (.iload_n 2, 1) := by decide +kernel
theorem dX10_getsUp_25 : decode cX10_getsUp 25 = .ok (.bipush (-9), 2) := by decide +kernel
theorem dX10_getsUp_27 : decode cX10_getsUp 27 = .ok (.iastore, 1) := by decide +kernel
theorem dX10_getsUp_28 : decode cX10_getsUp 28 = .ok (.iinc 2 1, 3) := by decide +kernel
theorem dX10_getsUp_31 : decode cX10_getsUp 31 = .ok (.goto (-29), 3) := by decide +kernel
theorem dX10_getsUp_34 : decode cX10_getsUp 34 = .ok (.return_, 1) := by decide +kernel
theorem dX10_isInSun_0 : decode cX10_isInSun 0 = .ok (.iconst 0, 1) := by decide +kernel
theorem dX10_isInSun_1 : decode cX10_isInSun 1 = .ok (.istore_n 2, 1) := by decide +kernel
theorem dX10_isInSun_2 : decode cX10_isInSun 2 = .ok (.iconst 0, 1) := by decide +kernel
theorem dX10_isInSun_3 : decode cX10_isInSun 3 = .ok (.istore_n 3, 1) := by decide +kernel
theorem dX10_isInSun_4 : decode cX10_isInSun 4 = .ok (.iload_n 3, 1) := by decide +kernel
theorem dX10_isInSun_5 : decode cX10_isInSun 5 = .ok (.aload_n 0, 1) := by decide +kernel
theorem dX10_isInSun_6 : decode cX10_isInSun 6 = .ok (.getfield 162, 3) := by decide +kernel
theorem dX10_isInSun_9 : decode cX10_isInSun 9 = .ok (.if_icmp .ge 38, 3) := by decide +kernel
theorem dX10_isInSun_12 : decode cX10_isInSun 12 = .ok (.iload_n 2, 1) := by decide +kernel
theorem dX10_isInSun_13 : decode cX10_isInSun 13 = .ok (.ifCond .ne 22, 3) := by decide +kernel
theorem dX10_isInSun_16 : decode cX10_isInSun 16 = .ok (.aload_n 0, 1) := by decide +kernel
theorem dX10_isInSun_17 : decode cX10_isInSun 17 = .ok (.getfield 59, 3) := by decide +kernel
theorem dX10_isInSun_20 : decode cX10_isInSun 20 = .ok (.iload_n 3, 1) := by decide +kernel
theorem dX10_isInSun_21 : decode cX10_isInSun 21 = .ok (.iaload, 1) := by decide +kernel
theorem dX10_isInSun_22 : decode cX10_isInSun 22 = .ok (.iload_n 1, 1) := by decide +kernel
theorem dX10_isInSun_23 : decode cX10_isInSun 23 = .ok (.if_icmp .ne 16, 3) := by decide +kernel
theorem dX10_isInSun_26 : decode cX10_isInSun 26 = .ok (.aload_n 0, 1) := by decide +kernel
theorem dX10_isInSun_27 : decode cX10_isInSun 27 = .ok (.getfield 53, 3) := by decide +kernel
theorem dX10_isInSun_30 : decode cX10_isInSun 30 = .ok (.iload_n 3, 1) := by decide +kernel
theorem dX10_isInSun_31 : decode cX10_isInSun 31 = .ok (.iaload, 1) := by decide +kernel
theorem dX10_isInSun_32 : decode cX10_isInSun 32 = .ok (.ifCond .ne 7, 3) := by decide +kernel
theorem dX10_isInSun_35 : decode cX10_isInSun 35 = .ok (.iconst 1, 1) := by decide +kernel
theorem dX10_isInSun_36 : decode cX10_isInSun 36 = .ok (.goto 4, 3) := by decide +kernel
theorem dX10_isInSun_39 : decode cX10_isInSun 39 = .ok (.iconst 0, 1) := by decide +kernel
theorem dX10_isInSun_40 : decode cX10_isInSun 40 = .ok (.istore_n 2, 1) := by decide +kernel
theorem dX10_isInSun_41 : decode cX10_isInSun 41 = .ok (.iinc 3 1, 3) := by decide +kernel
theorem dX10_isInSun_44 : decode cX10_isInSun 44 = .ok (.goto (-40), 3) := by decide +kernel
theorem dX10_isInSun_47 : decode cX10_isInSun 47 = .ok (.iload_n 2, 1) := by decide +kernel
theorem dX10_isInSun_48 : decode cX10_isInSun 48 = .ok (.ireturn, 1) := by decide +kernel
theorem dX10_rainsOn_0 : decode cX10_rainsOn 0 = .ok (.iconst 0, 1) := by decide +kernel
theorem dX10_rainsOn_1 : decode cX10_rainsOn 1 = .ok (.istore_n 2, 1) := by decide +kernel
theorem dX10_rainsOn_2 : decode cX10_rainsOn 2 = .ok (.iload_n 2, 1) := by decide +kernel
theorem dX10_rainsOn_3 : decode cX10_rainsOn 3 = .ok (.aload_n 0, 1) := by decide +kernel
theorem dX10_rainsOn_4 : decode cX10_rainsOn 4 = .ok (.getfield 135, 3) := by decide +kernel
theorem dX10_rainsOn_7 : decode cX10_rainsOn 7 = .ok (.if_icmp .ge 38, 3) := by decide +kernel
theorem dX10_rainsOn_10 : decode cX10_rainsOn 10 = .ok (.aload_n 0, 1) := by decide +kernel
theorem dX10_rainsOn_11 : decode cX10_rainsOn 11 = .ok (.getfield 90, 3) := by decide +kernel
theorem dX10_rainsOn_14 : decode cX10_rainsOn 14 = .ok (.iload_n 2, 1) := by decide +kernel
theorem dX10_rainsOn_15 : decode cX10_rainsOn 15 = .ok (.aload_n 0, 1) := by decide +kernel
theorem dX10_rainsOn_16 : decode cX10_rainsOn 16 = .ok (.getfield 66, 3) := by decide +kernel
theorem dX10_rainsOn_19 : decode cX10_rainsOn 19 = .ok (.iload_n 2, 1) := by decide +kernel
theorem dX10_rainsOn_20 : decode cX10_rainsOn 20 = .ok (.iaload, 1) := by decide +kernel
theorem dX10_rainsOn_21 : decode cX10_rainsOn 21 = .ok (.iconst 1, 1) := by decide +kernel
theorem dX10_rainsOn_22 : decode cX10_rainsOn 22 = .ok (.if_icmp .ne 15, 3) := by decide +kernel
theorem dX10_rainsOn_25 : decode cX10_rainsOn 25 = .ok (.aload_n 0, 1) := by decide +kernel
theorem dX10_rainsOn_26 : decode cX10_rainsOn 26 = .ok (.iload_n 2, 1) := by decide +kernel
theorem dX10_rainsOn_27 : decode cX10_rainsOn 27 = .ok (.invokevirtual 208, 3) := by decide +kernel
theorem dX10_rainsOn_30 : decode cX10_rainsOn 30 = .ok (.ifCond .eq 7, 3) := by decide +kernel
theorem dX10_rainsOn_33 : decode cX10_rainsOn 33 = .ok (.iconst 1, 1) := by decide +kernel
theorem dX10_rainsOn_34 : decode cX10_rainsOn 34 = .ok (.goto 4, 3) := by decide +kernel
theorem dX10_rainsOn_37 : decode cX10_rainsOn 37 = .ok (.iconst 0, 1) := by decide +kernel
theorem dX10_rainsOn_38 : decode cX10_rainsOn 38 = .ok (.bastore, 1) := by decide +kernel
theorem dX10_rainsOn_39 : decode cX10_rainsOn 39 = .ok (.iinc 2 1, 3) := by decide +kernel
theorem dX10_rainsOn_42 : decode cX10_rainsOn 42 = .ok (.goto (-40), 3) := by decide +kernel
theorem dX10_rainsOn_45 : decode cX10_rainsOn 45 = .ok (.iconst 0, 1) := by decide +kernel
theorem dX10_rainsOn_46 : decode cX10_rainsOn 46 = .ok (.istore_n 2, 1) := by decide +kernel
theorem dX10_rainsOn_47 : decode cX10_rainsOn 47 = .ok (.iload_n 2, 1) := by decide +kernel
theorem dX10_rainsOn_48 : decode cX10_rainsOn 48 = .ok (.aload_n 0, 1) := by decide +kernel
theorem dX10_rainsOn_49 : decode cX10_rainsOn 49 = .ok (.getfield 135, 3) := by decide +kernel
theorem dX10_rainsOn_52 : decode cX10_rainsOn 52 = .ok (.if_icmp .ge 23, 3) := by decide +kernel
theorem dX10_rainsOn_55 : decode cX10_rainsOn 55 = .ok (.aload_n 0, 1) := by decide +kernel
theorem dX10_rainsOn_56 : decode cX10_rainsOn 56 = .ok (.getfield 90, 3) := by decide +kernel
theorem dX10_rainsOn_59 : decode cX10_rainsOn 59 = .ok (.iload_n 2, 1) := by decide +kernel
theorem dX10_rainsOn_60 : decode cX10_rainsOn 60 = .ok (.baload, 1) := by decide +kernel
theorem dX10_rainsOn_61 : decode cX10_rainsOn 61 = .ok (.ifCond .eq 8, 3) := by decide +kernel
theorem dX10_rainsOn_64 : decode cX10_rainsOn 64 = .ok (.aload_n 0, 1) := by decide +kernel
theorem dX10_rainsOn_65 : decode cX10_rainsOn 65 = .ok (.iload_n 2, 1) := by decide +kernel
theorem dX10_rainsOn_66 : decode cX10_rainsOn 66 = .ok (.invokevirtual 188, 3) := by decide +kernel
theorem dX10_rainsOn_69 : decode cX10_rainsOn 69 = .ok (.iinc 2 1, 3) := by decide +kernel
theorem dX10_rainsOn_72 : decode cX10_rainsOn 72 = .ok (.goto (-25), 3) := by decide +kernel
theorem dX10_rainsOn_75 : decode cX10_rainsOn 75 = .ok (.iconst 0, 1) := by decide +kernel
theorem dX10_rainsOn_76 : decode cX10_rainsOn 76 = .ok (.istore_n 2, 1) := by decide +kernel
theorem dX10_rainsOn_77 : decode cX10_rainsOn 77 = .ok (.iload_n 2, 1) := by decide +kernel
theorem dX10_rainsOn_78 : decode cX10_rainsOn 78 = .ok (.aload_n 0, 1) := by decide +kernel
theorem dX10_rainsOn_79 : decode cX10_rainsOn 79 = .ok (.getfield 162, 3) := by decide +kernel
theorem dX10_rainsOn_82 : decode cX10_rainsOn 82 = .ok (.if_icmp .ge 29, 3) := by decide +kernel
theorem dX10_rainsOn_85 : decode cX10_rainsOn 85 = .ok (.aload_n 0, 1) := by decide +kernel
theorem dX10_rainsOn_86 : decode cX10_rainsOn 86 = .ok (.getfield 62, 3) := by decide +kernel
theorem dX10_rainsOn_89 : decode cX10_rainsOn 89 = .ok (.iload_n 2, 1) := by decide +kernel
theorem dX10_rainsOn_90 : decode cX10_rainsOn 90 = .ok (.aload_n 0, 1) := by decide +kernel
theorem dX10_rainsOn_91 : decode cX10_rainsOn 91 = .ok (.getfield 53, 3) := by decide +kernel
theorem dX10_rainsOn_94 : decode cX10_rainsOn 94 = .ok (.iload_n 2, 1) := by decide +kernel
theorem dX10_rainsOn_95 : decode cX10_rainsOn 95 = .ok (.iaload, 1) := by decide +kernel
theorem dX10_rainsOn_96 : decode cX10_rainsOn 96 = .ok (.ifCond .ne 7, 3) := by decide +kernel
theorem dX10_rainsOn_99 : decode cX10_rainsOn 99 = .ok (.iconst 1, 1) := by decide +kernel
theorem dX10_rainsOn_100 : decode cX10_rainsOn 100 = .ok (.goto 4, 3) := by decide +kernel
theorem dX10_rainsOn_103 : decode cX10_rainsOn 103 = .ok (.iconst 0, 1) := by decide +kernel
theorem dX10_rainsOn_104 : decode cX10_rainsOn 104 = .ok (.bastore, 1) := by decide +kernel
theorem dX10_rainsOn_105 : decode cX10_rainsOn 105 = .ok (.iinc 2 1, 3) := by decide +kernel
theorem dX10_rainsOn_108 : decode cX10_rainsOn 108 = .ok (.goto (-31), 3) := by decide +kernel
theorem dX10_rainsOn_111 : decode cX10_rainsOn 111 = .ok (.iconst 0, 1) := by decide +kernel
theorem dX10_rainsOn_112 : decode cX10_rainsOn 112 = .ok (.istore_n 2, 1) := by decide +kernel
theorem dX10_rainsOn_113 : decode cX10_rainsOn 113 = .ok (.iload_n 2, 1) := by decide +kernel
theorem dX10_rainsOn_114 : decode cX10_rainsOn 114 = .ok (.aload_n 0, 1) := by decide +kernel
theorem dX10_rainsOn_115 : decode cX10_rainsOn 115 = .ok (.getfield 135, 3) := by decide +kernel
theorem dX10_rainsOn_118 : decode cX10_rainsOn 118 = .ok (.if_icmp .ge 39, 3) := by decide +kernel
theorem dX10_rainsOn_121 : decode cX10_rainsOn 121 = .ok (.aload_n 0, 1) := by decide +kernel
theorem dX10_rainsOn_122 : decode cX10_rainsOn 122 = .ok (.getfield 90, 3) := by decide +kernel
theorem dX10_rainsOn_125 : decode cX10_rainsOn 125 = .ok (.iload_n 2, 1) := by decide +kernel
theorem dX10_rainsOn_126 : decode cX10_rainsOn 126 = .ok (.baload, 1) := by decide +kernel
theorem dX10_rainsOn_127 : decode cX10_rainsOn 127 = .ok (.ifCond .eq 24, 3) := by decide +kernel
theorem dX10_rainsOn_130 : decode cX10_rainsOn 130 = .ok (.aload_n 0, 1) := by decide +kernel
theorem dX10_rainsOn_131 : decode cX10_rainsOn 131 = .ok (.iload_n 2, 1) := by decide +kernel
theorem dX10_rainsOn_132 : decode cX10_rainsOn 132 = .ok (.invokevirtual 211, 3) := by decide +kernel
theorem dX10_rainsOn_135 : decode cX10_rainsOn 135 = .ok (.ifCond .ne 16, 3) := by decide +kernel
theorem dX10_rainsOn_138 : decode cX10_rainsOn 138 = .ok (.aload_n 0, 1) := by decide +kernel
theorem dX10_rainsOn_139 : decode cX10_rainsOn 139 = .ok (.iload_n 2, 1) := by decide +kernel
theorem dX10_rainsOn_140 : decode cX10_rainsOn 140 = .ok (.iload_n 1, 1) := by decide +kernel
theorem dX10_rainsOn_141 : decode cX10_rainsOn 141 = .ok (.invokevirtual 191, 3) := by decide +kernel
theorem dX10_rainsOn_144 : decode cX10_rainsOn 144 = .ok (.aload_n 0, 1) := by decide +kernel
theorem dX10_rainsOn_145 : decode cX10_rainsOn 145 = .ok (.getfield 75, 3) := by decide +kernel
theorem dX10_rainsOn_148 : decode cX10_rainsOn 148 = .ok (.iload_n 2, 1) := by decide +kernel
theorem dX10_rainsOn_149 : decode cX10_rainsOn 149 = .ok (.iload_n 1, 1) := by decide +kernel
theorem dX10_rainsOn_150 : decode cX10_rainsOn 150 = .ok (.iastore, 1) := by decide +kernel
theorem dX10_rainsOn_151 : decode cX10_rainsOn 151 = .ok (.iinc 2 1, 3) := by decide +kernel
theorem dX10_rainsOn_154 : decode cX10_rainsOn 154 = .ok (.goto (-41), 3) := by decide +kernel
theorem dX10_rainsOn_157 : decode cX10_rainsOn 157 = .ok (.return_, 1) := by decide +kernel
theorem dX10_tryWaiting_0 : decode cX10_tryWaiting 0 = .ok (.iconst 0, 1) := by decide +kernel
theorem dX10_tryWaiting_1 : decode cX10_tryWaiting 1 = .ok (.istore_n 2, 1) := by decide +kernel
theorem dX10_tryWaiting_2 : decode cX10_tryWaiting 2 = .ok (.iload_n 2, 1) := by decide +kernel
theorem dX10_tryWaiting_3 : decode cX10_tryWaiting 3 = .ok (.iload_n 1, 1) := by decide +kernel
theorem dX10_tryWaiting_4 : decode cX10_tryWaiting 4 = .ok (.if_icmp .gt 57, 3) := by decide +kernel
theorem dX10_tryWaiting_7 : decode cX10_tryWaiting 7 = .ok (.iload_n 2, 1) := by decide +kernel
theorem dX10_tryWaiting_8 : decode cX10_tryWaiting 8 = .ok (.bipush 100, 2) := by decide +kernel
theorem dX10_tryWaiting_10 : decode cX10_tryWaiting 10 = .ok (.if_icmp .ge 51, 3) := by decide +kernel
theorem dX10_tryWaiting_13 : decode cX10_tryWaiting 13 = .ok (.iconst 0, 1) := by decide +kernel
theorem dX10_tryWaiting_14 : decode cX10_tryWaiting 14 = .ok (.istore_n 3, 1) := by decide +kernel
theorem dX10_tryWaiting_15 : decode cX10_tryWaiting 15 = .ok (.iload_n 3, 1) := by decide +kernel
theorem dX10_tryWaiting_16 : decode cX10_tryWaiting 16 = .ok (.aload_n 0, 1) := by decide +kernel
theorem dX10_tryWaiting_17 : decode cX10_tryWaiting 17 = .ok (.getfield 135, 3) := by decide +kernel
theorem dX10_tryWaiting_20 : decode cX10_tryWaiting 20 = .ok (.if_icmp .ge 35, 3) := by decide +kernel
theorem dX10_tryWaiting_23 : decode cX10_tryWaiting 23 = .ok (.aload_n 0, 1) := by decide +kernel
theorem dX10_tryWaiting_24 : decode cX10_tryWaiting 24 = .ok (.getfield 66, 3) := by decide +kernel
theorem dX10_tryWaiting_27 : decode cX10_tryWaiting 27 = .ok (.iload_n 3, 1) := by decide +kernel
theorem dX10_tryWaiting_28 : decode cX10_tryWaiting 28 = .ok (.iaload, 1) := by decide +kernel
theorem dX10_tryWaiting_29 : decode cX10_tryWaiting 29 = .ok (.iconst 2, 1) := by decide +kernel
theorem dX10_tryWaiting_30 : decode cX10_tryWaiting 30 = .ok (.if_icmp .ne 19, 3) := by decide +kernel
theorem dX10_tryWaiting_33 : decode cX10_tryWaiting 33 = .ok (.aload_n 0, 1) := by decide +kernel
theorem dX10_tryWaiting_34 : decode cX10_tryWaiting 34 = .ok (.getfield 41, 3) := by decide +kernel
theorem dX10_tryWaiting_37 : decode cX10_tryWaiting 37 = .ok (.iload_n 3, 1) := by decide +kernel
theorem dX10_tryWaiting_38 : decode cX10_tryWaiting 38 = .ok (.iaload, 1) := by decide +kernel
theorem dX10_tryWaiting_39 : decode cX10_tryWaiting 39 = .ok (.iload_n 2, 1) := by decide +kernel
theorem dX10_tryWaiting_40 : decode cX10_tryWaiting 40 = .ok (.if_icmp .ne 9, 3) := by decide +kernel
theorem dX10_tryWaiting_43 : decode cX10_tryWaiting 43 = .ok (.aload_n 0, 1) := by decide +kernel
theorem dX10_tryWaiting_44 : decode cX10_tryWaiting 44 = .ok (.iload_n 3, 1) := by decide +kernel
theorem dX10_tryWaiting_45 : decode cX10_tryWaiting 45 = .ok (.iload_n 1, 1) := by decide +kernel
theorem dX10_tryWaiting_46 : decode cX10_tryWaiting 46 = .ok (.invokevirtual 214, 3) := by decide +kernel
theorem dX10_tryWaiting_49 : decode cX10_tryWaiting 49 = .ok (.iinc 3 1, 3) := by decide +kernel
theorem dX10_tryWaiting_52 : decode cX10_tryWaiting 52 = .ok (.goto (-37), 3) := by decide +kernel
theorem dX10_tryWaiting_55 : decode cX10_tryWaiting 55 = .ok (.iinc 2 1, 3) := by decide +kernel
theorem dX10_tryWaiting_58 : decode cX10_tryWaiting 58 = .ok (.goto (-56), 3) := by decide +kernel
theorem dX10_tryWaiting_61 : decode cX10_tryWaiting 61 = .ok (.return_, 1) := by decide +kernel
theorem dX10_triesAgain_0 : decode cX10_triesAgain 0 = .ok (.aload_n 0, 1) := by decide +kernel
theorem dX10_triesAgain_1 : decode cX10_triesAgain 1 = .ok (.iload_n 1, 1) := by decide +kernel
theorem dX10_triesAgain_2 : decode cX10_triesAgain 2 = .ok (.iload_n 2, 1) := by decide +kernel
theorem dX10_triesAgain_3 : decode cX10_triesAgain 3 = .ok (.invokevirtual 217, 3) := by decide +kernel
theorem dX10_triesAgain_6 : decode cX10_triesAgain 6 = .ok (.ifCond .eq 20, 3) := by decide +kernel
theorem dX10_triesAgain_9 : decode cX10_triesAgain 9 = .ok (.aload_n 0, 1) := by decide +kernel
theorem dX10_triesAgain_10 : decode cX10_triesAgain 10 = .ok (.getfield 81, 3) := by decide +kernel
theorem dX10_triesAgain_13 : decode cX10_triesAgain 13 = .ok (.iload_n 1, 1) := by decide +kernel
theorem dX10_triesAgain_14 : decode cX10_triesAgain 14 = .ok (.iload_n 2, 1) := by decide +kernel
theorem dX10_triesAgain_15 : decode cX10_triesAgain 15 = .ok (.aload_n 0, 1) := by decide +kernel
theorem dX10_triesAgain_16 : decode cX10_triesAgain 16 = .ok (.getfield 41, 3) := by decide +kernel
theorem dX10_triesAgain_19 : decode cX10_triesAgain 19 = .ok (.iload_n 1, 1) := by decide +kernel
theorem dX10_triesAgain_20 : decode cX10_triesAgain 20 = .ok (.iaload, 1) := by decide +kernel
theorem dX10_triesAgain_21 : decode cX10_triesAgain 21 = .ok (.isub, 1) := by decide +kernel
theorem dX10_triesAgain_22 : decode cX10_triesAgain 22 = .ok (.iastore, 1) := by decide +kernel
theorem dX10_triesAgain_23 : decode cX10_triesAgain 23 = .ok (.goto 39, 3) := by decide +kernel
theorem dX10_triesAgain_26 : decode cX10_triesAgain 26 = .ok (.iload_n 2, 1) := by decide +kernel
theorem dX10_triesAgain_27 : decode cX10_triesAgain 27 = .ok (.aload_n 0, 1) := by decide +kernel
theorem dX10_triesAgain_28 : decode cX10_triesAgain 28 = .ok (.getfield 41, 3) := by decide +kernel
theorem dX10_triesAgain_31 : decode cX10_triesAgain 31 = .ok (.iload_n 1, 1) := by decide +kernel
theorem dX10_triesAgain_32 : decode cX10_triesAgain 32 = .ok (.iaload, 1) := by decide +kernel
theorem dX10_triesAgain_33 : decode cX10_triesAgain 33 = .ok (.isub, 1) := by decide +kernel
theorem dX10_triesAgain_34 : decode cX10_triesAgain 34 = .ok (.aload_n 0, 1) := by decide +kernel
theorem dX10_triesAgain_35 : decode cX10_triesAgain 35 = .ok (.getfield 168, 3) := by decide +kernel
theorem dX10_triesAgain_38 : decode cX10_triesAgain 38 = .ok (.if_icmp .lt 24, 3) := by decide +kernel
theorem dX10_triesAgain_41 : decode cX10_triesAgain 41 = .ok (.aload_n 0, 1) := by decide +kernel
theorem dX10_triesAgain_42 : decode cX10_triesAgain 42 = .ok (.getfield 66, 3) := by decide +kernel
theorem dX10_triesAgain_45 : decode cX10_triesAgain 45 = .ok (.iload_n 1, 1) := by decide +kernel
theorem dX10_triesAgain_46 : decode cX10_triesAgain 46 = .ok (.iconst 3, 1) := by decide +kernel
theorem dX10_triesAgain_47 : decode cX10_triesAgain 47 = .ok (.iastore, 1) := by decide +kernel
theorem dX10_triesAgain_48 : decode cX10_triesAgain 48 = .ok (.aload_n 0, 1) := by decide +kernel
theorem dX10_triesAgain_49 : decode cX10_triesAgain 49 = .ok (.getfield 81, 3) := by decide +kernel
theorem dX10_triesAgain_52 : decode cX10_triesAgain 52 = .ok (.iload_n 1, 1) := by decide +kernel
theorem dX10_triesAgain_53 : decode cX10_triesAgain 53 = .ok (.iload_n 2, 1) := by decide +kernel
theorem dX10_triesAgain_54 : decode cX10_triesAgain 54 = .ok (.aload_n 0, 1) := by decide +kernel
theorem dX10_triesAgain_55 : decode cX10_triesAgain 55 = .ok (.getfield 41, 3) := by decide +kernel
theorem dX10_triesAgain_58 : decode cX10_triesAgain 58 = .ok (.iload_n 1, 1) := by decide +kernel
theorem dX10_triesAgain_59 : decode cX10_triesAgain 59 = .ok (.iaload, 1) := by decide +kernel
theorem dX10_triesAgain_60 : decode cX10_triesAgain 60 = .ok (.isub, 1) := by decide +kernel
theorem dX10_triesAgain_61 : decode cX10_triesAgain 61 = .ok (.iastore, 1) := by decide +kernel
theorem dX10_triesAgain_62 : decode cX10_triesAgain 62 = .ok (.return_, 1) := by decide +kernel
theorem dX10_comesIn_0 : decode cX10_comesIn 0 = .ok (.aload_n 0, 1) := by decide +kernel
theorem dX10_comesIn_1 : decode cX10_comesIn 1 = .ok (.invokevirtual 181, 3) := by decide +kernel
theorem dX10_comesIn_4 : decode cX10_comesIn 4 = .ok (.aload_n 0, 1) := by decide +kernel
theorem dX10_comesIn_5 : decode cX10_comesIn 5 = .ok (.getfield 50, 3) := by decide +kernel
theorem dX10_comesIn_8 : decode cX10_comesIn 8 = .ok (.iload_n 1, 1) := by decide +kernel
theorem dX10_comesIn_9 : decode cX10_comesIn 9 = .ok (.iaload, 1) := by decide +kernel
theorem dX10_comesIn_10 : decode cX10_comesIn 10 = .ok (.if_icmp .ge 13, 3) := by decide +kernel
theorem dX10_comesIn_13 : decode cX10_comesIn 13 = .ok (.aload_n 0, 1) := by decide +kernel
theorem dX10_comesIn_14 : decode cX10_comesIn 14 = .ok (.getfield 66, 3) := by decide +kernel
theorem dX10_comesIn_17 : decode cX10_comesIn 17 = .ok (.iload_n 1, 1) := by decide +kernel
theorem dX10_comesIn_18 : decode cX10_comesIn 18 = .ok (.iconst 4, 1) := by decide +kernel
theorem dX10_comesIn_19 : decode cX10_comesIn 19 = .ok (.iastore, 1) := by decide +kernel
theorem dX10_comesIn_20 : decode cX10_comesIn 20 = .ok (.goto 30, 3) := by decide +kernel
theorem dX10_comesIn_23 : decode cX10_comesIn 23 = .ok (.aload_n 0, 1) := by decide +kernel
theorem dX10_comesIn_24 : decode cX10_comesIn 24 = .ok (.iload_n 1, 1) := by decide +kernel
theorem dX10_comesIn_25 : decode cX10_comesIn 25 = .ok (.iload_n 2, 1) := by decide +kernel
theorem dX10_comesIn_26 : decode cX10_comesIn 26 = .ok (.invokevirtual 217, 3) := by decide +kernel
theorem dX10_comesIn_29 : decode cX10_comesIn 29 = .ok (.ifCond .ne 21, 3) := by decide +kernel
theorem dX10_comesIn_32 : decode cX10_comesIn 32 = .ok (.aload_n 0, 1) := by decide +kernel
theorem dX10_comesIn_33 : decode cX10_comesIn 33 = .ok (.getfield 66, 3) := by decide +kernel
theorem dX10_comesIn_36 : decode cX10_comesIn 36 = .ok (.iload_n 1, 1) := by decide +kernel
theorem dX10_comesIn_37 : decode cX10_comesIn 37 = .ok (.aload_n 0, 1) := by decide +kernel
theorem dX10_comesIn_38 : decode cX10_comesIn 38 = .ok (.getfield 168, 3) := by decide +kernel
theorem dX10_comesIn_41 : decode cX10_comesIn 41 = .ok (.ifCond .le 7, 3) := by decide +kernel
theorem dX10_comesIn_44 : decode cX10_comesIn 44 = .ok (.iconst 2, 1) := by decide +kernel
theorem dX10_comesIn_45 : decode cX10_comesIn 45 = .ok (.goto 4, 3) := by decide +kernel
theorem dX10_comesIn_48 : decode cX10_comesIn 48 = .ok (.iconst 3, 1) := by decide +kernel
theorem dX10_comesIn_49 : decode cX10_comesIn 49 = .ok (.iastore, 1) := by decide +kernel
theorem dX10_comesIn_50 : decode cX10_comesIn 50 = .ok (.return_, 1) := by decide +kernel
theorem dX10_sitsDown_0 : decode cX10_sitsDown 0 = .ok (.aload_n 0, 1) := by decide +kernel
theorem dX10_sitsDown_1 : decode cX10_sitsDown 1 = .ok (.getfield 35, 3) := by decide +kernel
theorem dX10_sitsDown_4 : decode cX10_sitsDown 4 = .ok (.iload_n 1, 1) := by decide +kernel
theorem dX10_sitsDown_5 : decode cX10_sitsDown 5 = .ok (.iaload, 1) := by decide +kernel
theorem dX10_sitsDown_6 : decode cX10_sitsDown 6 = .ok (.iconst 2, 1) := by decide +kernel
theorem dX10_sitsDown_7 : decode cX10_sitsDown 7 = .ok (.if_icmp .ne 22, 3) := by decide +kernel
theorem dX10_sitsDown_10 : decode cX10_sitsDown 10 = .ok (.aload_n 0, 1) := by decide +kernel
theorem dX10_sitsDown_11 : decode cX10_sitsDown 11 = .ok (.iload_n 1, 1) := by decide +kernel
theorem dX10_sitsDown_12 : decode cX10_sitsDown 12 = .ok (.invokevirtual 185, 3) := by decide +kernel
theorem dX10_sitsDown_15 : decode cX10_sitsDown 15 = .ok (.ifCond .le 14, 3) := by decide +kernel
theorem dX10_sitsDown_18 : decode cX10_sitsDown 18 = .ok (.aload_n 0, 1) := by decide +kernel
theorem dX10_sitsDown_19 : decode cX10_sitsDown 19 = .ok (.iload_n 1, 1) := by decide +kernel
theorem dX10_sitsDown_20 : decode cX10_sitsDown 20 = .ok (.invokevirtual 159, 3) := by decide +kernel
theorem dX10_sitsDown_23 : decode cX10_sitsDown 23 = .ok (.bipush 9, 2) := by decide +kernel
theorem dX10_sitsDown_25 : decode cX10_sitsDown 25 = .ok (.idiv, 1) := by decide +kernel
theorem dX10_sitsDown_26 : decode cX10_sitsDown 26 = .ok (.goto 4, 3) := by decide +kernel
theorem dX10_sitsDown_29 : decode cX10_sitsDown 29 = .ok (.iconst 0, 1) := by decide +kernel
theorem dX10_sitsDown_30 : decode cX10_sitsDown 30 = .ok (.istore_n 3, 1) := by decide +kernel
theorem dX10_sitsDown_31 : decode cX10_sitsDown 31 = .ok (.aload_n 0, 1) := by decide +kernel
theorem dX10_sitsDown_32 : decode cX10_sitsDown 32 = .ok (.iload_n 1, 1) := by decide +kernel
theorem dX10_sitsDown_33 : decode cX10_sitsDown 33 = .ok (.invokevirtual 211, 3) := by decide +kernel
theorem dX10_sitsDown_36 : decode cX10_sitsDown 36 = .ok (.ifCond .ne 5, 3) := by decide +kernel
theorem dX10_sitsDown_39 : decode cX10_sitsDown 39 = .ok (.iconst 0, 1) := by decide +kernel
theorem dX10_sitsDown_40 : decode cX10_sitsDown 40 = .ok (.ireturn, 1) := by decide +kernel
theorem dX10_sitsDown_41 : decode cX10_sitsDown 41 = .ok (.aload_n 0, 1) := by decide +kernel
theorem dX10_sitsDown_42 : decode cX10_sitsDown 42 = .ok (.getfield 66, 3) := by decide +kernel
theorem dX10_sitsDown_45 : decode cX10_sitsDown 45 = .ok (.iload_n 1, 1) := by decide +kernel
theorem dX10_sitsDown_46 : decode cX10_sitsDown 46 = .ok (.iconst 1, 1) := by decide +kernel
theorem dX10_sitsDown_47 : decode cX10_sitsDown 47 = .ok (.iastore, 1) := by decide +kernel
theorem dX10_sitsDown_48 : decode cX10_sitsDown 48 = .ok (.aload_n 0, 1) := by decide +kernel
theorem dX10_sitsDown_49 : decode cX10_sitsDown 49 = .ok (.getfield 72, 3) := by decide +kernel
theorem dX10_sitsDown_52 : decode cX10_sitsDown 52 = .ok (.iload_n 1, 1) := by decide +kernel
theorem dX10_sitsDown_53 : decode cX10_sitsDown 53 = .ok (.iload_n 2, 1) := by decide +kernel
theorem dX10_sitsDown_54 : decode cX10_sitsDown 54 = .ok (.iastore, 1) := by decide +kernel
theorem dX10_sitsDown_55 : decode cX10_sitsDown 55 = .ok (.aload_n 0, 1) := by decide +kernel
theorem dX10_sitsDown_56 : decode cX10_sitsDown 56 = .ok (.getfield 75, 3) := by decide +kernel
theorem dX10_sitsDown_59 : decode cX10_sitsDown 59 = .ok (.iload_n 1, 1) := by decide +kernel
theorem dX10_sitsDown_60 : decode cX10_sitsDown 60 = .ok (.iload_n 2, 1) := by decide +kernel
theorem dX10_sitsDown_61 : decode cX10_sitsDown 61 = .ok (.aload_n 0, 1) := by decide +kernel
theorem dX10_sitsDown_62 : decode cX10_sitsDown 62 = .ok (.iload_n 1, 1) := by decide +kernel
theorem dX10_sitsDown_63 : decode cX10_sitsDown 63 = .ok (.invokevirtual 159, 3) := by decide +kernel
theorem dX10_sitsDown_66 : decode cX10_sitsDown 66 = .ok (.iadd, 1) := by decide +kernel
theorem dX10_sitsDown_67 : decode cX10_sitsDown 67 = .ok (.iload_n 3, 1) := by decide +kernel
theorem dX10_sitsDown_68 : decode cX10_sitsDown 68 = .ok (.iadd, 1) := by decide +kernel
theorem dX10_sitsDown_69 : decode cX10_sitsDown 69 = .ok (.iastore, 1) := by decide +kernel
theorem dX10_sitsDown_70 : decode cX10_sitsDown 70 = .ok (.aload_n 0, 1) := by decide +kernel
theorem dX10_sitsDown_71 : decode cX10_sitsDown 71 = .ok (.getfield 162, 3) := by decide +kernel
theorem dX10_sitsDown_74 : decode cX10_sitsDown 74 = .ok (.iconst 1, 1) := by decide +kernel
theorem dX10_sitsDown_75 : decode cX10_sitsDown 75 = .ok (.isub, 1) := by decide +kernel
theorem dX10_sitsDown_76 : decode cX10_sitsDown 76 = .ok (.istore 4, 2) := by decide +kernel
theorem dX10_sitsDown_78 : decode cX10_sitsDown 78 = .ok (.iload 4, 2) := by decide +kernel
theorem dX10_sitsDown_80 : decode cX10_sitsDown 80 = .ok (.ifCond .lt 37, 3) := by decide +kernel
theorem dX10_sitsDown_83 : decode cX10_sitsDown 83 = .ok (.aload_n 0, 1) := by decide +kernel
theorem dX10_sitsDown_84 : decode cX10_sitsDown 84 = .ok (.getfield 69, 3) := by decide +kernel
theorem dX10_sitsDown_87 : decode cX10_sitsDown 87 = .ok (.iload_n 1, 1) := by decide +kernel
theorem dX10_sitsDown_88 : decode cX10_sitsDown 88 = .ok (.aload_n 0, 1) := by decide +kernel
theorem dX10_sitsDown_89 : decode cX10_sitsDown 89 = .ok (.getfield 59, 3) := by decide +kernel
theorem dX10_sitsDown_92 : decode cX10_sitsDown 92 = .ok (.iload 4, 2) := by decide +kernel
theorem dX10_sitsDown_94 : decode cX10_sitsDown 94 = .ok (.iaload, 1) := by decide +kernel
theorem dX10_sitsDown_95 : decode cX10_sitsDown 95 = .ok (.iload_n 1, 1) := by decide +kernel
theorem dX10_sitsDown_96 : decode cX10_sitsDown 96 = .ok (.if_icmp .ne 8, 3) := by decide +kernel
theorem dX10_sitsDown_99 : decode cX10_sitsDown 99 = .ok (.iload 4, 2) := by decide +kernel
theorem dX10_sitsDown_101 : decode cX10_sitsDown 101 = .ok (.goto 9, 3) := by decide +kernel
theorem dX10_sitsDown_104 : decode cX10_sitsDown 104 = .ok (.aload_n 0, 1) := by decide +kernel
theorem dX10_sitsDown_105 : decode cX10_sitsDown 105 = .ok (.getfield 69, 3) := by decide +kernel
theorem dX10_sitsDown_108 : decode cX10_sitsDown 108 = .ok (.iload_n 1, 1) := by decide +kernel
theorem dX10_sitsDown_109 : decode cX10_sitsDown 109 = .ok (.iaload, 1) := by decide +kernel
theorem dX10_sitsDown_110 : decode cX10_sitsDown 110 = .ok (.iastore, 1) := by decide +kernel
theorem dX10_sitsDown_111 : decode cX10_sitsDown 111 = .ok (.iinc 4 (-1), 3) := by decide +kernel
theorem dX10_sitsDown_114 : decode cX10_sitsDown 114 = .ok (.goto (-36), 3) := by decide +kernel
theorem dX10_sitsDown_117 : decode cX10_sitsDown 117 = .ok (.iconst 1, 1) := by decide +kernel
theorem dX10_sitsDown_118 : decode cX10_sitsDown 118 = .ok (.ireturn, 1) := by decide +kernel
theorem dX10_isFree_0 : decode cX10_isFree 0 = .ok (.aload_n 0, 1) := by decide +kernel
theorem dX10_isFree_1 : decode cX10_isFree 1 = .ok (.getfield 59, 3) := by decide +kernel
theorem dX10_isFree_4 : decode cX10_isFree 4 = .ok (.iload_n 1, 1) := by decide +kernel
theorem dX10_isFree_5 : decode cX10_isFree 5 = .ok (.iaload, 1) := by decide +kernel
theorem dX10_isFree_6 : decode cX10_isFree 6 = .ok (.bipush (-9), 2) := by decide +kernel
theorem dX10_isFree_8 : decode cX10_isFree 8 = .ok (.if_icmp .ne 16, 3) := by decide +kernel
theorem dX10_isFree_11 : decode cX10_isFree 11 = .ok (.aload_n 0, 1) := by decide +kernel
theorem dX10_isFree_12 : decode cX10_isFree 12 = .ok (.getfield 62, 3) := by decide +kernel
theorem dX10_isFree_15 : decode cX10_isFree 15 = .ok (.iload_n 1, 1) := by decide +kernel
theorem dX10_isFree_16 : decode cX10_isFree 16 = .ok (.baload, 1) := by decide +kernel
theorem dX10_isFree_17 : decode cX10_isFree 17 = .ok (.ifCond .ne 7, 3) := by decide +kernel
theorem dX10_isFree_20 : decode cX10_isFree 20 = .ok (.iconst 1, 1) := by decide +kernel
theorem dX10_isFree_21 : decode cX10_isFree 21 = .ok (.goto 4, 3) := by decide +kernel
theorem dX10_isFree_24 : decode cX10_isFree 24 = .ok (.iconst 0, 1) := by decide +kernel
theorem dX10_isFree_25 : decode cX10_isFree 25 = .ok (.ireturn, 1) := by decide +kernel
theorem dX10_takesTable_0 : decode cX10_takesTable 0 = .ok (.bipush (-9), 2) := by decide +kernel
theorem dX10_takesTable_2 : decode cX10_takesTable 2 = .ok (.istore_n 2, 1) := by decide +kernel
theorem dX10_takesTable_3 : decode cX10_takesTable 3 = .ok (.aload_n 0, 1) := by decide +kernel
theorem dX10_takesTable_4 : decode cX10_takesTable 4 = .ok (.getfield 165, 3) := by decide +kernel
theorem dX10_takesTable_7 : decode cX10_takesTable 7 = .ok (.iconst 2, 1) := by decide +kernel
theorem dX10_takesTable_8 : decode cX10_takesTable 8 = .ok (.if_icmp .ne 10, 3) := by decide +kernel
theorem dX10_takesTable_11 : decode cX10_takesTable 11 = .ok (.aload_n 0, 1) := by decide +kernel
theorem dX10_takesTable_12 : decode cX10_takesTable 12 = .ok (.iload_n 1, 1) := by decide +kernel
theorem dX10_takesTable_13 : decode cX10_takesTable 13 = .ok (.iconst 1, 1) := by decide +kernel
theorem dX10_takesTable_14 : decode cX10_takesTable 14 = .ok (.invokevirtual 220, 3) := by decide +kernel
theorem dX10_takesTable_17 : decode cX10_takesTable 17 = .ok (.istore_n 2, 1) := by decide +kernel
theorem dX10_takesTable_18 : decode cX10_takesTable 18 = .ok (.iload_n 2, 1) := by decide +kernel
theorem dX10_takesTable_19 : decode cX10_takesTable 19 = .ok (.bipush (-9), 2) := by decide +kernel
theorem dX10_takesTable_21 : decode cX10_takesTable 21 = .ok (.if_icmp .ne 25, 3) := by decide +kernel
theorem dX10_takesTable_24 : decode cX10_takesTable 24 = .ok (.aload_n 0, 1) := by decide +kernel
theorem dX10_takesTable_25 : decode cX10_takesTable 25 = .ok (.getfield 165, 3) := by decide +kernel
theorem dX10_takesTable_28 : decode cX10_takesTable 28 = .ok (.ifCond .ne 11, 3) := by decide +kernel
theorem dX10_takesTable_31 : decode cX10_takesTable 31 = .ok (.aload_n 0, 1) := by decide +kernel
theorem dX10_takesTable_32 : decode cX10_takesTable 32 = .ok (.iload_n 1, 1) := by decide +kernel
theorem dX10_takesTable_33 : decode cX10_takesTable 33 = .ok (.invokevirtual 224, 3) := by decide +kernel
theorem dX10_takesTable_36 : decode cX10_takesTable 36 = .ok (.goto 9, 3) := by decide +kernel
theorem dX10_takesTable_39 : decode cX10_takesTable 39 = .ok (.aload_n 0, 1) := by decide +kernel
theorem dX10_takesTable_40 : decode cX10_takesTable 40 = .ok (.iload_n 1, 1) := by decide +kernel
theorem dX10_takesTable_41 : decode cX10_takesTable 41 = .ok (.iconst 0, 1) := by decide +kernel
theorem dX10_takesTable_42 : decode cX10_takesTable 42 = .ok (.invokevirtual 220, 3) := by decide +kernel
theorem dX10_takesTable_45 : decode cX10_takesTable 45 = .ok (.istore_n 2, 1) := by decide +kernel
theorem dX10_takesTable_46 : decode cX10_takesTable 46 = .ok (.iload_n 2, 1) := by decide +kernel
theorem dX10_takesTable_47 : decode cX10_takesTable 47 = .ok (.bipush (-9), 2) := by decide +kernel
theorem dX10_takesTable_49 : decode cX10_takesTable 49 = .ok (.if_icmp .eq 12, 3) := by decide +kernel
theorem dX10_takesTable_52 : decode cX10_takesTable 52 = .ok (.aload_n 0, 1) := by decide +kernel
theorem dX10_takesTable_53 : decode cX10_takesTable 53 = .ok (.getfield 59, 3) := by decide +kernel
theorem dX10_takesTable_56 : decode cX10_takesTable 56 = .ok (.iload_n 2, 1) := by decide +kernel
theorem dX10_takesTable_57 : decode cX10_takesTable 57 = .ok (.iload_n 1, 1) := by decide +kernel
theorem dX10_takesTable_58 : decode cX10_takesTable 58 = .ok (.iastore, 1) := by decide +kernel
theorem dX10_takesTable_59 : decode cX10_takesTable 59 = .ok (.iconst 1, 1) := by decide +kernel
theorem dX10_takesTable_60 : decode cX10_takesTable 60 = .ok (.ireturn, 1) := by decide +kernel
theorem dX10_takesTable_61 : decode cX10_takesTable 61 = .ok (.aload_n 0, 1) := by decide +kernel
theorem dX10_takesTable_62 : decode cX10_takesTable 62 = .ok (.getfield 144, 3) := by decide +kernel
theorem dX10_takesTable_65 : decode cX10_takesTable 65 = .ok (.ifCond .eq 15, 3) := by decide +kernel
theorem dX10_takesTable_68 : decode cX10_takesTable 68 = .ok (.aload_n 0, 1) := by decide +kernel
theorem dX10_takesTable_69 : decode cX10_takesTable 69 = .ok (.iload_n 1, 1) := by decide +kernel
theorem dX10_takesTable_70 : decode cX10_takesTable 70 = .ok (.invokevirtual 227, 3) := by decide +kernel
theorem dX10_takesTable_73 : decode cX10_takesTable 73 = .ok (.ifCond .eq 7, 3) := by decide +kernel
theorem dX10_takesTable_76 : decode cX10_takesTable 76 = .ok (.iconst 1, 1) := by decide +kernel
theorem dX10_takesTable_77 : decode cX10_takesTable 77 = .ok (.goto 4, 3) := by decide +kernel
theorem dX10_takesTable_80 : decode cX10_takesTable 80 = .ok (.iconst 0, 1) := by decide +kernel
theorem dX10_takesTable_81 : decode cX10_takesTable 81 = .ok (.ireturn, 1) := by decide +kernel
theorem dX10_firstFor_0 : decode cX10_firstFor 0 = .ok (.iconst 0, 1) := by decide +kernel
theorem dX10_firstFor_1 : decode cX10_firstFor 1 = .ok (.istore_n 2, 1) := by decide +kernel
theorem dX10_firstFor_2 : decode cX10_firstFor 2 = .ok (.iload_n 2, 1) := by decide +kernel
theorem dX10_firstFor_3 : decode cX10_firstFor 3 = .ok (.aload_n 0, 1) := by decide +kernel
theorem dX10_firstFor_4 : decode cX10_firstFor 4 = .ok (.getfield 162, 3) := by decide +kernel
theorem dX10_firstFor_7 : decode cX10_firstFor 7 = .ok (.if_icmp .ge 34, 3) := by decide +kernel
theorem dX10_firstFor_10 : decode cX10_firstFor 10 = .ok (.aload_n 0, 1) := by decide +kernel
theorem dX10_firstFor_11 : decode cX10_firstFor 11 = .ok (.iload_n 2, 1) := by decide +kernel
theorem dX10_firstFor_12 : decode cX10_firstFor 12 = .ok (.invokevirtual 230, 3) := by decide +kernel
theorem dX10_firstFor_15 : decode cX10_firstFor 15 = .ok (.ifCond .eq 20, 3) := by decide +kernel
theorem dX10_firstFor_18 : decode cX10_firstFor 18 = .ok (.aload_n 0, 1) := by decide +kernel
theorem dX10_firstFor_19 : decode cX10_firstFor 19 = .ok (.getfield 56, 3) := by decide +kernel
theorem dX10_firstFor_22 : decode cX10_firstFor 22 = .ok (.iload_n 2, 1) := by decide +kernel
theorem dX10_firstFor_23 : decode cX10_firstFor 23 = .ok (.iaload, 1) := by decide +kernel
theorem dX10_firstFor_24 : decode cX10_firstFor 24 = .ok (.aload_n 0, 1) := by decide +kernel
theorem dX10_firstFor_25 : decode cX10_firstFor 25 = .ok (.getfield 38, 3) := by decide +kernel
theorem dX10_firstFor_28 : decode cX10_firstFor 28 = .ok (.iload_n 1, 1) := by decide +kernel
theorem dX10_firstFor_29 : decode cX10_firstFor 29 = .ok (.iaload, 1) := by decide +kernel
theorem dX10_firstFor_30 : decode cX10_firstFor 30 = .ok (.if_icmp .lt 5, 3) := by decide +kernel
theorem dX10_firstFor_33 : decode cX10_firstFor 33 = .ok (.iload_n 2, 1) := by decide +kernel
theorem dX10_firstFor_34 : decode cX10_firstFor 34 = .ok (.ireturn, 1) := by decide +kernel
theorem dX10_firstFor_35 : decode cX10_firstFor 35 = .ok (.iinc 2 1, 3) := by decide +kernel
theorem dX10_firstFor_38 : decode cX10_firstFor 38 = .ok (.goto (-36), 3) := by decide +kernel
theorem dX10_firstFor_41 : decode cX10_firstFor 41 = .ok (.bipush (-9), 2) := by decide +kernel
theorem dX10_firstFor_43 : decode cX10_firstFor 43 = .ok (.ireturn, 1) := by decide +kernel
theorem dX10_smallest_0 : decode cX10_smallest 0 = .ok (.bipush (-9), 2) := by decide +kernel
theorem dX10_smallest_2 : decode cX10_smallest 2 = .ok (.istore_n 3, 1) := by decide +kernel
theorem dX10_smallest_3 : decode cX10_smallest 3 = .ok (.iconst 0, 1) := by decide +kernel
theorem dX10_smallest_4 : decode cX10_smallest 4 = .ok (.istore 4, 2) := by decide +kernel
theorem dX10_smallest_6 : decode cX10_smallest 6 = .ok (.iload 4, 2) := by decide +kernel
theorem dX10_smallest_8 : decode cX10_smallest 8 = .ok (.aload_n 0, 1) := by decide +kernel
theorem dX10_smallest_9 : decode cX10_smallest 9 = .ok (.getfield 162, 3) := by decide +kernel
theorem dX10_smallest_12 : decode cX10_smallest 12 = .ok (.if_icmp .ge 91, 3) := by decide +kernel
theorem dX10_smallest_15 : decode cX10_smallest 15 = .ok (.aload_n 0, 1) := by decide +kernel
theorem dX10_smallest_16 : decode cX10_smallest 16 = .ok (.iload 4, 2) := by decide +kernel
theorem dX10_smallest_18 : decode cX10_smallest 18 = .ok (.invokevirtual 230, 3) := by decide +kernel
theorem dX10_smallest_21 : decode cX10_smallest 21 = .ok (.ifCond .eq 43, 3) := by decide +kernel
theorem dX10_smallest_24 : decode cX10_smallest 24 = .ok (.aload_n 0, 1) := by decide +kernel
theorem dX10_smallest_25 : decode cX10_smallest 25 = .ok (.getfield 56, 3) := by decide +kernel
theorem dX10_smallest_28 : decode cX10_smallest 28 = .ok (.iload 4, 2) := by decide +kernel
theorem dX10_smallest_30 : decode cX10_smallest 30 = .ok (.iaload, 1) := by decide +kernel
theorem dX10_smallest_31 : decode cX10_smallest 31 = .ok (.aload_n 0, 1) := by decide +kernel
theorem dX10_smallest_32 : decode cX10_smallest 32 = .ok (.getfield 38, 3) := by decide +kernel
theorem dX10_smallest_35 : decode cX10_smallest 35 = .ok (.iload_n 1, 1) := by decide +kernel
theorem dX10_smallest_36 : decode cX10_smallest 36 = .ok (.iaload, 1) := by decide +kernel
theorem dX10_smallest_37 : decode cX10_smallest 37 = .ok (.if_icmp .lt 27, 3) := by decide +kernel
theorem dX10_smallest_40 : decode cX10_smallest 40 = .ok (.iload_n 2, 1) := by decide +kernel
theorem dX10_smallest_41 : decode cX10_smallest 41 = .ok (.ifCond .eq 19, 3) := by decide +kernel
theorem dX10_smallest_44 : decode cX10_smallest 44 = .ok (.aload_n 0, 1) := by decide +kernel
theorem dX10_smallest_45 : decode cX10_smallest 45 = .ok (.getfield 53, 3) := by decide +kernel
theorem dX10_smallest_48 : decode cX10_smallest 48 = .ok (.iload 4, 2) := by decide +kernel
theorem dX10_smallest_50 : decode cX10_smallest 50 = .ok (.iaload, 1) := by decide +kernel
theorem dX10_smallest_51 : decode cX10_smallest 51 = .ok (.aload_n 0, 1) := by decide +kernel
theorem dX10_smallest_52 : decode cX10_smallest 52 = .ok (.getfield 47, 3) := by decide +kernel
theorem dX10_smallest_55 : decode cX10_smallest 55 = .ok (.iload_n 1, 1) := by decide +kernel
theorem dX10_smallest_56 : decode cX10_smallest 56 = .ok (.iaload, 1) := by decide +kernel
theorem dX10_smallest_57 : decode cX10_smallest 57 = .ok (.if_icmp .ne 7, 3) := by decide +kernel
theorem dX10_smallest_60 : decode cX10_smallest 60 = .ok (.iconst 1, 1) := by decide +kernel
theorem dX10_smallest_61 : decode cX10_smallest 61 = .ok (.goto 4, 3) := by decide +kernel
theorem dX10_smallest_64 : decode cX10_smallest 64 = .ok (.iconst 0, 1) := by decide +kernel
theorem dX10_smallest_65 : decode cX10_smallest 65 = .ok (.istore 5, 2) := by decide +kernel
theorem dX10_smallest_67 : decode cX10_smallest 67 = .ok (.iload 5, 2) := by decide +kernel
theorem dX10_smallest_69 : decode cX10_smallest 69 = .ok (.ifCond .eq 28, 3) := by decide +kernel
theorem dX10_smallest_72 : decode cX10_smallest 72 = .ok (.iload_n 3, 1) := by decide +kernel
theorem dX10_smallest_73 : decode cX10_smallest 73 = .ok (.bipush (-9), 2) := by decide +kernel
theorem dX10_smallest_75 : decode cX10_smallest 75 = .ok (.if_icmp .eq 19, 3) := by decide +kernel
theorem dX10_smallest_78 : decode cX10_smallest 78 = .ok (.aload_n 0, 1) := by decide +kernel
theorem dX10_smallest_79 : decode cX10_smallest 79 = .ok (.getfield 56, 3) := by decide +kernel
theorem dX10_smallest_82 : decode cX10_smallest 82 = .ok (.iload 4, 2) := by decide +kernel
theorem dX10_smallest_84 : decode cX10_smallest 84 = .ok (.iaload, 1) := by decide +kernel
theorem dX10_smallest_85 : decode cX10_smallest 85 = .ok (.aload_n 0, 1) := by decide +kernel
theorem dX10_smallest_86 : decode cX10_smallest 86 = .ok (.getfield 56, 3) := by decide +kernel
theorem dX10_smallest_89 : decode cX10_smallest 89 = .ok (.iload_n 3, 1) := by decide +kernel
theorem dX10_smallest_90 : decode cX10_smallest 90 = .ok (.iaload, 1) := by decide +kernel
theorem dX10_smallest_91 : decode cX10_smallest 91 = .ok (.if_icmp .ge 6, 3) := by decide +kernel
theorem dX10_smallest_94 : decode cX10_smallest 94 = .ok (.iload 4, 2) := by decide +kernel
theorem dX10_smallest_96 : decode cX10_smallest 96 = .ok (.istore_n 3, 1) := by decide +kernel
theorem dX10_smallest_97 : decode cX10_smallest 97 = .ok (.iinc 4 1, 3) := by decide +kernel
theorem dX10_smallest_100 : decode cX10_smallest 100 = .ok (.goto (-94), 3) := by decide +kernel
theorem dX10_smallest_103 : decode cX10_smallest 103 = .ok (.iload_n 3, 1) := by decide +kernel
theorem dX10_smallest_104 : decode cX10_smallest 104 = .ok (.ireturn, 1) := by decide +kernel
theorem dX10_joinsTwo_0 : decode cX10_joinsTwo 0 = .ok (.iconst 0, 1) := by decide +kernel
theorem dX10_joinsTwo_1 : decode cX10_joinsTwo 1 = .ok (.istore_n 2, 1) := by decide +kernel
theorem dX10_joinsTwo_2 : decode cX10_joinsTwo 2 = .ok (.iload_n 2, 1) := by decide +kernel
theorem dX10_joinsTwo_3 : decode cX10_joinsTwo 3 = .ok (.iconst 1, 1) := by decide +kernel
theorem dX10_joinsTwo_4 : decode cX10_joinsTwo 4 = .ok (.iadd, 1) := by decide +kernel
theorem dX10_joinsTwo_5 : decode cX10_joinsTwo 5 = .ok (.aload_n 0, 1) := by decide +kernel
theorem dX10_joinsTwo_6 : decode cX10_joinsTwo 6 = .ok (.getfield 162, 3) := by decide +kernel
theorem dX10_joinsTwo_9 : decode cX10_joinsTwo 9 = .ok (.if_icmp .ge 69, 3) := by decide +kernel
theorem dX10_joinsTwo_12 : decode cX10_joinsTwo 12 = .ok (.aload_n 0, 1) := by decide +kernel
theorem dX10_joinsTwo_13 : decode cX10_joinsTwo 13 = .ok (.iload_n 2, 1) := by decide +kernel
theorem dX10_joinsTwo_14 : decode cX10_joinsTwo 14 = .ok (.invokevirtual 230, 3) := by decide +kernel
theorem dX10_joinsTwo_17 : decode cX10_joinsTwo 17 = .ok (.ifCond .eq 55, 3) := by decide +kernel
theorem dX10_joinsTwo_20 : decode cX10_joinsTwo 20 = .ok (.aload_n 0, 1) := by decide +kernel
theorem dX10_joinsTwo_21 : decode cX10_joinsTwo 21 = .ok (.iload_n 2, 1) := by decide +kernel
theorem dX10_joinsTwo_22 : decode cX10_joinsTwo 22 = .ok (.iconst 1, 1) := by decide +kernel
theorem dX10_joinsTwo_23 : decode cX10_joinsTwo 23 = .ok (.iadd, 1) := by decide +kernel
theorem dX10_joinsTwo_24 : decode cX10_joinsTwo 24 = .ok (.invokevirtual 230, 3) := by decide +kernel
theorem dX10_joinsTwo_27 : decode cX10_joinsTwo 27 = .ok (.ifCond .eq 45, 3) := by decide +kernel
theorem dX10_joinsTwo_30 : decode cX10_joinsTwo 30 = .ok (.aload_n 0, 1) := by decide +kernel
theorem dX10_joinsTwo_31 : decode cX10_joinsTwo 31 = .ok (.getfield 56, 3) := by decide +kernel
theorem dX10_joinsTwo_34 : decode cX10_joinsTwo 34 = .ok (.iload_n 2, 1) := by decide +kernel
theorem dX10_joinsTwo_35 : decode cX10_joinsTwo 35 = .ok (.iaload, 1) := by decide +kernel
theorem dX10_joinsTwo_36 : decode cX10_joinsTwo 36 = .ok (.aload_n 0, 1) := by decide +kernel
theorem dX10_joinsTwo_37 : decode cX10_joinsTwo 37 = .ok (.getfield 56, 3) := by decide +kernel
theorem dX10_joinsTwo_40 : decode cX10_joinsTwo 40 = .ok (.iload_n 2, 1) := by decide +kernel
theorem dX10_joinsTwo_41 : decode cX10_joinsTwo 41 = .ok (.iconst 1, 1) := by decide +kernel
theorem dX10_joinsTwo_42 : decode cX10_joinsTwo 42 = .ok (.iadd, 1) := by decide +kernel
theorem dX10_joinsTwo_43 : decode cX10_joinsTwo 43 = .ok (.iaload, 1) := by decide +kernel
theorem dX10_joinsTwo_44 : decode cX10_joinsTwo 44 = .ok (.iadd, 1) := by decide +kernel
theorem dX10_joinsTwo_45 : decode cX10_joinsTwo 45 = .ok (.aload_n 0, 1) := by decide +kernel
theorem dX10_joinsTwo_46 : decode cX10_joinsTwo 46 = .ok (.getfield 38, 3) := by decide +kernel
theorem dX10_joinsTwo_49 : decode cX10_joinsTwo 49 = .ok (.iload_n 1, 1) := by decide +kernel
theorem dX10_joinsTwo_50 : decode cX10_joinsTwo 50 = .ok (.iaload, 1) := by decide +kernel
theorem dX10_joinsTwo_51 : decode cX10_joinsTwo 51 = .ok (.if_icmp .lt 21, 3) := by decide +kernel
theorem dX10_joinsTwo_54 : decode cX10_joinsTwo 54 = .ok (.aload_n 0, 1) := by decide +kernel
theorem dX10_joinsTwo_55 : decode cX10_joinsTwo 55 = .ok (.getfield 59, 3) := by decide +kernel
theorem dX10_joinsTwo_58 : decode cX10_joinsTwo 58 = .ok (.iload_n 2, 1) := by decide +kernel
theorem dX10_joinsTwo_59 : decode cX10_joinsTwo 59 = .ok (.iload_n 1, 1) := by decide +kernel
theorem dX10_joinsTwo_60 : decode cX10_joinsTwo 60 = .ok (.iastore, 1) := by decide +kernel
theorem dX10_joinsTwo_61 : decode cX10_joinsTwo 61 = .ok (.aload_n 0, 1) := by decide +kernel
theorem dX10_joinsTwo_62 : decode cX10_joinsTwo 62 = .ok (.getfield 59, 3) := by decide +kernel
theorem dX10_joinsTwo_65 : decode cX10_joinsTwo 65 = .ok (.iload_n 2, 1) := by decide +kernel
theorem dX10_joinsTwo_66 : decode cX10_joinsTwo 66 = .ok (.iconst 1, 1) := by decide +kernel
theorem dX10_joinsTwo_67 : decode cX10_joinsTwo 67 = .ok (.iadd, 1) := by decide +kernel
theorem dX10_joinsTwo_68 : decode cX10_joinsTwo 68 = .ok (.iload_n 1, 1) := by decide +kernel
theorem dX10_joinsTwo_69 : decode cX10_joinsTwo 69 = .ok (.iastore, 1) := by decide +kernel
theorem dX10_joinsTwo_70 : decode cX10_joinsTwo 70 = .ok (.iconst 1, 1) := by decide +kernel
theorem dX10_joinsTwo_71 : decode cX10_joinsTwo 71 = .ok (.ireturn, 1) := by decide +kernel
theorem dX10_joinsTwo_72 : decode cX10_joinsTwo 72 = .ok (.iinc 2 1, 3) := by decide +kernel
theorem dX10_joinsTwo_75 : decode cX10_joinsTwo 75 = .ok (.goto (-73), 3) := by decide +kernel
theorem dX10_joinsTwo_78 : decode cX10_joinsTwo 78 = .ok (.iconst 0, 1) := by decide +kernel
theorem dX10_joinsTwo_79 : decode cX10_joinsTwo 79 = .ok (.ireturn, 1) := by decide +kernel
theorem dX10_allCoin_0 : decode cX10_allCoin 0 = .ok (.iconst 0, 1) := by decide +kernel
theorem dX10_allCoin_1 : decode cX10_allCoin 1 = .ok (.istore_n 1, 1) := by decide +kernel
theorem dX10_allCoin_2 : decode cX10_allCoin 2 = .ok (.iconst 0, 1) := by decide +kernel
theorem dX10_allCoin_3 : decode cX10_allCoin 3 = .ok (.istore_n 2, 1) := by decide +kernel
theorem dX10_allCoin_4 : decode cX10_allCoin 4 = .ok (.iload_n 2, 1) := by decide +kernel
theorem dX10_allCoin_5 : decode cX10_allCoin 5 = .ok (.aload_n 0, 1) := by decide +kernel
theorem dX10_allCoin_6 : decode cX10_allCoin 6 = .ok (.getfield 135, 3) := by decide +kernel
theorem dX10_allCoin_9 : decode cX10_allCoin 9 = .ok (.if_icmp .ge 18, 3) := by decide +kernel
theorem dX10_allCoin_12 : decode cX10_allCoin 12 = .ok (.iload_n 1, 1) := by decide +kernel
theorem dX10_allCoin_13 : decode cX10_allCoin 13 = .ok (.aload_n 0, 1) := by decide +kernel
theorem dX10_allCoin_14 : decode cX10_allCoin 14 = .ok (.getfield 78, 3) := by decide +kernel
theorem dX10_allCoin_17 : decode cX10_allCoin 17 = .ok (.iload_n 2, 1) := by decide +kernel
theorem dX10_allCoin_18 : decode cX10_allCoin 18 = .ok (.iaload, 1) := by decide +kernel
theorem dX10_allCoin_19 : decode cX10_allCoin 19 = .ok (.iadd, 1) := by decide +kernel
theorem dX10_allCoin_20 : decode cX10_allCoin 20 = .ok (.istore_n 1, 1) := by decide +kernel
theorem dX10_allCoin_21 : decode cX10_allCoin 21 = .ok (.iinc 2 1, 3) := by decide +kernel
theorem dX10_allCoin_24 : decode cX10_allCoin 24 = .ok (.goto (-20), 3) := by decide +kernel
theorem dX10_allCoin_27 : decode cX10_allCoin 27 = .ok (.iload_n 1, 1) := by decide +kernel
theorem dX10_allCoin_28 : decode cX10_allCoin 28 = .ok (.ireturn, 1) := by decide +kernel
theorem dX10_coinNow_0 : decode cX10_coinNow 0 = .ok (.aload_n 0, 1) := by decide +kernel
theorem dX10_coinNow_1 : decode cX10_coinNow 1 = .ok (.invokevirtual 233, 3) := by decide +kernel
theorem dX10_coinNow_4 : decode cX10_coinNow 4 = .ok (.aload_n 0, 1) := by decide +kernel
theorem dX10_coinNow_5 : decode cX10_coinNow 5 = .ok (.invokevirtual 236, 3) := by decide +kernel
theorem dX10_coinNow_8 : decode cX10_coinNow 8 = .ok (.aload_n 0, 1) := by decide +kernel
theorem dX10_coinNow_9 : decode cX10_coinNow 9 = .ok (.invokevirtual 239, 3) := by decide +kernel
theorem dX10_coinNow_12 : decode cX10_coinNow 12 = .ok (.ireturn, 1) := by decide +kernel
theorem dX10_day_0 : decode cX10_day 0 = .ok (.aload_n 0, 1) := by decide +kernel
theorem dX10_day_1 : decode cX10_day 1 = .ok (.iload_n 1, 1) := by decide +kernel
theorem dX10_day_2 : decode cX10_day 2 = .ok (.invokevirtual 156, 3) := by decide +kernel
theorem dX10_day_5 : decode cX10_day 5 = .ok (.ifCond .ne 5, 3) := by decide +kernel
theorem dX10_day_8 : decode cX10_day 8 = .ok (.iconst (-1), 1) := by decide +kernel
theorem dX10_day_9 : decode cX10_day 9 = .ok (.ireturn, 1) := by decide +kernel
theorem dX10_day_10 : decode cX10_day 10 = .ok (.iload_n 2, 1) := by decide +kernel
theorem dX10_day_11 : decode cX10_day 11 = .ok (.iconst 0, 1) := by decide +kernel
theorem dX10_day_12 : decode cX10_day 12 = .ok (.iconst 5, 1) := by decide +kernel
theorem dX10_day_13 : decode cX10_day 13 = .ok (.invokestatic 104, 3) := by decide +kernel
theorem dX10_day_16 : decode cX10_day 16 = .ok (.ifCond .ne 6, 3) := by decide +kernel
theorem dX10_day_19 : decode cX10_day 19 = .ok (.bipush (-2), 2) := by decide +kernel
theorem dX10_day_21 : decode cX10_day 21 = .ok (.ireturn, 1) := by decide +kernel
theorem dX10_day_22 : decode cX10_day 22 = .ok (.aload_n 0, 1) := by decide +kernel
theorem dX10_day_23 : decode cX10_day 23 = .ok (.invokevirtual 242, 3) := by decide +kernel
theorem dX10_day_26 : decode cX10_day 26 = .ok (.istore_n 3, 1) := by decide +kernel
theorem dX10_day_27 : decode cX10_day 27 = .ok (.iload_n 2, 1) := by decide +kernel
theorem dX10_day_28 : decode cX10_day 28 = .ok (.tableswitch 94 0 4 #[36, 66, 73, 80, 87], 36) := by decide +kernel
theorem dX10_day_64 : decode cX10_day 64 = .ok (.aload_n 0, 1) := by decide +kernel
theorem dX10_day_65 : decode cX10_day 65 = .ok (.getfield 66, 3) := by decide +kernel
theorem dX10_day_68 : decode cX10_day 68 = .ok (.iload_n 1, 1) := by decide +kernel
theorem dX10_day_69 : decode cX10_day 69 = .ok (.iaload, 1) := by decide +kernel
theorem dX10_day_70 : decode cX10_day 70 = .ok (.iconst 3, 1) := by decide +kernel
theorem dX10_day_71 : decode cX10_day 71 = .ok (.if_icmp .ne 7, 3) := by decide +kernel
theorem dX10_day_74 : decode cX10_day 74 = .ok (.iconst 1, 1) := by decide +kernel
theorem dX10_day_75 : decode cX10_day 75 = .ok (.goto 18, 3) := by decide +kernel
theorem dX10_day_78 : decode cX10_day 78 = .ok (.aload_n 0, 1) := by decide +kernel
theorem dX10_day_79 : decode cX10_day 79 = .ok (.getfield 66, 3) := by decide +kernel
theorem dX10_day_82 : decode cX10_day 82 = .ok (.iload_n 1, 1) := by decide +kernel
theorem dX10_day_83 : decode cX10_day 83 = .ok (.iaload, 1) := by decide +kernel
theorem dX10_day_84 : decode cX10_day 84 = .ok (.iconst 4, 1) := by decide +kernel
theorem dX10_day_85 : decode cX10_day 85 = .ok (.if_icmp .ne 7, 3) := by decide +kernel
theorem dX10_day_88 : decode cX10_day 88 = .ok (.iconst 2, 1) := by decide +kernel
theorem dX10_day_89 : decode cX10_day 89 = .ok (.goto 4, 3) := by decide +kernel
theorem dX10_day_92 : decode cX10_day 92 = .ok (.iconst 0, 1) := by decide +kernel
theorem dX10_day_93 : decode cX10_day 93 = .ok (.ireturn, 1) := by decide +kernel
theorem dX10_day_94 : decode cX10_day 94 = .ok (.aload_n 0, 1) := by decide +kernel
theorem dX10_day_95 : decode cX10_day 95 = .ok (.getfield 69, 3) := by decide +kernel
theorem dX10_day_98 : decode cX10_day 98 = .ok (.iload_n 1, 1) := by decide +kernel
theorem dX10_day_99 : decode cX10_day 99 = .ok (.iaload, 1) := by decide +kernel
theorem dX10_day_100 : decode cX10_day 100 = .ok (.ireturn, 1) := by decide +kernel
theorem dX10_day_101 : decode cX10_day 101 = .ok (.aload_n 0, 1) := by decide +kernel
theorem dX10_day_102 : decode cX10_day 102 = .ok (.getfield 72, 3) := by decide +kernel
theorem dX10_day_105 : decode cX10_day 105 = .ok (.iload_n 1, 1) := by decide +kernel
theorem dX10_day_106 : decode cX10_day 106 = .ok (.iaload, 1) := by decide +kernel
theorem dX10_day_107 : decode cX10_day 107 = .ok (.ireturn, 1) := by decide +kernel
theorem dX10_day_108 : decode cX10_day 108 = .ok (.aload_n 0, 1) := by decide +kernel
theorem dX10_day_109 : decode cX10_day 109 = .ok (.getfield 75, 3) := by decide +kernel
theorem dX10_day_112 : decode cX10_day 112 = .ok (.iload_n 1, 1) := by decide +kernel
theorem dX10_day_113 : decode cX10_day 113 = .ok (.iaload, 1) := by decide +kernel
theorem dX10_day_114 : decode cX10_day 114 = .ok (.ireturn, 1) := by decide +kernel
theorem dX10_day_115 : decode cX10_day 115 = .ok (.aload_n 0, 1) := by decide +kernel
theorem dX10_day_116 : decode cX10_day 116 = .ok (.getfield 78, 3) := by decide +kernel
theorem dX10_day_119 : decode cX10_day 119 = .ok (.iload_n 1, 1) := by decide +kernel
theorem dX10_day_120 : decode cX10_day 120 = .ok (.iaload, 1) := by decide +kernel
theorem dX10_day_121 : decode cX10_day 121 = .ok (.ireturn, 1) := by decide +kernel
theorem dX10_day_122 : decode cX10_day 122 = .ok (.aload_n 0, 1) := by decide +kernel
theorem dX10_day_123 : decode cX10_day 123 = .ok (.getfield 81, 3) := by decide +kernel
theorem dX10_day_126 : decode cX10_day 126 = .ok (.iload_n 1, 1) := by decide +kernel
theorem dX10_day_127 : decode cX10_day 127 = .ok (.iaload, 1) := by decide +kernel
theorem dX10_day_128 : decode cX10_day 128 = .ok (.ireturn, 1) := by decide +kernel
theorem dX10_taken_0 : decode cX10_taken 0 = .ok (.iload_n 1, 1) := by decide +kernel
theorem dX10_taken_1 : decode cX10_taken 1 = .ok (.iconst 0, 1) := by decide +kernel
theorem dX10_taken_2 : decode cX10_taken 2 = .ok (.sipush 399, 3) := by decide +kernel
theorem dX10_taken_5 : decode cX10_taken 5 = .ok (.invokestatic 104, 3) := by decide +kernel
theorem dX10_taken_8 : decode cX10_taken 8 = .ok (.ifCond .eq 12, 3) := by decide +kernel
theorem dX10_taken_11 : decode cX10_taken 11 = .ok (.iload_n 2, 1) := by decide +kernel
theorem dX10_taken_12 : decode cX10_taken 12 = .ok (.iconst 0, 1) := by decide +kernel
theorem dX10_taken_13 : decode cX10_taken 13 = .ok (.iconst 1, 1) := by decide +kernel
theorem dX10_taken_14 : decode cX10_taken 14 = .ok (.invokestatic 104, 3) := by decide +kernel
theorem dX10_taken_17 : decode cX10_taken 17 = .ok (.ifCond .ne 6, 3) := by decide +kernel
theorem dX10_taken_20 : decode cX10_taken 20 = .ok (.bipush (-2), 2) := by decide +kernel
theorem dX10_taken_22 : decode cX10_taken 22 = .ok (.ireturn, 1) := by decide +kernel
theorem dX10_taken_23 : decode cX10_taken 23 = .ok (.aload_n 0, 1) := by decide +kernel
theorem dX10_taken_24 : decode cX10_taken 24 = .ok (.invokevirtual 152, 3) := by decide +kernel
theorem dX10_taken_27 : decode cX10_taken 27 = .ok (.ifCond .ne 6, 3) := by decide +kernel
theorem dX10_taken_30 : decode cX10_taken 30 = .ok (.bipush (-3), 2) := by decide +kernel
theorem dX10_taken_32 : decode cX10_taken 32 = .ok (.ireturn, 1) := by decide +kernel
theorem dX10_taken_33 : decode cX10_taken 33 = .ok (.aload_n 0, 1) := by decide +kernel
theorem dX10_taken_34 : decode cX10_taken 34 = .ok (.invokevirtual 242, 3) := by decide +kernel
theorem dX10_taken_37 : decode cX10_taken 37 = .ok (.istore_n 3, 1) := by decide +kernel
theorem dX10_taken_38 : decode cX10_taken 38 = .ok (.iload_n 2, 1) := by decide +kernel
theorem dX10_taken_39 : decode cX10_taken 39 = .ok (.ifCond .ne 12, 3) := by decide +kernel
theorem dX10_taken_42 : decode cX10_taken 42 = .ok (.aload_n 0, 1) := by decide +kernel
theorem dX10_taken_43 : decode cX10_taken 43 = .ok (.getfield 84, 3) := by decide +kernel
theorem dX10_taken_46 : decode cX10_taken 46 = .ok (.iload_n 1, 1) := by decide +kernel
theorem dX10_taken_47 : decode cX10_taken 47 = .ok (.iaload, 1) := by decide +kernel
theorem dX10_taken_48 : decode cX10_taken 48 = .ok (.goto 9, 3) := by decide +kernel
theorem dX10_taken_51 : decode cX10_taken 51 = .ok (.aload_n 0, 1) := by decide +kernel
theorem dX10_taken_52 : decode cX10_taken 52 = .ok (.getfield 87, 3) := by decide +kernel
theorem dX10_taken_55 : decode cX10_taken 55 = .ok (.iload_n 1, 1) := by decide +kernel
theorem dX10_taken_56 : decode cX10_taken 56 = .ok (.iaload, 1) := by decide +kernel
theorem dX10_taken_57 : decode cX10_taken 57 = .ok (.ireturn, 1) := by decide +kernel
theorem dX10_coin_0 : decode cX10_coin 0 = .ok (.aload_n 0, 1) := by decide +kernel
theorem dX10_coin_1 : decode cX10_coin 1 = .ok (.invokevirtual 152, 3) := by decide +kernel
theorem dX10_coin_4 : decode cX10_coin 4 = .ok (.ifCond .eq 10, 3) := by decide +kernel
theorem dX10_coin_7 : decode cX10_coin 7 = .ok (.aload_n 0, 1) := by decide +kernel
theorem dX10_coin_8 : decode cX10_coin 8 = .ok (.invokevirtual 242, 3) := by decide +kernel
theorem dX10_coin_11 : decode cX10_coin 11 = .ok (.goto 5, 3) := by decide +kernel
theorem dX10_coin_14 : decode cX10_coin 14 = .ok (.bipush (-3), 2) := by decide +kernel
theorem dX10_coin_16 : decode cX10_coin 16 = .ok (.ireturn, 1) := by decide +kernel
theorem dX10_worth_0 : decode cX10_worth 0 = .ok (.aload_n 0, 1) := by decide +kernel
theorem dX10_worth_1 : decode cX10_worth 1 = .ok (.iload_n 1, 1) := by decide +kernel
theorem dX10_worth_2 : decode cX10_worth 2 = .ok (.invokevirtual 156, 3) := by decide +kernel
theorem dX10_worth_5 : decode cX10_worth 5 = .ok (.ifCond .ne 7, 3) := by decide +kernel
theorem dX10_worth_8 : decode cX10_worth 8 = .ok (.ldc2_w 102, 3) := by decide +kernel
theorem dX10_worth_11 : decode cX10_worth 11 = .ok (.lreturn, 1) := by decide +kernel
theorem dX10_worth_12 : decode cX10_worth 12 = .ok (.aload_n 0, 1) := by decide +kernel
theorem dX10_worth_13 : decode cX10_worth 13 = .ok (.invokevirtual 242, 3) := by decide +kernel
theorem dX10_worth_16 : decode cX10_worth 16 = .ok (.istore_n 2, 1) := by decide +kernel
theorem dX10_worth_17 : decode cX10_worth 17 = .ok (.aload_n 0, 1) := by decide +kernel
theorem dX10_worth_18 : decode cX10_worth 18 = .ok (.iload_n 1, 1) := by decide +kernel
theorem dX10_worth_19 : decode cX10_worth 19 = .ok (.putfield 174, 3) := by decide +kernel
theorem dX10_worth_22 : decode cX10_worth 22 = .ok (.aload_n 0, 1) := by decide +kernel
theorem dX10_worth_23 : decode cX10_worth 23 = .ok (.invokevirtual 236, 3) := by decide +kernel
theorem dX10_worth_26 : decode cX10_worth 26 = .ok (.iload_n 2, 1) := by decide +kernel
theorem dX10_worth_27 : decode cX10_worth 27 = .ok (.aload_n 0, 1) := by decide +kernel
theorem dX10_worth_28 : decode cX10_worth 28 = .ok (.invokevirtual 239, 3) := by decide +kernel
theorem dX10_worth_31 : decode cX10_worth 31 = .ok (.isub, 1) := by decide +kernel
theorem dX10_worth_32 : decode cX10_worth 32 = .ok (.i2l, 1) := by decide +kernel
theorem dX10_worth_33 : decode cX10_worth 33 = .ok (.lreturn, 1) := by decide +kernel
theorem dX10_planned_0 : decode cX10_planned 0 = .ok (.aload_n 0, 1) := by decide +kernel
theorem dX10_planned_1 : decode cX10_planned 1 = .ok (.getfield 135, 3) := by decide +kernel
theorem dX10_planned_4 : decode cX10_planned 4 = .ok (.bipush 6, 2) := by decide +kernel
theorem dX10_planned_6 : decode cX10_planned 6 = .ok (.if_icmp .ge 10, 3) := by decide +kernel
theorem dX10_planned_9 : decode cX10_planned 9 = .ok (.aload_n 0, 1) := by decide +kernel
theorem dX10_planned_10 : decode cX10_planned 10 = .ok (.getfield 135, 3) := by decide +kernel
theorem dX10_planned_13 : decode cX10_planned 13 = .ok (.goto 5, 3) := by decide +kernel
theorem dX10_planned_16 : decode cX10_planned 16 = .ok (.bipush 6, 2) := by decide +kernel
theorem dX10_planned_18 : decode cX10_planned 18 = .ok (.ireturn, 1) := by decide +kernel
theorem dX10_maySit_0 : decode cX10_maySit 0 = .ok (.iload_n 2, 1) := by decide +kernel
theorem dX10_maySit_1 : decode cX10_maySit 1 = .ok (.aload_n 0, 1) := by decide +kernel
theorem dX10_maySit_2 : decode cX10_maySit 2 = .ok (.getfield 108, 3) := by decide +kernel
theorem dX10_maySit_5 : decode cX10_maySit 5 = .ok (.if_icmp .ne 5, 3) := by decide +kernel
theorem dX10_maySit_8 : decode cX10_maySit 8 = .ok (.iconst 1, 1) := by decide +kernel
theorem dX10_maySit_9 : decode cX10_maySit 9 = .ok (.ireturn, 1) := by decide +kernel
theorem dX10_maySit_10 : decode cX10_maySit 10 = .ok (.aload_n 0, 1) := by decide +kernel
theorem dX10_maySit_11 : decode cX10_maySit 11 = .ok (.getfield 22, 3) := by decide +kernel
theorem dX10_maySit_14 : decode cX10_maySit 14 = .ok (.iload_n 2, 1) := by decide +kernel
theorem dX10_maySit_15 : decode cX10_maySit 15 = .ok (.iaload, 1) := by decide +kernel
theorem dX10_maySit_16 : decode cX10_maySit 16 = .ok (.aload_n 0, 1) := by decide +kernel
theorem dX10_maySit_17 : decode cX10_maySit 17 = .ok (.getfield 38, 3) := by decide +kernel
theorem dX10_maySit_20 : decode cX10_maySit 20 = .ok (.iload_n 1, 1) := by decide +kernel
theorem dX10_maySit_21 : decode cX10_maySit 21 = .ok (.iaload, 1) := by decide +kernel
theorem dX10_maySit_22 : decode cX10_maySit 22 = .ok (.if_icmp .ge 5, 3) := by decide +kernel
theorem dX10_maySit_25 : decode cX10_maySit 25 = .ok (.iconst 0, 1) := by decide +kernel
theorem dX10_maySit_26 : decode cX10_maySit 26 = .ok (.ireturn, 1) := by decide +kernel
theorem dX10_maySit_27 : decode cX10_maySit 27 = .ok (.iconst 0, 1) := by decide +kernel
theorem dX10_maySit_28 : decode cX10_maySit 28 = .ok (.istore_n 3, 1) := by decide +kernel
theorem dX10_maySit_29 : decode cX10_maySit 29 = .ok (.iload_n 3, 1) := by decide +kernel
theorem dX10_maySit_30 : decode cX10_maySit 30 = .ok (.iload_n 1, 1) := by decide +kernel
theorem dX10_maySit_31 : decode cX10_maySit 31 = .ok (.if_icmp .ge 63, 3) := by decide +kernel
theorem dX10_maySit_34 : decode cX10_maySit 34 = .ok (.aload_n 0, 1) := by decide +kernel
theorem dX10_maySit_35 : decode cX10_maySit 35 = .ok (.getfield 93, 3) := by decide +kernel
theorem dX10_maySit_38 : decode cX10_maySit 38 = .ok (.iload_n 3, 1) := by decide +kernel
theorem dX10_maySit_39 : decode cX10_maySit 39 = .ok (.iaload, 1) := by decide +kernel
theorem dX10_maySit_40 : decode cX10_maySit 40 = .ok (.iload_n 2, 1) := by decide +kernel
theorem dX10_maySit_41 : decode cX10_maySit 41 = .ok (.if_icmp .ne 47, 3) := by decide +kernel
theorem dX10_maySit_44 : decode cX10_maySit 44 = .ok (.aload_n 0, 1) := by decide +kernel
theorem dX10_maySit_45 : decode cX10_maySit 45 = .ok (.getfield 41, 3) := by decide +kernel
theorem dX10_maySit_48 : decode cX10_maySit 48 = .ok (.iload_n 3, 1) := by decide +kernel
theorem dX10_maySit_49 : decode cX10_maySit 49 = .ok (.iaload, 1) := by decide +kernel
theorem dX10_maySit_50 : decode cX10_maySit 50 = .ok (.aload_n 0, 1) := by decide +kernel
theorem dX10_maySit_51 : decode cX10_maySit 51 = .ok (.getfield 41, 3) := by decide +kernel
theorem dX10_maySit_54 : decode cX10_maySit 54 = .ok (.iload_n 1, 1) := by decide +kernel
theorem dX10_maySit_55 : decode cX10_maySit 55 = .ok (.iaload, 1) := by decide +kernel
theorem dX10_maySit_56 : decode cX10_maySit 56 = .ok (.aload_n 0, 1) := by decide +kernel
theorem dX10_maySit_57 : decode cX10_maySit 57 = .ok (.iload_n 1, 1) := by decide +kernel
theorem dX10_maySit_58 : decode cX10_maySit 58 = .ok (.invokevirtual 159, 3) := by decide +kernel
theorem dX10_maySit_61 : decode cX10_maySit 61 = .ok (.iadd, 1) := by decide +kernel
theorem dX10_maySit_62 : decode cX10_maySit 62 = .ok (.if_icmp .ge 26, 3) := by decide +kernel
theorem dX10_maySit_65 : decode cX10_maySit 65 = .ok (.aload_n 0, 1) := by decide +kernel
theorem dX10_maySit_66 : decode cX10_maySit 66 = .ok (.getfield 41, 3) := by decide +kernel
theorem dX10_maySit_69 : decode cX10_maySit 69 = .ok (.iload_n 1, 1) := by decide +kernel
theorem dX10_maySit_70 : decode cX10_maySit 70 = .ok (.iaload, 1) := by decide +kernel
theorem dX10_maySit_71 : decode cX10_maySit 71 = .ok (.aload_n 0, 1) := by decide +kernel
theorem dX10_maySit_72 : decode cX10_maySit 72 = .ok (.getfield 41, 3) := by decide +kernel
theorem dX10_maySit_75 : decode cX10_maySit 75 = .ok (.iload_n 3, 1) := by decide +kernel
theorem dX10_maySit_76 : decode cX10_maySit 76 = .ok (.iaload, 1) := by decide +kernel
theorem dX10_maySit_77 : decode cX10_maySit 77 = .ok (.aload_n 0, 1) := by decide +kernel
theorem dX10_maySit_78 : decode cX10_maySit 78 = .ok (.iload_n 3, 1) := by decide +kernel
theorem dX10_maySit_79 : decode cX10_maySit 79 = .ok (.invokevirtual 159, 3) := by decide +kernel
theorem dX10_maySit_82 : decode cX10_maySit 82 = .ok (.iadd, 1) := by decide +kernel
theorem dX10_maySit_83 : decode cX10_maySit 83 = .ok (.if_icmp .ge 5, 3) := by decide +kernel
theorem dX10_maySit_86 : decode cX10_maySit 86 = .ok (.iconst 0, 1) := by decide +kernel
theorem dX10_maySit_87 : decode cX10_maySit 87 = .ok (.ireturn, 1) := by decide +kernel
theorem dX10_maySit_88 : decode cX10_maySit 88 = .ok (.iinc 3 1, 3) := by decide +kernel
theorem dX10_maySit_91 : decode cX10_maySit 91 = .ok (.goto (-62), 3) := by decide +kernel
theorem dX10_maySit_94 : decode cX10_maySit 94 = .ok (.iconst 1, 1) := by decide +kernel
theorem dX10_maySit_95 : decode cX10_maySit 95 = .ok (.ireturn, 1) := by decide +kernel
theorem dX10_findPlan_0 : decode cX10_findPlan 0 = .ok (.aload_n 0, 1) := by decide +kernel
theorem dX10_findPlan_1 : decode cX10_findPlan 1 = .ok (.invokevirtual 245, 3) := by decide +kernel
theorem dX10_findPlan_4 : decode cX10_findPlan 4 = .ok (.istore_n 1, 1) := by decide +kernel
theorem dX10_findPlan_5 : decode cX10_findPlan 5 = .ok (.aload_n 0, 1) := by decide +kernel
theorem dX10_findPlan_6 : decode cX10_findPlan 6 = .ok (.iconst (-1), 1) := by decide +kernel
theorem dX10_findPlan_7 : decode cX10_findPlan 7 = .ok (.putfield 248, 3) := by decide +kernel
theorem dX10_findPlan_10 : decode cX10_findPlan 10 = .ok (.iload_n 1, 1) := by decide +kernel
theorem dX10_findPlan_11 : decode cX10_findPlan 11 = .ok (.ifCond .ne 9, 3) := by decide +kernel
theorem dX10_findPlan_14 : decode cX10_findPlan 14 = .ok (.aload_n 0, 1) := by decide +kernel
theorem dX10_findPlan_15 : decode cX10_findPlan 15 = .ok (.iconst 0, 1) := by decide +kernel
theorem dX10_findPlan_16 : decode cX10_findPlan 16 = .ok (.putfield 248, 3) := by decide +kernel
theorem dX10_findPlan_19 : decode cX10_findPlan 19 = .ok (.return_, 1) := by decide +kernel
theorem dX10_findPlan_20 : decode cX10_findPlan 20 = .ok (.iconst 0, 1) := by decide +kernel
theorem dX10_findPlan_21 : decode cX10_findPlan 21 = .ok (.istore_n 2, 1) := by decide +kernel
theorem dX10_findPlan_22 : decode cX10_findPlan 22 = .ok (.aload_n 0, 1) := by decide +kernel
theorem dX10_findPlan_23 : decode cX10_findPlan 23 = .ok (.getfield 93, 3) := by decide +kernel
theorem dX10_findPlan_26 : decode cX10_findPlan 26 = .ok (.iconst 0, 1) := by decide +kernel
theorem dX10_findPlan_27 : decode cX10_findPlan 27 = .ok (.iconst (-1), 1) := by decide +kernel
theorem dX10_findPlan_28 : decode cX10_findPlan 28 = .ok (.iastore, 1) := by decide +kernel
theorem dX10_findPlan_29 : decode cX10_findPlan 29 = .ok (.iload_n 2, 1) := by decide +kernel
theorem dX10_findPlan_30 : decode cX10_findPlan 30 = .ok (.ifCond .lt 100, 3) := by decide +kernel
theorem dX10_findPlan_33 : decode cX10_findPlan 33 = .ok (.aload_n 0, 1) := by decide +kernel
theorem dX10_findPlan_34 : decode cX10_findPlan 34 = .ok (.getfield 93, 3) := by decide +kernel
theorem dX10_findPlan_37 : decode cX10_findPlan 37 = .ok (.iload_n 2, 1) := by decide +kernel
theorem dX10_findPlan_38 : decode cX10_findPlan 38 = .ok (.dup2, 1) := by decide +kernel
theorem dX10_findPlan_39 : decode cX10_findPlan 39 = .ok (.iaload, 1) := by decide +kernel
theorem dX10_findPlan_40 : decode cX10_findPlan 40 = .ok (.iconst 1, 1) := by decide +kernel
theorem dX10_findPlan_41 : decode cX10_findPlan 41 = .ok (.iadd, 1) := by decide +kernel
theorem dX10_findPlan_42 : decode cX10_findPlan 42 = .ok (.iastore, 1) := by decide +kernel
theorem dX10_findPlan_43 : decode cX10_findPlan 43 = .ok (.aload_n 0, 1) := by decide +kernel
theorem dX10_findPlan_44 : decode cX10_findPlan 44 = .ok (.getfield 93, 3) := by decide +kernel
theorem dX10_findPlan_47 : decode cX10_findPlan 47 = .ok (.iload_n 2, 1) := by decide +kernel
theorem dX10_findPlan_48 : decode cX10_findPlan 48 = .ok (.iaload, 1) := by decide +kernel
theorem dX10_findPlan_49 : decode cX10_findPlan 49 = .ok (.aload_n 0, 1) := by decide +kernel
theorem dX10_findPlan_50 : decode cX10_findPlan 50 = .ok (.getfield 108, 3) := by decide +kernel
theorem dX10_findPlan_53 : decode cX10_findPlan 53 = .ok (.if_icmp .gt 30, 3) := by decide +kernel
theorem dX10_findPlan_56 : decode cX10_findPlan 56 = .ok (.aload_n 0, 1) := by decide +kernel
theorem dX10_findPlan_57 : decode cX10_findPlan 57 = .ok (.iload_n 2, 1) := by decide +kernel
theorem dX10_findPlan_58 : decode cX10_findPlan 58 = .ok (.aload_n 0, 1) := by decide +kernel
theorem dX10_findPlan_59 : decode cX10_findPlan 59 = .ok (.getfield 93, 3) := by decide +kernel
theorem dX10_findPlan_62 : decode cX10_findPlan 62 = .ok (.iload_n 2, 1) := by decide +kernel
theorem dX10_findPlan_63 : decode cX10_findPlan 63 = .ok (.iaload, 1) := by decide +kernel
theorem dX10_findPlan_64 : decode cX10_findPlan 64 = .ok (.invokevirtual 251, 3) := by decide +kernel
theorem dX10_findPlan_67 : decode cX10_findPlan 67 = .ok (.ifCond .ne 16, 3) := by decide +kernel
theorem dX10_findPlan_70 : decode cX10_findPlan 70 = .ok (.aload_n 0, 1) := by decide +kernel
theorem dX10_findPlan_71 : decode cX10_findPlan 71 = .ok (.getfield 93, 3) := by decide +kernel
theorem dX10_findPlan_74 : decode cX10_findPlan 74 = .ok (.iload_n 2, 1) := by decide +kernel
theorem dX10_findPlan_75 : decode cX10_findPlan 75 = .ok (.dup2, 1) := by decide +kernel
theorem dX10_findPlan_76 : decode cX10_findPlan 76 = .ok (.iaload, 1) := by decide +kernel
theorem dX10_findPlan_77 : decode cX10_findPlan 77 = .ok (.iconst 1, 1) := by decide +kernel
theorem dX10_findPlan_78 : decode cX10_findPlan 78 = .ok (.iadd, 1) := by decide +kernel
theorem dX10_findPlan_79 : decode cX10_findPlan 79 = .ok (.iastore, 1) := by decide +kernel
theorem dX10_findPlan_80 : decode cX10_findPlan 80 = .ok (.goto (-37), 3) := by decide +kernel
theorem dX10_findPlan_83 : decode cX10_findPlan 83 = .ok (.aload_n 0, 1) := by decide +kernel
theorem dX10_findPlan_84 : decode cX10_findPlan 84 = .ok (.getfield 93, 3) := by decide +kernel
theorem dX10_findPlan_87 : decode cX10_findPlan 87 = .ok (.iload_n 2, 1) := by decide +kernel
theorem dX10_findPlan_88 : decode cX10_findPlan 88 = .ok (.iaload, 1) := by decide +kernel
theorem dX10_findPlan_89 : decode cX10_findPlan 89 = .ok (.aload_n 0, 1) := by decide +kernel
theorem dX10_findPlan_90 : decode cX10_findPlan 90 = .ok (.getfield 108, 3) := by decide +kernel
theorem dX10_findPlan_93 : decode cX10_findPlan 93 = .ok (.if_icmp .le 9, 3) := by decide +kernel
theorem dX10_findPlan_96 : decode cX10_findPlan 96 = .ok (.iinc 2 (-1), 3) := by decide +kernel
theorem dX10_findPlan_99 : decode cX10_findPlan 99 = .ok (.goto (-70), 3) := by decide +kernel
theorem dX10_findPlan_102 : decode cX10_findPlan 102 = .ok (.iload_n 2, 1) := by decide +kernel
theorem dX10_findPlan_103 : decode cX10_findPlan 103 = .ok (.iload_n 1, 1) := by decide +kernel
theorem dX10_findPlan_104 : decode cX10_findPlan 104 = .ok (.iconst 1, 1) := by decide +kernel
theorem dX10_findPlan_105 : decode cX10_findPlan 105 = .ok (.isub, 1) := by decide +kernel
theorem dX10_findPlan_106 : decode cX10_findPlan 106 = .ok (.if_icmp .ge 16, 3) := by decide +kernel
theorem dX10_findPlan_109 : decode cX10_findPlan 109 = .ok (.iinc 2 1, 3) := by decide +kernel
theorem dX10_findPlan_112 : decode cX10_findPlan 112 = .ok (.aload_n 0, 1) := by decide +kernel
theorem dX10_findPlan_113 : decode cX10_findPlan 113 = .ok (.getfield 93, 3) := by decide +kernel
theorem dX10_findPlan_116 : decode cX10_findPlan 116 = .ok (.iload_n 2, 1) := by decide +kernel
theorem dX10_findPlan_117 : decode cX10_findPlan 117 = .ok (.iconst (-1), 1) := by decide +kernel
theorem dX10_findPlan_118 : decode cX10_findPlan 118 = .ok (.iastore, 1) := by decide +kernel
theorem dX10_findPlan_119 : decode cX10_findPlan 119 = .ok (.goto (-90), 3) := by decide +kernel
theorem dX10_findPlan_122 : decode cX10_findPlan 122 = .ok (.aload_n 0, 1) := by decide +kernel
theorem dX10_findPlan_123 : decode cX10_findPlan 123 = .ok (.iload_n 1, 1) := by decide +kernel
theorem dX10_findPlan_124 : decode cX10_findPlan 124 = .ok (.invokevirtual 254, 3) := by decide +kernel
theorem dX10_findPlan_127 : decode cX10_findPlan 127 = .ok (.goto (-98), 3) := by decide +kernel
theorem dX10_findPlan_130 : decode cX10_findPlan 130 = .ok (.return_, 1) := by decide +kernel
theorem dX10_offer_0 : decode cX10_offer 0 = .ok (.iconst 0, 1) := by decide +kernel
theorem dX10_offer_1 : decode cX10_offer 1 = .ok (.istore_n 2, 1) := by decide +kernel
theorem dX10_offer_2 : decode cX10_offer 2 = .ok (.iconst 0, 1) := by decide +kernel
theorem dX10_offer_3 : decode cX10_offer 3 = .ok (.istore_n 3, 1) := by decide +kernel
theorem dX10_offer_4 : decode cX10_offer 4 = .ok (.iload_n 3, 1) := by decide +kernel
theorem dX10_offer_5 : decode cX10_offer 5 = .ok (.iload_n 1, 1) := by decide +kernel
theorem dX10_offer_6 : decode cX10_offer 6 = .ok (.if_icmp .ge 39, 3) := by decide +kernel
theorem dX10_offer_9 : decode cX10_offer 9 = .ok (.iload_n 2, 1) := by decide +kernel
theorem dX10_offer_10 : decode cX10_offer 10 = .ok (.aload_n 0, 1) := by decide +kernel
theorem dX10_offer_11 : decode cX10_offer 11 = .ok (.getfield 93, 3) := by decide +kernel
theorem dX10_offer_14 : decode cX10_offer 14 = .ok (.iload_n 3, 1) := by decide +kernel
theorem dX10_offer_15 : decode cX10_offer 15 = .ok (.iaload, 1) := by decide +kernel
theorem dX10_offer_16 : decode cX10_offer 16 = .ok (.aload_n 0, 1) := by decide +kernel
theorem dX10_offer_17 : decode cX10_offer 17 = .ok (.getfield 108, 3) := by decide +kernel
theorem dX10_offer_20 : decode cX10_offer 20 = .ok (.if_icmp .ne 7, 3) := by decide +kernel
theorem dX10_offer_23 : decode cX10_offer 23 = .ok (.iconst 0, 1) := by decide +kernel
theorem dX10_offer_24 : decode cX10_offer 24 = .ok (.goto 13, 3) := by decide +kernel
theorem dX10_offer_27 : decode cX10_offer 27 = .ok (.aload_n 0, 1) := by decide +kernel
theorem dX10_offer_28 : decode cX10_offer 28 = .ok (.iload_n 3, 1) := by decide +kernel
theorem dX10_offer_29 : decode cX10_offer 29 = .ok (.aload_n 0, 1) := by decide +kernel
theorem dX10_offer_30 : decode cX10_offer 30 = .ok (.iload_n 3, 1) := by decide +kernel
theorem dX10_offer_31 : decode cX10_offer 31 = .ok (.invokevirtual 159, 3) := by decide +kernel
theorem dX10_offer_34 : decode cX10_offer 34 = .ok (.invokevirtual 204, 3) := by decide +kernel
theorem dX10_offer_37 : decode cX10_offer 37 = .ok (.iadd, 1) := by decide +kernel
theorem dX10_offer_38 : decode cX10_offer 38 = .ok (.istore_n 2, 1) := by decide +kernel
theorem dX10_offer_39 : decode cX10_offer 39 = .ok (.iinc 3 1, 3) := by decide +kernel
theorem dX10_offer_42 : decode cX10_offer 42 = .ok (.goto (-38), 3) := by decide +kernel
theorem dX10_offer_45 : decode cX10_offer 45 = .ok (.iload_n 2, 1) := by decide +kernel
theorem dX10_offer_46 : decode cX10_offer 46 = .ok (.aload_n 0, 1) := by decide +kernel
theorem dX10_offer_47 : decode cX10_offer 47 = .ok (.getfield 248, 3) := by decide +kernel
theorem dX10_offer_50 : decode cX10_offer 50 = .ok (.if_icmp .le 51, 3) := by decide +kernel
theorem dX10_offer_53 : decode cX10_offer 53 = .ok (.aload_n 0, 1) := by decide +kernel
theorem dX10_offer_54 : decode cX10_offer 54 = .ok (.iload_n 2, 1) := by decide +kernel
theorem dX10_offer_55 : decode cX10_offer 55 = .ok (.putfield 248, 3) := by decide +kernel
theorem dX10_offer_58 : decode cX10_offer 58 = .ok (.iconst 0, 1) := by decide +kernel
theorem dX10_offer_59 : decode cX10_offer 59 = .ok (.istore_n 3, 1) := by decide +kernel
theorem dX10_offer_60 : decode cX10_offer 60 = .ok (.iload_n 3, 1) := by decide +kernel
theorem dX10_offer_61 : decode cX10_offer 61 = .ok (.iload_n 1, 1) := by decide +kernel
theorem dX10_offer_62 : decode cX10_offer 62 = .ok (.if_icmp .ge 39, 3) := by decide +kernel
theorem dX10_offer_65 : decode cX10_offer 65 = .ok (.aload_n 0, 1) := by decide +kernel
theorem dX10_offer_66 : decode cX10_offer 66 = .ok (.getfield 96, 3) := by decide +kernel
theorem dX10_offer_69 : decode cX10_offer 69 = .ok (.iload_n 3, 1) := by decide +kernel
theorem dX10_offer_70 : decode cX10_offer 70 = .ok (.aload_n 0, 1) := by decide +kernel
theorem dX10_offer_71 : decode cX10_offer 71 = .ok (.getfield 93, 3) := by decide +kernel
theorem dX10_offer_74 : decode cX10_offer 74 = .ok (.iload_n 3, 1) := by decide +kernel
theorem dX10_offer_75 : decode cX10_offer 75 = .ok (.iaload, 1) := by decide +kernel
theorem dX10_offer_76 : decode cX10_offer 76 = .ok (.aload_n 0, 1) := by decide +kernel
theorem dX10_offer_77 : decode cX10_offer 77 = .ok (.getfield 108, 3) := by decide +kernel
theorem dX10_offer_80 : decode cX10_offer 80 = .ok (.if_icmp .ne 8, 3) := by decide +kernel
theorem dX10_offer_83 : decode cX10_offer 83 = .ok (.bipush (-9), 2) := by decide +kernel
theorem dX10_offer_85 : decode cX10_offer 85 = .ok (.goto 9, 3) := by decide +kernel
theorem dX10_offer_88 : decode cX10_offer 88 = .ok (.aload_n 0, 1) := by decide +kernel
theorem dX10_offer_89 : decode cX10_offer 89 = .ok (.getfield 93, 3) := by decide +kernel
theorem dX10_offer_92 : decode cX10_offer 92 = .ok (.iload_n 3, 1) := by decide +kernel
theorem dX10_offer_93 : decode cX10_offer 93 = .ok (.iaload, 1) := by decide +kernel
theorem dX10_offer_94 : decode cX10_offer 94 = .ok (.iastore, 1) := by decide +kernel
theorem dX10_offer_95 : decode cX10_offer 95 = .ok (.iinc 3 1, 3) := by decide +kernel
theorem dX10_offer_98 : decode cX10_offer 98 = .ok (.goto (-38), 3) := by decide +kernel
theorem dX10_offer_101 : decode cX10_offer 101 = .ok (.return_, 1) := by decide +kernel
theorem dX10_plan_0 : decode cX10_plan 0 = .ok (.iload_n 1, 1) := by decide +kernel
theorem dX10_plan_1 : decode cX10_plan 1 = .ok (.iconst (-1), 1) := by decide +kernel
theorem dX10_plan_2 : decode cX10_plan 2 = .ok (.aload_n 0, 1) := by decide +kernel
theorem dX10_plan_3 : decode cX10_plan 3 = .ok (.invokevirtual 245, 3) := by decide +kernel
theorem dX10_plan_6 : decode cX10_plan 6 = .ok (.iconst 1, 1) := by decide +kernel
theorem dX10_plan_7 : decode cX10_plan 7 = .ok (.isub, 1) := by decide +kernel
theorem dX10_plan_8 : decode cX10_plan 8 = .ok (.invokestatic 104, 3) := by decide +kernel
theorem dX10_plan_11 : decode cX10_plan 11 = .ok (.ifCond .ne 5, 3) := by decide +kernel
theorem dX10_plan_14 : decode cX10_plan 14 = .ok (.iconst (-1), 1) := by decide +kernel
theorem dX10_plan_15 : decode cX10_plan 15 = .ok (.ireturn, 1) := by decide +kernel
theorem dX10_plan_16 : decode cX10_plan 16 = .ok (.aload_n 0, 1) := by decide +kernel
theorem dX10_plan_17 : decode cX10_plan 17 = .ok (.invokevirtual 152, 3) := by decide +kernel
theorem dX10_plan_20 : decode cX10_plan 20 = .ok (.ifCond .ne 6, 3) := by decide +kernel
theorem dX10_plan_23 : decode cX10_plan 23 = .ok (.bipush (-3), 2) := by decide +kernel
theorem dX10_plan_25 : decode cX10_plan 25 = .ok (.ireturn, 1) := by decide +kernel
theorem dX10_plan_26 : decode cX10_plan 26 = .ok (.aload_n 0, 1) := by decide +kernel
theorem dX10_plan_27 : decode cX10_plan 27 = .ok (.invokevirtual 257, 3) := by decide +kernel
theorem dX10_plan_30 : decode cX10_plan 30 = .ok (.iload_n 1, 1) := by decide +kernel
theorem dX10_plan_31 : decode cX10_plan 31 = .ok (.ifCond .ge 10, 3) := by decide +kernel
theorem dX10_plan_34 : decode cX10_plan 34 = .ok (.aload_n 0, 1) := by decide +kernel
theorem dX10_plan_35 : decode cX10_plan 35 = .ok (.getfield 248, 3) := by decide +kernel
theorem dX10_plan_38 : decode cX10_plan 38 = .ok (.goto 9, 3) := by decide +kernel
theorem dX10_plan_41 : decode cX10_plan 41 = .ok (.aload_n 0, 1) := by decide +kernel
theorem dX10_plan_42 : decode cX10_plan 42 = .ok (.getfield 96, 3) := by decide +kernel
theorem dX10_plan_45 : decode cX10_plan 45 = .ok (.iload_n 1, 1) := by decide +kernel
theorem dX10_plan_46 : decode cX10_plan 46 = .ok (.iaload, 1) := by decide +kernel
theorem dX10_plan_47 : decode cX10_plan 47 = .ok (.ireturn, 1) := by decide +kernel
theorem dX10_coinBy_0 : decode cX10_coinBy 0 = .ok (.aload_n 0, 1) := by decide +kernel
theorem dX10_coinBy_1 : decode cX10_coinBy 1 = .ok (.invokevirtual 233, 3) := by decide +kernel
theorem dX10_coinBy_4 : decode cX10_coinBy 4 = .ok (.aload_n 0, 1) := by decide +kernel
theorem dX10_coinBy_5 : decode cX10_coinBy 5 = .ok (.iload_n 1, 1) := by decide +kernel
theorem dX10_coinBy_6 : decode cX10_coinBy 6 = .ok (.putfield 165, 3) := by decide +kernel
theorem dX10_coinBy_9 : decode cX10_coinBy 9 = .ok (.aload_n 0, 1) := by decide +kernel
theorem dX10_coinBy_10 : decode cX10_coinBy 10 = .ok (.iload_n 2, 1) := by decide +kernel
theorem dX10_coinBy_11 : decode cX10_coinBy 11 = .ok (.putfield 168, 3) := by decide +kernel
theorem dX10_coinBy_14 : decode cX10_coinBy 14 = .ok (.aload_n 0, 1) := by decide +kernel
theorem dX10_coinBy_15 : decode cX10_coinBy 15 = .ok (.invokevirtual 236, 3) := by decide +kernel
theorem dX10_coinBy_18 : decode cX10_coinBy 18 = .ok (.aload_n 0, 1) := by decide +kernel
theorem dX10_coinBy_19 : decode cX10_coinBy 19 = .ok (.invokevirtual 239, 3) := by decide +kernel
theorem dX10_coinBy_22 : decode cX10_coinBy 22 = .ok (.ireturn, 1) := by decide +kernel
theorem dX10_bestRule_0 : decode cX10_bestRule 0 = .ok (.iload_n 1, 1) := by decide +kernel
theorem dX10_bestRule_1 : decode cX10_bestRule 1 = .ok (.iconst 0, 1) := by decide +kernel
theorem dX10_bestRule_2 : decode cX10_bestRule 2 = .ok (.iconst 1, 1) := by decide +kernel
theorem dX10_bestRule_3 : decode cX10_bestRule 3 = .ok (.invokestatic 104, 3) := by decide +kernel
theorem dX10_bestRule_6 : decode cX10_bestRule 6 = .ok (.ifCond .ne 6, 3) := by decide +kernel
theorem dX10_bestRule_9 : decode cX10_bestRule 9 = .ok (.bipush (-2), 2) := by decide +kernel
theorem dX10_bestRule_11 : decode cX10_bestRule 11 = .ok (.ireturn, 1) := by decide +kernel
theorem dX10_bestRule_12 : decode cX10_bestRule 12 = .ok (.aload_n 0, 1) := by decide +kernel
theorem dX10_bestRule_13 : decode cX10_bestRule 13 = .ok (.invokevirtual 152, 3) := by decide +kernel
theorem dX10_bestRule_16 : decode cX10_bestRule 16 = .ok (.ifCond .ne 6, 3) := by decide +kernel
theorem dX10_bestRule_19 : decode cX10_bestRule 19 = .ok (.bipush (-3), 2) := by decide +kernel
theorem dX10_bestRule_21 : decode cX10_bestRule 21 = .ok (.ireturn, 1) := by decide +kernel
theorem dX10_bestRule_22 : decode cX10_bestRule 22 = .ok (.iconst 0, 1) := by decide +kernel
theorem dX10_bestRule_23 : decode cX10_bestRule 23 = .ok (.istore_n 2, 1) := by decide +kernel
theorem dX10_bestRule_24 : decode cX10_bestRule 24 = .ok (.iconst (-1), 1) := by decide +kernel
theorem dX10_bestRule_25 : decode cX10_bestRule 25 = .ok (.istore_n 3, 1) := by decide +kernel
theorem dX10_bestRule_26 : decode cX10_bestRule 26 = .ok (.iconst 0, 1) := by decide +kernel
theorem dX10_bestRule_27 : decode cX10_bestRule 27 = .ok (.istore 4, 2) := by decide +kernel
theorem dX10_bestRule_29 : decode cX10_bestRule 29 = .ok (.iload 4, 2) := by decide +kernel
theorem dX10_bestRule_31 : decode cX10_bestRule 31 = .ok (.iconst 3, 1) := by decide +kernel
theorem dX10_bestRule_32 : decode cX10_bestRule 32 = .ok (.if_icmp .ge 33, 3) := by decide +kernel
theorem dX10_bestRule_35 : decode cX10_bestRule 35 = .ok (.aload_n 0, 1) := by decide +kernel
theorem dX10_bestRule_36 : decode cX10_bestRule 36 = .ok (.iload 4, 2) := by decide +kernel
theorem dX10_bestRule_38 : decode cX10_bestRule 38 = .ok (.aload_n 0, 1) := by decide +kernel
theorem dX10_bestRule_39 : decode cX10_bestRule 39 = .ok (.getfield 141, 3) := by decide +kernel
theorem dX10_bestRule_42 : decode cX10_bestRule 42 = .ok (.invokevirtual 260, 3) := by decide +kernel
theorem dX10_bestRule_45 : decode cX10_bestRule 45 = .ok (.istore 5, 2) := by decide +kernel
theorem dX10_bestRule_47 : decode cX10_bestRule 47 = .ok (.iload 5, 2) := by decide +kernel
theorem dX10_bestRule_49 : decode cX10_bestRule 49 = .ok (.iload_n 3, 1) := by decide +kernel
theorem dX10_bestRule_50 : decode cX10_bestRule 50 = .ok (.if_icmp .le 9, 3) := by decide +kernel
theorem dX10_bestRule_53 : decode cX10_bestRule 53 = .ok (.iload 5, 2) := by decide +kernel
theorem dX10_bestRule_55 : decode cX10_bestRule 55 = .ok (.istore_n 3, 1) := by decide +kernel
theorem dX10_bestRule_56 : decode cX10_bestRule 56 = .ok (.iload 4, 2) := by decide +kernel
theorem dX10_bestRule_58 : decode cX10_bestRule 58 = .ok (.istore_n 2, 1) := by decide +kernel
theorem dX10_bestRule_59 : decode cX10_bestRule 59 = .ok (.iinc 4 1, 3) := by decide +kernel
theorem dX10_bestRule_62 : decode cX10_bestRule 62 = .ok (.goto (-33), 3) := by decide +kernel
theorem dX10_bestRule_65 : decode cX10_bestRule 65 = .ok (.iload_n 1, 1) := by decide +kernel
theorem dX10_bestRule_66 : decode cX10_bestRule 66 = .ok (.ifCond .ne 7, 3) := by decide +kernel
theorem dX10_bestRule_69 : decode cX10_bestRule 69 = .ok (.iload_n 2, 1) := by decide +kernel
theorem dX10_bestRule_70 : decode cX10_bestRule 70 = .ok (.goto 4, 3) := by decide +kernel
theorem dX10_bestRule_73 : decode cX10_bestRule 73 = .ok (.iload_n 3, 1) := by decide +kernel
theorem dX10_bestRule_74 : decode cX10_bestRule 74 = .ok (.ireturn, 1) := by decide +kernel
theorem dX10_waiting_0 : decode cX10_waiting 0 = .ok (.iload_n 1, 1) := by decide +kernel
theorem dX10_waiting_1 : decode cX10_waiting 1 = .ok (.iconst 0, 1) := by decide +kernel
theorem dX10_waiting_2 : decode cX10_waiting 2 = .ok (.iconst 1, 1) := by decide +kernel
theorem dX10_waiting_3 : decode cX10_waiting 3 = .ok (.invokestatic 104, 3) := by decide +kernel
theorem dX10_waiting_6 : decode cX10_waiting 6 = .ok (.ifCond .ne 6, 3) := by decide +kernel
theorem dX10_waiting_9 : decode cX10_waiting 9 = .ok (.bipush (-2), 2) := by decide +kernel
theorem dX10_waiting_11 : decode cX10_waiting 11 = .ok (.ireturn, 1) := by decide +kernel
theorem dX10_waiting_12 : decode cX10_waiting 12 = .ok (.aload_n 0, 1) := by decide +kernel
theorem dX10_waiting_13 : decode cX10_waiting 13 = .ok (.invokevirtual 152, 3) := by decide +kernel
theorem dX10_waiting_16 : decode cX10_waiting 16 = .ok (.ifCond .ne 6, 3) := by decide +kernel
theorem dX10_waiting_19 : decode cX10_waiting 19 = .ok (.bipush (-3), 2) := by decide +kernel
theorem dX10_waiting_21 : decode cX10_waiting 21 = .ok (.ireturn, 1) := by decide +kernel
theorem dX10_waiting_22 : decode cX10_waiting 22 = .ok (.iconst 0, 1) := by decide +kernel
theorem dX10_waiting_23 : decode cX10_waiting 23 = .ok (.istore_n 2, 1) := by decide +kernel
theorem dX10_waiting_24 : decode cX10_waiting 24 = .ok (.iconst (-1), 1) := by decide +kernel
theorem dX10_waiting_25 : decode cX10_waiting 25 = .ok (.istore_n 3, 1) := by decide +kernel
theorem dX10_waiting_26 : decode cX10_waiting 26 = .ok (.iconst 0, 1) := by decide +kernel
theorem dX10_waiting_27 : decode cX10_waiting 27 = .ok (.istore 4, 2) := by decide +kernel
theorem dX10_waiting_29 : decode cX10_waiting 29 = .ok (.iload 4, 2) := by decide +kernel
theorem dX10_waiting_31 : decode cX10_waiting 31 = .ok (.bipush 30, 2) := by decide +kernel
theorem dX10_waiting_33 : decode cX10_waiting 33 = .ok (.if_icmp .gt 33, 3) := by decide +kernel
theorem dX10_waiting_36 : decode cX10_waiting 36 = .ok (.aload_n 0, 1) := by decide +kernel
theorem dX10_waiting_37 : decode cX10_waiting 37 = .ok (.aload_n 0, 1) := by decide +kernel
theorem dX10_waiting_38 : decode cX10_waiting 38 = .ok (.getfield 138, 3) := by decide +kernel
theorem dX10_waiting_41 : decode cX10_waiting 41 = .ok (.iload 4, 2) := by decide +kernel
theorem dX10_waiting_43 : decode cX10_waiting 43 = .ok (.invokevirtual 260, 3) := by decide +kernel
theorem dX10_waiting_46 : decode cX10_waiting 46 = .ok (.istore 5, 2) := by decide +kernel
theorem dX10_waiting_48 : decode cX10_waiting 48 = .ok (.iload 5, 2) := by decide +kernel
theorem dX10_waiting_50 : decode cX10_waiting 50 = .ok (.iload_n 3, 1) := by decide +kernel
theorem dX10_waiting_51 : decode cX10_waiting 51 = .ok (.if_icmp .le 9, 3) := by decide +kernel
theorem dX10_waiting_54 : decode cX10_waiting 54 = .ok (.iload 5, 2) := by decide +kernel
theorem dX10_waiting_56 : decode cX10_waiting 56 = .ok (.istore_n 3, 1) := by decide +kernel
theorem dX10_waiting_57 : decode cX10_waiting 57 = .ok (.iload 4, 2) := by decide +kernel
theorem dX10_waiting_59 : decode cX10_waiting 59 = .ok (.istore_n 2, 1) := by decide +kernel
theorem dX10_waiting_60 : decode cX10_waiting 60 = .ok (.iinc 4 1, 3) := by decide +kernel
theorem dX10_waiting_63 : decode cX10_waiting 63 = .ok (.goto (-34), 3) := by decide +kernel
theorem dX10_waiting_66 : decode cX10_waiting 66 = .ok (.iload_n 1, 1) := by decide +kernel
theorem dX10_waiting_67 : decode cX10_waiting 67 = .ok (.ifCond .ne 7, 3) := by decide +kernel
theorem dX10_waiting_70 : decode cX10_waiting 70 = .ok (.iload_n 2, 1) := by decide +kernel
theorem dX10_waiting_71 : decode cX10_waiting 71 = .ok (.goto 4, 3) := by decide +kernel
theorem dX10_waiting_74 : decode cX10_waiting 74 = .ok (.iload_n 3, 1) := by decide +kernel
theorem dX10_waiting_75 : decode cX10_waiting 75 = .ok (.ireturn, 1) := by decide +kernel
theorem dX10_mix_0 : decode cX10_mix 0 = .ok (.iload_n 1, 1) := by decide +kernel
theorem dX10_mix_1 : decode cX10_mix 1 = .ok (.iconst 2, 1) := by decide +kernel
theorem dX10_mix_2 : decode cX10_mix 2 = .ok (.bipush 24, 2) := by decide +kernel
theorem dX10_mix_4 : decode cX10_mix 4 = .ok (.invokestatic 104, 3) := by decide +kernel
theorem dX10_mix_7 : decode cX10_mix 7 = .ok (.ifCond .eq 12, 3) := by decide +kernel
theorem dX10_mix_10 : decode cX10_mix 10 = .ok (.iload_n 2, 1) := by decide +kernel
theorem dX10_mix_11 : decode cX10_mix 11 = .ok (.iconst 0, 1) := by decide +kernel
theorem dX10_mix_12 : decode cX10_mix 12 = .ok (.iconst 3, 1) := by decide +kernel
theorem dX10_mix_13 : decode cX10_mix 13 = .ok (.invokestatic 104, 3) := by decide +kernel
theorem dX10_mix_16 : decode cX10_mix 16 = .ok (.ifCond .ne 6, 3) := by decide +kernel
theorem dX10_mix_19 : decode cX10_mix 19 = .ok (.bipush (-2), 2) := by decide +kernel
theorem dX10_mix_21 : decode cX10_mix 21 = .ok (.ireturn, 1) := by decide +kernel
theorem dX10_mix_22 : decode cX10_mix 22 = .ok (.aload_n 0, 1) := by decide +kernel
theorem dX10_mix_23 : decode cX10_mix 23 = .ok (.invokevirtual 152, 3) := by decide +kernel
theorem dX10_mix_26 : decode cX10_mix 26 = .ok (.ifCond .ne 6, 3) := by decide +kernel
theorem dX10_mix_29 : decode cX10_mix 29 = .ok (.bipush (-3), 2) := by decide +kernel
theorem dX10_mix_31 : decode cX10_mix 31 = .ok (.ireturn, 1) := by decide +kernel
theorem dX10_mix_32 : decode cX10_mix 32 = .ok (.iconst (-1), 1) := by decide +kernel
theorem dX10_mix_33 : decode cX10_mix 33 = .ok (.istore_n 3, 1) := by decide +kernel
theorem dX10_mix_34 : decode cX10_mix 34 = .ok (.iconst 0, 1) := by decide +kernel
theorem dX10_mix_35 : decode cX10_mix 35 = .ok (.istore 4, 2) := by decide +kernel
theorem dX10_mix_37 : decode cX10_mix 37 = .ok (.iconst 0, 1) := by decide +kernel
theorem dX10_mix_38 : decode cX10_mix 38 = .ok (.istore 5, 2) := by decide +kernel
theorem dX10_mix_40 : decode cX10_mix 40 = .ok (.iload 5, 2) := by decide +kernel
theorem dX10_mix_42 : decode cX10_mix 42 = .ok (.sipush 343, 3) := by decide +kernel
theorem dX10_mix_45 : decode cX10_mix 45 = .ok (.if_icmp .ge 100, 3) := by decide +kernel
theorem dX10_mix_48 : decode cX10_mix 48 = .ok (.iload 5, 2) := by decide +kernel
theorem dX10_mix_50 : decode cX10_mix 50 = .ok (.bipush 49, 2) := by decide +kernel
theorem dX10_mix_52 : decode cX10_mix 52 = .ok (.idiv, 1) := by decide +kernel
theorem dX10_mix_53 : decode cX10_mix 53 = .ok (.istore 6, 2) := by decide +kernel
theorem dX10_mix_55 : decode cX10_mix 55 = .ok (.iload 5, 2) := by decide +kernel
theorem dX10_mix_57 : decode cX10_mix 57 = .ok (.bipush 7, 2) := by decide +kernel
theorem dX10_mix_59 : decode cX10_mix 59 = .ok (.idiv, 1) := by decide +kernel
theorem dX10_mix_60 : decode cX10_mix 60 = .ok (.bipush 7, 2) := by decide +kernel
theorem dX10_mix_62 : decode cX10_mix 62 = .ok (.irem, 1) := by decide +kernel
theorem dX10_mix_63 : decode cX10_mix 63 = .ok (.istore 7, 2) := by decide +kernel
theorem dX10_mix_65 : decode cX10_mix 65 = .ok (.iload 5, 2) := by decide +kernel
theorem dX10_mix_67 : decode cX10_mix 67 = .ok (.bipush 7, 2) := by decide +kernel
theorem dX10_mix_69 : decode cX10_mix 69 = .ok (.irem, 1) := by decide +kernel
theorem dX10_mix_70 : decode cX10_mix 70 = .ok (.istore 8, 2) := by decide +kernel
theorem dX10_mix_72 : decode cX10_mix 72 = .ok (.iload 6, 2) := by decide +kernel
theorem dX10_mix_74 : decode cX10_mix 74 = .ok (.iload 7, 2) := by decide +kernel
theorem dX10_mix_76 : decode cX10_mix 76 = .ok (.iadd, 1) := by decide +kernel
theorem dX10_mix_77 : decode cX10_mix 77 = .ok (.iload 8, 2) := by decide +kernel
theorem dX10_mix_79 : decode cX10_mix 79 = .ok (.iadd, 1) := by decide +kernel
theorem dX10_mix_80 : decode cX10_mix 80 = .ok (.bipush 6, 2) := by decide +kernel
theorem dX10_mix_82 : decode cX10_mix 82 = .ok (.if_icmp .gt 57, 3) := by decide +kernel
theorem dX10_mix_85 : decode cX10_mix 85 = .ok (.iconst 2, 1) := by decide +kernel
theorem dX10_mix_86 : decode cX10_mix 86 = .ok (.iload 6, 2) := by decide +kernel
theorem dX10_mix_88 : decode cX10_mix 88 = .ok (.imul, 1) := by decide +kernel
theorem dX10_mix_89 : decode cX10_mix 89 = .ok (.iconst 4, 1) := by decide +kernel
theorem dX10_mix_90 : decode cX10_mix 90 = .ok (.iload 7, 2) := by decide +kernel
theorem dX10_mix_92 : decode cX10_mix 92 = .ok (.imul, 1) := by decide +kernel
theorem dX10_mix_93 : decode cX10_mix 93 = .ok (.iadd, 1) := by decide +kernel
theorem dX10_mix_94 : decode cX10_mix 94 = .ok (.bipush 6, 2) := by decide +kernel
theorem dX10_mix_96 : decode cX10_mix 96 = .ok (.iload 8, 2) := by decide +kernel
theorem dX10_mix_98 : decode cX10_mix 98 = .ok (.imul, 1) := by decide +kernel
theorem dX10_mix_99 : decode cX10_mix 99 = .ok (.iadd, 1) := by decide +kernel
theorem dX10_mix_100 : decode cX10_mix 100 = .ok (.iload_n 1, 1) := by decide +kernel
theorem dX10_mix_101 : decode cX10_mix 101 = .ok (.if_icmp .gt 38, 3) := by decide +kernel
theorem dX10_mix_104 : decode cX10_mix 104 = .ok (.aload_n 0, 1) := by decide +kernel
theorem dX10_mix_105 : decode cX10_mix 105 = .ok (.invokevirtual 233, 3) := by decide +kernel
theorem dX10_mix_108 : decode cX10_mix 108 = .ok (.aload_n 0, 1) := by decide +kernel
theorem dX10_mix_109 : decode cX10_mix 109 = .ok (.iload 6, 2) := by decide +kernel
theorem dX10_mix_111 : decode cX10_mix 111 = .ok (.iload 7, 2) := by decide +kernel
theorem dX10_mix_113 : decode cX10_mix 113 = .ok (.iload 8, 2) := by decide +kernel
theorem dX10_mix_115 : decode cX10_mix 115 = .ok (.invokevirtual 263, 3) := by decide +kernel
theorem dX10_mix_118 : decode cX10_mix 118 = .ok (.aload_n 0, 1) := by decide +kernel
theorem dX10_mix_119 : decode cX10_mix 119 = .ok (.invokevirtual 236, 3) := by decide +kernel
theorem dX10_mix_122 : decode cX10_mix 122 = .ok (.aload_n 0, 1) := by decide +kernel
theorem dX10_mix_123 : decode cX10_mix 123 = .ok (.invokevirtual 239, 3) := by decide +kernel
theorem dX10_mix_126 : decode cX10_mix 126 = .ok (.iload_n 3, 1) := by decide +kernel
theorem dX10_mix_127 : decode cX10_mix 127 = .ok (.if_icmp .le 12, 3) := by decide +kernel
theorem dX10_mix_130 : decode cX10_mix 130 = .ok (.aload_n 0, 1) := by decide +kernel
theorem dX10_mix_131 : decode cX10_mix 131 = .ok (.invokevirtual 239, 3) := by decide +kernel
theorem dX10_mix_134 : decode cX10_mix 134 = .ok (.istore_n 3, 1) := by decide +kernel
theorem dX10_mix_135 : decode cX10_mix 135 = .ok (.iload 5, 2) := by decide +kernel
theorem dX10_mix_137 : decode cX10_mix 137 = .ok (.istore 4, 2) := by decide +kernel
theorem dX10_mix_139 : decode cX10_mix 139 = .ok (.iinc 5 1, 3) := by decide +kernel
theorem dX10_mix_142 : decode cX10_mix 142 = .ok (.goto (-102), 3) := by decide +kernel
theorem dX10_mix_145 : decode cX10_mix 145 = .ok (.iload_n 2, 1) := by decide +kernel
theorem dX10_mix_146 : decode cX10_mix 146 = .ok (.ifCond .ne 7, 3) := by decide +kernel
theorem dX10_mix_149 : decode cX10_mix 149 = .ok (.iload_n 3, 1) := by decide +kernel
theorem dX10_mix_150 : decode cX10_mix 150 = .ok (.goto 37, 3) := by decide +kernel
theorem dX10_mix_153 : decode cX10_mix 153 = .ok (.iload_n 2, 1) := by decide +kernel
theorem dX10_mix_154 : decode cX10_mix 154 = .ok (.iconst 1, 1) := by decide +kernel
theorem dX10_mix_155 : decode cX10_mix 155 = .ok (.if_icmp .ne 11, 3) := by decide +kernel
theorem dX10_mix_158 : decode cX10_mix 158 = .ok (.iload 4, 2) := by decide +kernel
theorem dX10_mix_160 : decode cX10_mix 160 = .ok (.bipush 49, 2) := by decide +kernel
theorem dX10_mix_162 : decode cX10_mix 162 = .ok (.idiv, 1) := by decide +kernel
theorem dX10_mix_163 : decode cX10_mix 163 = .ok (.goto 24, 3) := by decide +kernel
theorem dX10_mix_166 : decode cX10_mix 166 = .ok (.iload_n 2, 1) := by decide +kernel
theorem dX10_mix_167 : decode cX10_mix 167 = .ok (.iconst 2, 1) := by decide +kernel
theorem dX10_mix_168 : decode cX10_mix 168 = .ok (.if_icmp .ne 14, 3) := by decide +kernel
theorem dX10_mix_171 : decode cX10_mix 171 = .ok (.iload 4, 2) := by decide +kernel
theorem dX10_mix_173 : decode cX10_mix 173 = .ok (.bipush 7, 2) := by decide +kernel
theorem dX10_mix_175 : decode cX10_mix 175 = .ok (.idiv, 1) := by decide +kernel
theorem dX10_mix_176 : decode cX10_mix 176 = .ok (.bipush 7, 2) := by decide +kernel
theorem dX10_mix_178 : decode cX10_mix 178 = .ok (.irem, 1) := by decide +kernel
theorem dX10_mix_179 : decode cX10_mix 179 = .ok (.goto 8, 3) := by decide +kernel
theorem dX10_mix_182 : decode cX10_mix 182 = .ok (.iload 4, 2) := by decide +kernel
theorem dX10_mix_184 : decode cX10_mix 184 = .ok (.bipush 7, 2) := by decide +kernel
theorem dX10_mix_186 : decode cX10_mix 186 = .ok (.irem, 1) := by decide +kernel
theorem dX10_mix_187 : decode cX10_mix 187 = .ok (.ireturn, 1) := by decide +kernel
theorem dX10_layMix_0 : decode cX10_layMix 0 = .ok (.aload_n 0, 1) := by decide +kernel
theorem dX10_layMix_1 : decode cX10_layMix 1 = .ok (.bipush (-9), 2) := by decide +kernel
theorem dX10_layMix_3 : decode cX10_layMix 3 = .ok (.putfield 171, 3) := by decide +kernel
theorem dX10_layMix_6 : decode cX10_layMix 6 = .ok (.aload_n 0, 1) := by decide +kernel
theorem dX10_layMix_7 : decode cX10_layMix 7 = .ok (.iload_n 1, 1) := by decide +kernel
theorem dX10_layMix_8 : decode cX10_layMix 8 = .ok (.iload_n 2, 1) := by decide +kernel
theorem dX10_layMix_9 : decode cX10_layMix 9 = .ok (.iadd, 1) := by decide +kernel
theorem dX10_layMix_10 : decode cX10_layMix 10 = .ok (.iload_n 3, 1) := by decide +kernel
theorem dX10_layMix_11 : decode cX10_layMix 11 = .ok (.iadd, 1) := by decide +kernel
theorem dX10_layMix_12 : decode cX10_layMix 12 = .ok (.putfield 162, 3) := by decide +kernel
theorem dX10_layMix_15 : decode cX10_layMix 15 = .ok (.iconst 0, 1) := by decide +kernel
theorem dX10_layMix_16 : decode cX10_layMix 16 = .ok (.istore 4, 2) := by decide +kernel
theorem dX10_layMix_18 : decode cX10_layMix 18 = .ok (.iload 4, 2) := by decide +kernel
theorem dX10_layMix_20 : decode cX10_layMix 20 = .ok (.aload_n 0, 1) := by decide +kernel
theorem dX10_layMix_21 : decode cX10_layMix 21 = .ok (.getfield 162, 3) := by decide +kernel
theorem dX10_layMix_24 : decode cX10_layMix 24 = .ok (.if_icmp .ge 48, 3) := by decide +kernel
theorem dX10_layMix_27 : decode cX10_layMix 27 = .ok (.aload_n 0, 1) := by decide +kernel
theorem dX10_layMix_28 : decode cX10_layMix 28 = .ok (.getfield 53, 3) := by decide +kernel
theorem dX10_layMix_31 : decode cX10_layMix 31 = .ok (.iload 4, 2) := by decide +kernel
theorem dX10_layMix_33 : decode cX10_layMix 33 = .ok (.iconst 2, 1) := by decide +kernel
theorem dX10_layMix_34 : decode cX10_layMix 34 = .ok (.iastore, 1) := by decide +kernel
theorem dX10_layMix_35 : decode cX10_layMix 35 = .ok (.aload_n 0, 1) := by decide +kernel
theorem dX10_layMix_36 : decode cX10_layMix 36 = .ok (.getfield 56, 3) := by decide +kernel
theorem dX10_layMix_39 : decode cX10_layMix 39 = .ok (.iload 4, 2) := by decide +kernel
theorem dX10_layMix_41 : decode cX10_layMix 41 = .ok (.iload 4, 2) := by decide +kernel
theorem dX10_layMix_43 : decode cX10_layMix 43 = .ok (.iload_n 1, 1) := by decide +kernel
theorem dX10_layMix_44 : decode cX10_layMix 44 = .ok (.if_icmp .ge 7, 3) := by decide +kernel
theorem dX10_layMix_47 : decode cX10_layMix 47 = .ok (.iconst 2, 1) := by decide +kernel
theorem dX10_layMix_48 : decode cX10_layMix 48 = .ok (.goto 17, 3) := by decide +kernel
theorem dX10_layMix_51 : decode cX10_layMix 51 = .ok (.iload 4, 2) := by decide +kernel
theorem dX10_layMix_53 : decode cX10_layMix 53 = .ok (.iload_n 1, 1) := by decide +kernel
theorem dX10_layMix_54 : decode cX10_layMix 54 = .ok (.iload_n 2, 1) := by decide +kernel
theorem dX10_layMix_55 : decode cX10_layMix 55 = .ok (.iadd, 1) := by decide +kernel
theorem dX10_layMix_56 : decode cX10_layMix 56 = .ok (.if_icmp .ge 7, 3) := by decide +kernel
theorem dX10_layMix_59 : decode cX10_layMix 59 = .ok (.iconst 4, 1) := by decide +kernel
theorem dX10_layMix_60 : decode cX10_layMix 60 = .ok (.goto 5, 3) := by decide +kernel
theorem dX10_layMix_63 : decode cX10_layMix 63 = .ok (.bipush 6, 2) := by decide +kernel
theorem dX10_layMix_65 : decode cX10_layMix 65 = .ok (.iastore, 1) := by decide +kernel
theorem dX10_layMix_66 : decode cX10_layMix 66 = .ok (.iinc 4 1, 3) := by decide +kernel
theorem dX10_layMix_69 : decode cX10_layMix 69 = .ok (.goto (-51), 3) := by decide +kernel
theorem dX10_layMix_72 : decode cX10_layMix 72 = .ok (.return_, 1) := by decide +kernel
theorem dX10_till_0 : decode cX10_till 0 = .ok (.iload_n 2, 1) := by decide +kernel
theorem dX10_till_1 : decode cX10_till 1 = .ok (.iconst 0, 1) := by decide +kernel
theorem dX10_till_2 : decode cX10_till 2 = .ok (.iconst 2, 1) := by decide +kernel
theorem dX10_till_3 : decode cX10_till 3 = .ok (.invokestatic 104, 3) := by decide +kernel
theorem dX10_till_6 : decode cX10_till 6 = .ok (.ifCond .ne 6, 3) := by decide +kernel
theorem dX10_till_9 : decode cX10_till 9 = .ok (.bipush (-2), 2) := by decide +kernel
theorem dX10_till_11 : decode cX10_till 11 = .ok (.ireturn, 1) := by decide +kernel
theorem dX10_till_12 : decode cX10_till 12 = .ok (.aload_n 0, 1) := by decide +kernel
theorem dX10_till_13 : decode cX10_till 13 = .ok (.invokevirtual 152, 3) := by decide +kernel
theorem dX10_till_16 : decode cX10_till 16 = .ok (.ifCond .ne 6, 3) := by decide +kernel
theorem dX10_till_19 : decode cX10_till 19 = .ok (.bipush (-3), 2) := by decide +kernel
theorem dX10_till_21 : decode cX10_till 21 = .ok (.ireturn, 1) := by decide +kernel
theorem dX10_till_22 : decode cX10_till 22 = .ok (.iconst 0, 1) := by decide +kernel
theorem dX10_till_23 : decode cX10_till 23 = .ok (.istore_n 3, 1) := by decide +kernel
theorem dX10_till_24 : decode cX10_till 24 = .ok (.bipush (-9), 2) := by decide +kernel
theorem dX10_till_26 : decode cX10_till 26 = .ok (.istore 4, 2) := by decide +kernel
theorem dX10_till_28 : decode cX10_till 28 = .ok (.bipush (-9), 2) := by decide +kernel
theorem dX10_till_30 : decode cX10_till 30 = .ok (.istore 5, 2) := by decide +kernel
theorem dX10_till_32 : decode cX10_till 32 = .ok (.iconst 0, 1) := by decide +kernel
theorem dX10_till_33 : decode cX10_till 33 = .ok (.istore 6, 2) := by decide +kernel
theorem dX10_till_35 : decode cX10_till 35 = .ok (.iload 6, 2) := by decide +kernel
theorem dX10_till_37 : decode cX10_till 37 = .ok (.bipush 30, 2) := by decide +kernel
theorem dX10_till_39 : decode cX10_till 39 = .ok (.if_icmp .gt 46, 3) := by decide +kernel
theorem dX10_till_42 : decode cX10_till 42 = .ok (.aload_n 0, 1) := by decide +kernel
theorem dX10_till_43 : decode cX10_till 43 = .ok (.aload_n 0, 1) := by decide +kernel
theorem dX10_till_44 : decode cX10_till 44 = .ok (.getfield 138, 3) := by decide +kernel
theorem dX10_till_47 : decode cX10_till 47 = .ok (.iload 6, 2) := by decide +kernel
theorem dX10_till_49 : decode cX10_till 49 = .ok (.invokevirtual 260, 3) := by decide +kernel
theorem dX10_till_52 : decode cX10_till 52 = .ok (.iload_n 1, 1) := by decide +kernel
theorem dX10_till_53 : decode cX10_till 53 = .ok (.if_icmp .ne 26, 3) := by decide +kernel
theorem dX10_till_56 : decode cX10_till 56 = .ok (.iinc 3 1, 3) := by decide +kernel
theorem dX10_till_59 : decode cX10_till 59 = .ok (.iload 4, 2) := by decide +kernel
theorem dX10_till_61 : decode cX10_till 61 = .ok (.bipush (-9), 2) := by decide +kernel
theorem dX10_till_63 : decode cX10_till 63 = .ok (.if_icmp .ne 8, 3) := by decide +kernel
theorem dX10_till_66 : decode cX10_till 66 = .ok (.iload 6, 2) := by decide +kernel
theorem dX10_till_68 : decode cX10_till 68 = .ok (.goto 5, 3) := by decide +kernel
theorem dX10_till_71 : decode cX10_till 71 = .ok (.iload 4, 2) := by decide +kernel
theorem dX10_till_73 : decode cX10_till 73 = .ok (.istore 4, 2) := by decide +kernel
theorem dX10_till_75 : decode cX10_till 75 = .ok (.iload 6, 2) := by decide +kernel
theorem dX10_till_77 : decode cX10_till 77 = .ok (.istore 5, 2) := by decide +kernel
theorem dX10_till_79 : decode cX10_till 79 = .ok (.iinc 6 1, 3) := by decide +kernel
theorem dX10_till_82 : decode cX10_till 82 = .ok (.goto (-47), 3) := by decide +kernel
theorem dX10_till_85 : decode cX10_till 85 = .ok (.iload_n 2, 1) := by decide +kernel
theorem dX10_till_86 : decode cX10_till 86 = .ok (.ifCond .ne 7, 3) := by decide +kernel
theorem dX10_till_89 : decode cX10_till 89 = .ok (.iload_n 3, 1) := by decide +kernel
theorem dX10_till_90 : decode cX10_till 90 = .ok (.goto 15, 3) := by decide +kernel
theorem dX10_till_93 : decode cX10_till 93 = .ok (.iload_n 2, 1) := by decide +kernel
theorem dX10_till_94 : decode cX10_till 94 = .ok (.iconst 1, 1) := by decide +kernel
theorem dX10_till_95 : decode cX10_till 95 = .ok (.if_icmp .ne 8, 3) := by decide +kernel
theorem dX10_till_98 : decode cX10_till 98 = .ok (.iload 4, 2) := by decide +kernel
theorem dX10_till_100 : decode cX10_till 100 = .ok (.goto 5, 3) := by decide +kernel
theorem dX10_till_103 : decode cX10_till 103 = .ok (.iload 5, 2) := by decide +kernel
theorem dX10_till_105 : decode cX10_till 105 = .ok (.ireturn, 1) := by decide +kernel
theorem dX10_awaited_0 : decode cX10_awaited 0 = .ok (.lconst 0, 1) := by decide +kernel
theorem dX10_awaited_1 : decode cX10_awaited 1 = .ok (.lstore 5, 2) := by decide +kernel
theorem dX10_awaited_3 : decode cX10_awaited 3 = .ok (.iconst 0, 1) := by decide +kernel
theorem dX10_awaited_4 : decode cX10_awaited 4 = .ok (.istore 7, 2) := by decide +kernel
theorem dX10_awaited_6 : decode cX10_awaited 6 = .ok (.iload 7, 2) := by decide +kernel
theorem dX10_awaited_8 : decode cX10_awaited 8 = .ok (.iconst 1, 1) := by decide +kernel
theorem dX10_awaited_9 : decode cX10_awaited 9 = .ok (.iload_n 0, 1) := by decide +kernel
theorem dX10_awaited_10 : decode cX10_awaited 10 = .ok (.ishl, 1) := by decide +kernel
theorem dX10_awaited_11 : decode cX10_awaited 11 = .ok (.if_icmp .ge 116, 3) := by decide +kernel
theorem dX10_awaited_14 : decode cX10_awaited 14 = .ok (.lconst 1, 1) := by decide +kernel
theorem dX10_awaited_15 : decode cX10_awaited 15 = .ok (.lstore 8, 2) := by decide +kernel
theorem dX10_awaited_17 : decode cX10_awaited 17 = .ok (.iconst 0, 1) := by decide +kernel
theorem dX10_awaited_18 : decode cX10_awaited 18 = .ok (.istore 10, 2) := by decide +kernel
theorem dX10_awaited_20 : decode cX10_awaited 20 = .ok (.iconst 0, 1) := by decide +kernel
theorem dX10_awaited_21 : decode cX10_awaited 21 = .ok (.istore 11, 2) := by decide +kernel
theorem dX10_awaited_23 : decode cX10_awaited 23 = .ok (.iload 11, 2) := by decide +kernel
theorem dX10_awaited_25 : decode cX10_awaited 25 = .ok (.iload_n 0, 1) := by decide +kernel
theorem dX10_awaited_26 : decode cX10_awaited 26 = .ok (.if_icmp .ge 62, 3) := by decide +kernel
theorem dX10_awaited_29 : decode cX10_awaited 29 = .ok (.iload 7, 2) := by decide +kernel
theorem dX10_awaited_31 : decode cX10_awaited 31 = .ok (.iload 11, 2) := by decide +kernel
theorem dX10_awaited_33 : decode cX10_awaited 33 = .ok (.ishr, 1) := by decide +kernel
theorem dX10_awaited_34 : decode cX10_awaited 34 = .ok (.iconst 1, 1) := by decide +kernel
theorem dX10_awaited_35 : decode cX10_awaited 35 = .ok (.iand, 1) := by decide +kernel
theorem dX10_awaited_36 : decode cX10_awaited 36 = .ok (.iconst 1, 1) := by decide +kernel
theorem dX10_awaited_37 : decode cX10_awaited 37 = .ok (.if_icmp .ne 7, 3) := by decide +kernel
theorem dX10_awaited_40 : decode cX10_awaited 40 = .ok (.iconst 1, 1) := by decide +kernel
theorem dX10_awaited_41 : decode cX10_awaited 41 = .ok (.goto 4, 3) := by decide +kernel
theorem dX10_awaited_44 : decode cX10_awaited 44 = .ok (.iconst 0, 1) := by decide +kernel
theorem dX10_awaited_45 : decode cX10_awaited 45 = .ok (.istore 12, 2) := by decide +kernel
theorem dX10_awaited_47 : decode cX10_awaited 47 = .ok (.iload 10, 2) := by decide +kernel
theorem dX10_awaited_49 : decode cX10_awaited 49 = .ok (.iload 12, 2) := by decide +kernel
theorem dX10_awaited_51 : decode cX10_awaited 51 = .ok (.ifCond .eq 7, 3) := by decide +kernel
theorem dX10_awaited_54 : decode cX10_awaited 54 = .ok (.iconst 1, 1) := by decide +kernel
theorem dX10_awaited_55 : decode cX10_awaited 55 = .ok (.goto 4, 3) := by decide +kernel
theorem dX10_awaited_58 : decode cX10_awaited 58 = .ok (.iconst 0, 1) := by decide +kernel
theorem dX10_awaited_59 : decode cX10_awaited 59 = .ok (.iadd, 1) := by decide +kernel
theorem dX10_awaited_60 : decode cX10_awaited 60 = .ok (.istore 10, 2) := by decide +kernel
theorem dX10_awaited_62 : decode cX10_awaited 62 = .ok (.lload 8, 2) := by decide +kernel
theorem dX10_awaited_64 : decode cX10_awaited 64 = .ok (.iload 12, 2) := by decide +kernel
theorem dX10_awaited_66 : decode cX10_awaited 66 = .ok (.ifCond .eq 8, 3) := by decide +kernel
theorem dX10_awaited_69 : decode cX10_awaited 69 = .ok (.iload_n 1, 1) := by decide +kernel
theorem dX10_awaited_70 : decode cX10_awaited 70 = .ok (.i2l, 1) := by decide +kernel
theorem dX10_awaited_71 : decode cX10_awaited 71 = .ok (.goto 8, 3) := by decide +kernel
theorem dX10_awaited_74 : decode cX10_awaited 74 = .ok (.bipush 100, 2) := by decide +kernel
theorem dX10_awaited_76 : decode cX10_awaited 76 = .ok (.iload_n 1, 1) := by decide +kernel
theorem dX10_awaited_77 : decode cX10_awaited 77 = .ok (.isub, 1) := by decide +kernel
theorem dX10_awaited_78 : decode cX10_awaited 78 = .ok (.i2l, 1) := by decide +kernel
theorem dX10_awaited_79 : decode cX10_awaited 79 = .ok (.lmul, 1) := by decide +kernel
theorem dX10_awaited_80 : decode cX10_awaited 80 = .ok (.lstore 8, 2) := by decide +kernel
theorem dX10_awaited_82 : decode cX10_awaited 82 = .ok (.iinc 11 1, 3) := by decide +kernel
theorem dX10_awaited_85 : decode cX10_awaited 85 = .ok (.goto (-62), 3) := by decide +kernel
theorem dX10_awaited_88 : decode cX10_awaited 88 = .ok (.lload 5, 2) := by decide +kernel
theorem dX10_awaited_90 : decode cX10_awaited 90 = .ok (.lload 8, 2) := by decide +kernel
theorem dX10_awaited_92 : decode cX10_awaited 92 = .ok (.iload 10, 2) := by decide +kernel
theorem dX10_awaited_94 : decode cX10_awaited 94 = .ok (.iload_n 2, 1) := by decide +kernel
theorem dX10_awaited_95 : decode cX10_awaited 95 = .ok (.if_icmp .le 17, 3) := by decide +kernel
theorem dX10_awaited_98 : decode cX10_awaited 98 = .ok (.iload_n 3, 1) := by decide +kernel
theorem dX10_awaited_99 : decode cX10_awaited 99 = .ok (.iload_n 2, 1) := by decide +kernel
theorem dX10_awaited_100 : decode cX10_awaited 100 = .ok (.imul, 1) := by decide +kernel
theorem dX10_awaited_101 : decode cX10_awaited 101 = .ok (.iload 4, 2) := by decide +kernel
theorem dX10_awaited_103 : decode cX10_awaited 103 = .ok (.iload 10, 2) := by decide +kernel
theorem dX10_awaited_105 : decode cX10_awaited 105 = .ok (.iload_n 2, 1) := by decide +kernel
theorem dX10_awaited_106 : decode cX10_awaited 106 = .ok (.isub, 1) := by decide +kernel
theorem dX10_awaited_107 : decode cX10_awaited 107 = .ok (.imul, 1) := by decide +kernel
theorem dX10_awaited_108 : decode cX10_awaited 108 = .ok (.isub, 1) := by decide +kernel
theorem dX10_awaited_109 : decode cX10_awaited 109 = .ok (.goto 7, 3) := by decide +kernel
theorem dX10_awaited_112 : decode cX10_awaited 112 = .ok (.iload_n 3, 1) := by decide +kernel
theorem dX10_awaited_113 : decode cX10_awaited 113 = .ok (.iload 10, 2) := by decide +kernel
theorem dX10_awaited_115 : decode cX10_awaited 115 = .ok (.imul, 1) := by decide +kernel
theorem dX10_awaited_116 : decode cX10_awaited 116 = .ok (.i2l, 1) := by decide +kernel
theorem dX10_awaited_117 : decode cX10_awaited 117 = .ok (.lmul, 1) := by decide +kernel
theorem dX10_awaited_118 : decode cX10_awaited 118 = .ok (.ladd, 1) := by decide +kernel
theorem dX10_awaited_119 : decode cX10_awaited 119 = .ok (.lstore 5, 2) := by decide +kernel
theorem dX10_awaited_121 : decode cX10_awaited 121 = .ok (.iinc 7 1, 3) := by decide +kernel
theorem dX10_awaited_124 : decode cX10_awaited 124 = .ok (.goto (-118), 3) := by decide +kernel
theorem dX10_awaited_127 : decode cX10_awaited 127 = .ok (.lload 5, 2) := by decide +kernel
theorem dX10_awaited_129 : decode cX10_awaited 129 = .ok (.lreturn, 1) := by decide +kernel
theorem dX10_hundreds_0 : decode cX10_hundreds 0 = .ok (.lconst 1, 1) := by decide +kernel
theorem dX10_hundreds_1 : decode cX10_hundreds 1 = .ok (.lstore_n 1, 1) := by decide +kernel
theorem dX10_hundreds_2 : decode cX10_hundreds 2 = .ok (.iconst 0, 1) := by decide +kernel
theorem dX10_hundreds_3 : decode cX10_hundreds 3 = .ok (.istore_n 3, 1) := by decide +kernel
theorem dX10_hundreds_4 : decode cX10_hundreds 4 = .ok (.iload_n 3, 1) := by decide +kernel
theorem dX10_hundreds_5 : decode cX10_hundreds 5 = .ok (.iload_n 0, 1) := by decide +kernel
theorem dX10_hundreds_6 : decode cX10_hundreds 6 = .ok (.if_icmp .ge 15, 3) := by decide +kernel
theorem dX10_hundreds_9 : decode cX10_hundreds 9 = .ok (.lload_n 1, 1) := by decide +kernel
theorem dX10_hundreds_10 : decode cX10_hundreds 10 = .ok (.ldc2_w 267, 3) := by decide +kernel
theorem dX10_hundreds_13 : decode cX10_hundreds 13 = .ok (.lmul, 1) := by decide +kernel
theorem dX10_hundreds_14 : decode cX10_hundreds 14 = .ok (.lstore_n 1, 1) := by decide +kernel
theorem dX10_hundreds_15 : decode cX10_hundreds 15 = .ok (.iinc 3 1, 3) := by decide +kernel
theorem dX10_hundreds_18 : decode cX10_hundreds 18 = .ok (.goto (-14), 3) := by decide +kernel
theorem dX10_hundreds_21 : decode cX10_hundreds 21 = .ok (.lload_n 1, 1) := by decide +kernel
theorem dX10_hundreds_22 : decode cX10_hundreds 22 = .ok (.lreturn, 1) := by decide +kernel
theorem dX10_areNames_0 : decode cX10_areNames 0 = .ok (.iload_n 0, 1) := by decide +kernel
theorem dX10_areNames_1 : decode cX10_areNames 1 = .ok (.iconst 0, 1) := by decide +kernel
theorem dX10_areNames_2 : decode cX10_areNames 2 = .ok (.bipush 100, 2) := by decide +kernel
theorem dX10_areNames_4 : decode cX10_areNames 4 = .ok (.invokestatic 104, 3) := by decide +kernel
theorem dX10_areNames_7 : decode cX10_areNames 7 = .ok (.ifCond .eq 37, 3) := by decide +kernel
theorem dX10_areNames_10 : decode cX10_areNames 10 = .ok (.iload_n 1, 1) := by decide +kernel
theorem dX10_areNames_11 : decode cX10_areNames 11 = .ok (.iconst 0, 1) := by decide +kernel
theorem dX10_areNames_12 : decode cX10_areNames 12 = .ok (.bipush 8, 2) := by decide +kernel
theorem dX10_areNames_14 : decode cX10_areNames 14 = .ok (.invokestatic 104, 3) := by decide +kernel
theorem dX10_areNames_17 : decode cX10_areNames 17 = .ok (.ifCond .eq 27, 3) := by decide +kernel
theorem dX10_areNames_20 : decode cX10_areNames 20 = .ok (.iload_n 2, 1) := by decide +kernel
theorem dX10_areNames_21 : decode cX10_areNames 21 = .ok (.iconst 0, 1) := by decide +kernel
theorem dX10_areNames_22 : decode cX10_areNames 22 = .ok (.bipush 9, 2) := by decide +kernel
theorem dX10_areNames_24 : decode cX10_areNames 24 = .ok (.invokestatic 104, 3) := by decide +kernel
theorem dX10_areNames_27 : decode cX10_areNames 27 = .ok (.ifCond .eq 17, 3) := by decide +kernel
theorem dX10_areNames_30 : decode cX10_areNames 30 = .ok (.iload_n 3, 1) := by decide +kernel
theorem dX10_areNames_31 : decode cX10_areNames 31 = .ok (.iconst 0, 1) := by decide +kernel
theorem dX10_areNames_32 : decode cX10_areNames 32 = .ok (.bipush 9, 2) := by decide +kernel
theorem dX10_areNames_34 : decode cX10_areNames 34 = .ok (.invokestatic 104, 3) := by decide +kernel
theorem dX10_areNames_37 : decode cX10_areNames 37 = .ok (.ifCond .eq 7, 3) := by decide +kernel
theorem dX10_areNames_40 : decode cX10_areNames 40 = .ok (.iconst 1, 1) := by decide +kernel
theorem dX10_areNames_41 : decode cX10_areNames 41 = .ok (.goto 4, 3) := by decide +kernel
theorem dX10_areNames_44 : decode cX10_areNames 44 = .ok (.iconst 0, 1) := by decide +kernel
theorem dX10_areNames_45 : decode cX10_areNames 45 = .ok (.ireturn, 1) := by decide +kernel
theorem dX10_names_0 : decode cX10_names 0 = .ok (.iload_n 1, 1) := by decide +kernel
theorem dX10_names_1 : decode cX10_names 1 = .ok (.iconst 0, 1) := by decide +kernel
theorem dX10_names_2 : decode cX10_names 2 = .ok (.bipush 8, 2) := by decide +kernel
theorem dX10_names_4 : decode cX10_names 4 = .ok (.invokestatic 104, 3) := by decide +kernel
theorem dX10_names_7 : decode cX10_names 7 = .ok (.ifCond .eq 25, 3) := by decide +kernel
theorem dX10_names_10 : decode cX10_names 10 = .ok (.iload_n 2, 1) := by decide +kernel
theorem dX10_names_11 : decode cX10_names 11 = .ok (.iload_n 3, 1) := by decide +kernel
theorem dX10_names_12 : decode cX10_names 12 = .ok (.iload 4, 2) := by decide +kernel
theorem dX10_names_14 : decode cX10_names 14 = .ok (.iload 5, 2) := by decide +kernel
theorem dX10_names_16 : decode cX10_names 16 = .ok (.invokestatic 269, 3) := by decide +kernel
theorem dX10_names_19 : decode cX10_names 19 = .ok (.ifCond .eq 13, 3) := by decide +kernel
theorem dX10_names_22 : decode cX10_names 22 = .ok (.iload 6, 2) := by decide +kernel
theorem dX10_names_24 : decode cX10_names 24 = .ok (.iconst 0, 1) := by decide +kernel
theorem dX10_names_25 : decode cX10_names 25 = .ok (.iconst 1, 1) := by decide +kernel
theorem dX10_names_26 : decode cX10_names 26 = .ok (.invokestatic 104, 3) := by decide +kernel
theorem dX10_names_29 : decode cX10_names 29 = .ok (.ifCond .ne 7, 3) := by decide +kernel
theorem dX10_names_32 : decode cX10_names 32 = .ok (.ldc2_w 102, 3) := by decide +kernel
theorem dX10_names_35 : decode cX10_names 35 = .ok (.lreturn, 1) := by decide +kernel
theorem dX10_names_36 : decode cX10_names 36 = .ok (.iload_n 1, 1) := by decide +kernel
theorem dX10_names_37 : decode cX10_names 37 = .ok (.iload_n 2, 1) := by decide +kernel
theorem dX10_names_38 : decode cX10_names 38 = .ok (.iload_n 3, 1) := by decide +kernel
theorem dX10_names_39 : decode cX10_names 39 = .ok (.iload 4, 2) := by decide +kernel
theorem dX10_names_41 : decode cX10_names 41 = .ok (.iload 5, 2) := by decide +kernel
theorem dX10_names_43 : decode cX10_names 43 = .ok (.invokestatic 273, 3) := by decide +kernel
theorem dX10_names_46 : decode cX10_names 46 = .ok (.iload_n 1, 1) := by decide +kernel
theorem dX10_names_47 : decode cX10_names 47 = .ok (.invokestatic 277, 3) := by decide +kernel
theorem dX10_names_50 : decode cX10_names 50 = .ok (.iload 6, 2) := by decide +kernel
theorem dX10_names_52 : decode cX10_names 52 = .ok (.invokestatic 281, 3) := by decide +kernel
theorem dX10_names_55 : decode cX10_names 55 = .ok (.lreturn, 1) := by decide +kernel
theorem dX10_take_0 : decode cX10_take 0 = .ok (.iload_n 1, 1) := by decide +kernel
theorem dX10_take_1 : decode cX10_take 1 = .ok (.iload_n 2, 1) := by decide +kernel
theorem dX10_take_2 : decode cX10_take 2 = .ok (.iload_n 3, 1) := by decide +kernel
theorem dX10_take_3 : decode cX10_take 3 = .ok (.iload 4, 2) := by decide +kernel
theorem dX10_take_5 : decode cX10_take 5 = .ok (.invokestatic 269, 3) := by decide +kernel
theorem dX10_take_8 : decode cX10_take 8 = .ok (.ifCond .ne 6, 3) := by decide +kernel
theorem dX10_take_11 : decode cX10_take 11 = .ok (.bipush (-2), 2) := by decide +kernel
theorem dX10_take_13 : decode cX10_take 13 = .ok (.ireturn, 1) := by decide +kernel
theorem dX10_take_14 : decode cX10_take 14 = .ok (.iconst 0, 1) := by decide +kernel
theorem dX10_take_15 : decode cX10_take 15 = .ok (.istore 5, 2) := by decide +kernel
theorem dX10_take_17 : decode cX10_take 17 = .ok (.lconst 0, 1) := by decide +kernel
theorem dX10_take_18 : decode cX10_take 18 = .ok (.lstore 6, 2) := by decide +kernel
theorem dX10_take_20 : decode cX10_take 20 = .ok (.iconst 1, 1) := by decide +kernel
theorem dX10_take_21 : decode cX10_take 21 = .ok (.istore 8, 2) := by decide +kernel
theorem dX10_take_23 : decode cX10_take 23 = .ok (.iload 8, 2) := by decide +kernel
theorem dX10_take_25 : decode cX10_take 25 = .ok (.bipush 8, 2) := by decide +kernel
theorem dX10_take_27 : decode cX10_take 27 = .ok (.if_icmp .gt 46, 3) := by decide +kernel
theorem dX10_take_30 : decode cX10_take 30 = .ok (.iload 8, 2) := by decide +kernel
theorem dX10_take_32 : decode cX10_take 32 = .ok (.iload_n 1, 1) := by decide +kernel
theorem dX10_take_33 : decode cX10_take 33 = .ok (.iload_n 2, 1) := by decide +kernel
theorem dX10_take_34 : decode cX10_take 34 = .ok (.iload_n 3, 1) := by decide +kernel
theorem dX10_take_35 : decode cX10_take 35 = .ok (.iload 4, 2) := by decide +kernel
theorem dX10_take_37 : decode cX10_take 37 = .ok (.invokestatic 273, 3) := by decide +kernel
theorem dX10_take_40 : decode cX10_take 40 = .ok (.bipush 8, 2) := by decide +kernel
theorem dX10_take_42 : decode cX10_take 42 = .ok (.iload 8, 2) := by decide +kernel
theorem dX10_take_44 : decode cX10_take 44 = .ok (.isub, 1) := by decide +kernel
theorem dX10_take_45 : decode cX10_take 45 = .ok (.invokestatic 277, 3) := by decide +kernel
theorem dX10_take_48 : decode cX10_take 48 = .ok (.lmul, 1) := by decide +kernel
theorem dX10_take_49 : decode cX10_take 49 = .ok (.lstore 9, 2) := by decide +kernel
theorem dX10_take_51 : decode cX10_take 51 = .ok (.lload 9, 2) := by decide +kernel
theorem dX10_take_53 : decode cX10_take 53 = .ok (.lload 6, 2) := by decide +kernel
theorem dX10_take_55 : decode cX10_take 55 = .ok (.lcmp, 1) := by decide +kernel
theorem dX10_take_56 : decode cX10_take 56 = .ok (.ifCond .le 11, 3) := by decide +kernel
theorem dX10_take_59 : decode cX10_take 59 = .ok (.lload 9, 2) := by decide +kernel
theorem dX10_take_61 : decode cX10_take 61 = .ok (.lstore 6, 2) := by decide +kernel
theorem dX10_take_63 : decode cX10_take 63 = .ok (.iload 8, 2) := by decide +kernel
theorem dX10_take_65 : decode cX10_take 65 = .ok (.istore 5, 2) := by decide +kernel
theorem dX10_take_67 : decode cX10_take 67 = .ok (.iinc 8 1, 3) := by decide +kernel
theorem dX10_take_70 : decode cX10_take 70 = .ok (.goto (-47), 3) := by decide +kernel
theorem dX10_take_73 : decode cX10_take 73 = .ok (.iload 5, 2) := by decide +kernel
theorem dX10_take_75 : decode cX10_take 75 = .ok (.ireturn, 1) := by decide +kernel
theorem dX10_sheet_0 : decode cX10_sheet 0 = .ok (.aload_n 0, 1) := by decide +kernel
theorem dX10_sheet_1 : decode cX10_sheet 1 = .ok (.iconst 0, 1) := by decide +kernel
theorem dX10_sheet_2 : decode cX10_sheet 2 = .ok (.putfield 99, 3) := by decide +kernel
theorem dX10_sheet_5 : decode cX10_sheet 5 = .ok (.iload_n 1, 1) := by decide +kernel
theorem dX10_sheet_6 : decode cX10_sheet 6 = .ok (.invokestatic 114, 3) := by decide +kernel
theorem dX10_sheet_9 : decode cX10_sheet 9 = .ok (.ifCond .ne 5, 3) := by decide +kernel
theorem dX10_sheet_12 : decode cX10_sheet 12 = .ok (.iconst (-1), 1) := by decide +kernel
theorem dX10_sheet_13 : decode cX10_sheet 13 = .ok (.ireturn, 1) := by decide +kernel
theorem dX10_sheet_14 : decode cX10_sheet 14 = .ok (.iload_n 2, 1) := by decide +kernel
theorem dX10_sheet_15 : decode cX10_sheet 15 = .ok (.invokestatic 118, 3) := by decide +kernel
theorem dX10_sheet_18 : decode cX10_sheet 18 = .ok (.ifCond .eq 9, 3) := by decide +kernel
theorem dX10_sheet_21 : decode cX10_sheet 21 = .ok (.iload_n 3, 1) := by decide +kernel
theorem dX10_sheet_22 : decode cX10_sheet 22 = .ok (.bipush 40, 2) := by decide +kernel
theorem dX10_sheet_24 : decode cX10_sheet 24 = .ok (.if_icmp .le 6, 3) := by decide +kernel
theorem dX10_sheet_27 : decode cX10_sheet 27 = .ok (.bipush (-2), 2) := by decide +kernel
theorem dX10_sheet_29 : decode cX10_sheet 29 = .ok (.ireturn, 1) := by decide +kernel
theorem dX10_sheet_30 : decode cX10_sheet 30 = .ok (.iload_n 3, 1) := by decide +kernel
theorem dX10_sheet_31 : decode cX10_sheet 31 = .ok (.ifCond .ge 9, 3) := by decide +kernel
theorem dX10_sheet_34 : decode cX10_sheet 34 = .ok (.aload_n 0, 1) := by decide +kernel
theorem dX10_sheet_35 : decode cX10_sheet 35 = .ok (.iconst 4, 1) := by decide +kernel
theorem dX10_sheet_36 : decode cX10_sheet 36 = .ok (.invokevirtual 125, 3) := by decide +kernel
theorem dX10_sheet_39 : decode cX10_sheet 39 = .ok (.ireturn, 1) := by decide +kernel
theorem dX10_sheet_40 : decode cX10_sheet 40 = .ok (.aload_n 0, 1) := by decide +kernel
theorem dX10_sheet_41 : decode cX10_sheet 41 = .ok (.getfield 9, 3) := by decide +kernel
theorem dX10_sheet_44 : decode cX10_sheet 44 = .ok (.iload_n 1, 1) := by decide +kernel
theorem dX10_sheet_45 : decode cX10_sheet 45 = .ok (.iload_n 2, 1) := by decide +kernel
theorem dX10_sheet_46 : decode cX10_sheet 46 = .ok (.iastore, 1) := by decide +kernel
theorem dX10_sheet_47 : decode cX10_sheet 47 = .ok (.aload_n 0, 1) := by decide +kernel
theorem dX10_sheet_48 : decode cX10_sheet 48 = .ok (.getfield 13, 3) := by decide +kernel
theorem dX10_sheet_51 : decode cX10_sheet 51 = .ok (.iload_n 1, 1) := by decide +kernel
theorem dX10_sheet_52 : decode cX10_sheet 52 = .ok (.iload_n 3, 1) := by decide +kernel
theorem dX10_sheet_53 : decode cX10_sheet 53 = .ok (.iastore, 1) := by decide +kernel
theorem dX10_sheet_54 : decode cX10_sheet 54 = .ok (.iconst 0, 1) := by decide +kernel
theorem dX10_sheet_55 : decode cX10_sheet 55 = .ok (.istore 4, 2) := by decide +kernel
theorem dX10_sheet_57 : decode cX10_sheet 57 = .ok (.iload 4, 2) := by decide +kernel
theorem dX10_sheet_59 : decode cX10_sheet 59 = .ok (.bipush 40, 2) := by decide +kernel
theorem dX10_sheet_61 : decode cX10_sheet 61 = .ok (.if_icmp .ge 22, 3) := by decide +kernel
theorem dX10_sheet_64 : decode cX10_sheet 64 = .ok (.aload_n 0, 1) := by decide +kernel
theorem dX10_sheet_65 : decode cX10_sheet 65 = .ok (.getfield 16, 3) := by decide +kernel
theorem dX10_sheet_68 : decode cX10_sheet 68 = .ok (.bipush 40, 2) := by decide +kernel
theorem dX10_sheet_70 : decode cX10_sheet 70 = .ok (.iload_n 1, 1) := by decide +kernel
theorem dX10_sheet_71 : decode cX10_sheet 71 = .ok (.imul, 1) := by decide +kernel
theorem dX10_sheet_72 : decode cX10_sheet 72 = .ok (.iload 4, 2) := by decide +kernel
theorem dX10_sheet_74 : decode cX10_sheet 74 = .ok (.iadd, 1) := by decide +kernel
theorem dX10_sheet_75 : decode cX10_sheet 75 = .ok (.iconst 0, 1) := by decide +kernel
theorem dX10_sheet_76 : decode cX10_sheet 76 = .ok (.iastore, 1) := by decide +kernel
theorem dX10_sheet_77 : decode cX10_sheet 77 = .ok (.iinc 4 1, 3) := by decide +kernel
theorem dX10_sheet_80 : decode cX10_sheet 80 = .ok (.goto (-23), 3) := by decide +kernel
theorem dX10_sheet_83 : decode cX10_sheet 83 = .ok (.iconst 1, 1) := by decide +kernel
theorem dX10_sheet_84 : decode cX10_sheet 84 = .ok (.ireturn, 1) := by decide +kernel
theorem dX10_lose_0 : decode cX10_lose 0 = .ok (.iload_n 1, 1) := by decide +kernel
theorem dX10_lose_1 : decode cX10_lose 1 = .ok (.invokestatic 114, 3) := by decide +kernel
theorem dX10_lose_4 : decode cX10_lose 4 = .ok (.ifCond .ne 5, 3) := by decide +kernel
theorem dX10_lose_7 : decode cX10_lose 7 = .ok (.iconst (-1), 1) := by decide +kernel
theorem dX10_lose_8 : decode cX10_lose 8 = .ok (.ireturn, 1) := by decide +kernel
theorem dX10_lose_9 : decode cX10_lose 9 = .ok (.aload_n 0, 1) := by decide +kernel
theorem dX10_lose_10 : decode cX10_lose 10 = .ok (.getfield 9, 3) := by decide +kernel
theorem dX10_lose_13 : decode cX10_lose 13 = .ok (.iload_n 1, 1) := by decide +kernel
theorem dX10_lose_14 : decode cX10_lose 14 = .ok (.iaload, 1) := by decide +kernel
theorem dX10_lose_15 : decode cX10_lose 15 = .ok (.bipush (-9), 2) := by decide +kernel
theorem dX10_lose_17 : decode cX10_lose 17 = .ok (.if_icmp .ne 7, 3) := by decide +kernel
theorem dX10_lose_20 : decode cX10_lose 20 = .ok (.iconst 0, 1) := by decide +kernel
theorem dX10_lose_21 : decode cX10_lose 21 = .ok (.goto 4, 3) := by decide +kernel
theorem dX10_lose_24 : decode cX10_lose 24 = .ok (.iconst 1, 1) := by decide +kernel
theorem dX10_lose_25 : decode cX10_lose 25 = .ok (.istore_n 2, 1) := by decide +kernel
theorem dX10_lose_26 : decode cX10_lose 26 = .ok (.aload_n 0, 1) := by decide +kernel
theorem dX10_lose_27 : decode cX10_lose 27 = .ok (.getfield 9, 3) := by decide +kernel
theorem dX10_lose_30 : decode cX10_lose 30 = .ok (.iload_n 1, 1) := by decide +kernel
theorem dX10_lose_31 : decode cX10_lose 31 = .ok (.bipush (-9), 2) := by decide +kernel
theorem dX10_lose_33 : decode cX10_lose 33 = .ok (.iastore, 1) := by decide +kernel
theorem dX10_lose_34 : decode cX10_lose 34 = .ok (.iload_n 2, 1) := by decide +kernel
theorem dX10_lose_35 : decode cX10_lose 35 = .ok (.ireturn, 1) := by decide +kernel
theorem dX10_put_0 : decode cX10_put 0 = .ok (.aload_n 0, 1) := by decide +kernel
theorem dX10_put_1 : decode cX10_put 1 = .ok (.iconst 0, 1) := by decide +kernel
theorem dX10_put_2 : decode cX10_put 2 = .ok (.putfield 99, 3) := by decide +kernel
theorem dX10_put_5 : decode cX10_put 5 = .ok (.iload_n 1, 1) := by decide +kernel
theorem dX10_put_6 : decode cX10_put 6 = .ok (.invokestatic 114, 3) := by decide +kernel
theorem dX10_put_9 : decode cX10_put 9 = .ok (.ifCond .ne 5, 3) := by decide +kernel
theorem dX10_put_12 : decode cX10_put 12 = .ok (.iconst (-1), 1) := by decide +kernel
theorem dX10_put_13 : decode cX10_put 13 = .ok (.ireturn, 1) := by decide +kernel
theorem dX10_put_14 : decode cX10_put 14 = .ok (.aload_n 0, 1) := by decide +kernel
theorem dX10_put_15 : decode cX10_put 15 = .ok (.getfield 9, 3) := by decide +kernel
theorem dX10_put_18 : decode cX10_put 18 = .ok (.iload_n 1, 1) := by decide +kernel
theorem dX10_put_19 : decode cX10_put 19 = .ok (.iaload, 1) := by decide +kernel
theorem dX10_put_20 : decode cX10_put 20 = .ok (.bipush (-9), 2) := by decide +kernel
theorem dX10_put_22 : decode cX10_put 22 = .ok (.if_icmp .ne 9, 3) := by decide +kernel
theorem dX10_put_25 : decode cX10_put 25 = .ok (.aload_n 0, 1) := by decide +kernel
theorem dX10_put_26 : decode cX10_put 26 = .ok (.iconst 1, 1) := by decide +kernel
theorem dX10_put_27 : decode cX10_put 27 = .ok (.invokevirtual 125, 3) := by decide +kernel
theorem dX10_put_30 : decode cX10_put 30 = .ok (.ireturn, 1) := by decide +kernel
theorem dX10_put_31 : decode cX10_put 31 = .ok (.iload_n 2, 1) := by decide +kernel
theorem dX10_put_32 : decode cX10_put 32 = .ok (.iconst 0, 1) := by decide +kernel
theorem dX10_put_33 : decode cX10_put 33 = .ok (.aload_n 0, 1) := by decide +kernel
theorem dX10_put_34 : decode cX10_put 34 = .ok (.getfield 13, 3) := by decide +kernel
theorem dX10_put_37 : decode cX10_put 37 = .ok (.iload_n 1, 1) := by decide +kernel
theorem dX10_put_38 : decode cX10_put 38 = .ok (.iaload, 1) := by decide +kernel
theorem dX10_put_39 : decode cX10_put 39 = .ok (.iconst 1, 1) := by decide +kernel
theorem dX10_put_40 : decode cX10_put 40 = .ok (.isub, 1) := by decide +kernel
theorem dX10_put_41 : decode cX10_put 41 = .ok (.invokestatic 104, 3) := by decide +kernel
theorem dX10_put_44 : decode cX10_put 44 = .ok (.ifCond .ne 9, 3) := by decide +kernel
theorem dX10_put_47 : decode cX10_put 47 = .ok (.aload_n 0, 1) := by decide +kernel
theorem dX10_put_48 : decode cX10_put 48 = .ok (.iconst 3, 1) := by decide +kernel
theorem dX10_put_49 : decode cX10_put 49 = .ok (.invokevirtual 125, 3) := by decide +kernel
theorem dX10_put_52 : decode cX10_put 52 = .ok (.ireturn, 1) := by decide +kernel
theorem dX10_put_53 : decode cX10_put 53 = .ok (.aload_n 0, 1) := by decide +kernel
theorem dX10_put_54 : decode cX10_put 54 = .ok (.getfield 16, 3) := by decide +kernel
theorem dX10_put_57 : decode cX10_put 57 = .ok (.bipush 40, 2) := by decide +kernel
theorem dX10_put_59 : decode cX10_put 59 = .ok (.iload_n 1, 1) := by decide +kernel
theorem dX10_put_60 : decode cX10_put 60 = .ok (.imul, 1) := by decide +kernel
theorem dX10_put_61 : decode cX10_put 61 = .ok (.iload_n 2, 1) := by decide +kernel
theorem dX10_put_62 : decode cX10_put 62 = .ok (.iadd, 1) := by decide +kernel
theorem dX10_put_63 : decode cX10_put 63 = .ok (.aload_n 0, 1) := by decide +kernel
theorem dX10_put_64 : decode cX10_put 64 = .ok (.getfield 9, 3) := by decide +kernel
theorem dX10_put_67 : decode cX10_put 67 = .ok (.iload_n 1, 1) := by decide +kernel
theorem dX10_put_68 : decode cX10_put 68 = .ok (.iaload, 1) := by decide +kernel
theorem dX10_put_69 : decode cX10_put 69 = .ok (.ifCond .ne 8, 3) := by decide +kernel
theorem dX10_put_72 : decode cX10_put 72 = .ok (.iload_n 3, 1) := by decide +kernel
theorem dX10_put_73 : decode cX10_put 73 = .ok (.i2b, 1) := by decide +kernel
theorem dX10_put_74 : decode cX10_put 74 = .ok (.goto 19, 3) := by decide +kernel
theorem dX10_put_77 : decode cX10_put 77 = .ok (.aload_n 0, 1) := by decide +kernel
theorem dX10_put_78 : decode cX10_put 78 = .ok (.getfield 9, 3) := by decide +kernel
theorem dX10_put_81 : decode cX10_put 81 = .ok (.iload_n 1, 1) := by decide +kernel
theorem dX10_put_82 : decode cX10_put 82 = .ok (.iaload, 1) := by decide +kernel
theorem dX10_put_83 : decode cX10_put 83 = .ok (.iconst 1, 1) := by decide +kernel
theorem dX10_put_84 : decode cX10_put 84 = .ok (.if_icmp .ne 8, 3) := by decide +kernel
theorem dX10_put_87 : decode cX10_put 87 = .ok (.iload_n 3, 1) := by decide +kernel
theorem dX10_put_88 : decode cX10_put 88 = .ok (.i2s, 1) := by decide +kernel
theorem dX10_put_89 : decode cX10_put 89 = .ok (.goto 4, 3) := by decide +kernel
theorem dX10_put_92 : decode cX10_put 92 = .ok (.iload_n 3, 1) := by decide +kernel
theorem dX10_put_93 : decode cX10_put 93 = .ok (.iastore, 1) := by decide +kernel
theorem dX10_put_94 : decode cX10_put 94 = .ok (.iconst 1, 1) := by decide +kernel
theorem dX10_put_95 : decode cX10_put 95 = .ok (.ireturn, 1) := by decide +kernel
theorem dX10_cell_0 : decode cX10_cell 0 = .ok (.aload_n 0, 1) := by decide +kernel
theorem dX10_cell_1 : decode cX10_cell 1 = .ok (.iconst 0, 1) := by decide +kernel
theorem dX10_cell_2 : decode cX10_cell 2 = .ok (.putfield 99, 3) := by decide +kernel
theorem dX10_cell_5 : decode cX10_cell 5 = .ok (.iload_n 1, 1) := by decide +kernel
theorem dX10_cell_6 : decode cX10_cell 6 = .ok (.invokestatic 114, 3) := by decide +kernel
theorem dX10_cell_9 : decode cX10_cell 9 = .ok (.ifCond .eq 10, 3) := by decide +kernel
theorem dX10_cell_12 : decode cX10_cell 12 = .ok (.iload_n 3, 1) := by decide +kernel
theorem dX10_cell_13 : decode cX10_cell 13 = .ok (.invokestatic 118, 3) := by decide +kernel
theorem dX10_cell_16 : decode cX10_cell 16 = .ok (.ifCond .ne 7, 3) := by decide +kernel
theorem dX10_cell_19 : decode cX10_cell 19 = .ok (.ldc2_w 102, 3) := by decide +kernel
theorem dX10_cell_22 : decode cX10_cell 22 = .ok (.lreturn, 1) := by decide +kernel
theorem dX10_cell_23 : decode cX10_cell 23 = .ok (.aload_n 0, 1) := by decide +kernel
theorem dX10_cell_24 : decode cX10_cell 24 = .ok (.getfield 9, 3) := by decide +kernel
theorem dX10_cell_27 : decode cX10_cell 27 = .ok (.iload_n 1, 1) := by decide +kernel
theorem dX10_cell_28 : decode cX10_cell 28 = .ok (.iaload, 1) := by decide +kernel
theorem dX10_cell_29 : decode cX10_cell 29 = .ok (.bipush (-9), 2) := by decide +kernel
theorem dX10_cell_31 : decode cX10_cell 31 = .ok (.if_icmp .eq 19, 3) := by decide +kernel
theorem dX10_cell_34 : decode cX10_cell 34 = .ok (.aload_n 0, 1) := by decide +kernel
theorem dX10_cell_35 : decode cX10_cell 35 = .ok (.getfield 9, 3) := by decide +kernel
theorem dX10_cell_38 : decode cX10_cell 38 = .ok (.iload_n 1, 1) := by decide +kernel
theorem dX10_cell_39 : decode cX10_cell 39 = .ok (.iaload, 1) := by decide +kernel
theorem dX10_cell_40 : decode cX10_cell 40 = .ok (.iload_n 3, 1) := by decide +kernel
theorem dX10_cell_41 : decode cX10_cell 41 = .ok (.if_icmp .eq 9, 3) := by decide +kernel
theorem dX10_cell_44 : decode cX10_cell 44 = .ok (.aload_n 0, 1) := by decide +kernel
theorem dX10_cell_45 : decode cX10_cell 45 = .ok (.iconst 2, 1) := by decide +kernel
theorem dX10_cell_46 : decode cX10_cell 46 = .ok (.invokevirtual 285, 3) := by decide +kernel
theorem dX10_cell_49 : decode cX10_cell 49 = .ok (.lreturn, 1) := by decide +kernel
theorem dX10_cell_50 : decode cX10_cell 50 = .ok (.aload_n 0, 1) := by decide +kernel
theorem dX10_cell_51 : decode cX10_cell 51 = .ok (.getfield 9, 3) := by decide +kernel
theorem dX10_cell_54 : decode cX10_cell 54 = .ok (.iload_n 1, 1) := by decide +kernel
theorem dX10_cell_55 : decode cX10_cell 55 = .ok (.iaload, 1) := by decide +kernel
theorem dX10_cell_56 : decode cX10_cell 56 = .ok (.bipush (-9), 2) := by decide +kernel
theorem dX10_cell_58 : decode cX10_cell 58 = .ok (.if_icmp .ne 9, 3) := by decide +kernel
theorem dX10_cell_61 : decode cX10_cell 61 = .ok (.aload_n 0, 1) := by decide +kernel
theorem dX10_cell_62 : decode cX10_cell 62 = .ok (.iconst 1, 1) := by decide +kernel
theorem dX10_cell_63 : decode cX10_cell 63 = .ok (.invokevirtual 285, 3) := by decide +kernel
theorem dX10_cell_66 : decode cX10_cell 66 = .ok (.lreturn, 1) := by decide +kernel
theorem dX10_cell_67 : decode cX10_cell 67 = .ok (.iload_n 2, 1) := by decide +kernel
theorem dX10_cell_68 : decode cX10_cell 68 = .ok (.iconst 0, 1) := by decide +kernel
theorem dX10_cell_69 : decode cX10_cell 69 = .ok (.aload_n 0, 1) := by decide +kernel
theorem dX10_cell_70 : decode cX10_cell 70 = .ok (.getfield 13, 3) := by decide +kernel
theorem dX10_cell_73 : decode cX10_cell 73 = .ok (.iload_n 1, 1) := by decide +kernel
theorem dX10_cell_74 : decode cX10_cell 74 = .ok (.iaload, 1) := by decide +kernel
theorem dX10_cell_75 : decode cX10_cell 75 = .ok (.iconst 1, 1) := by decide +kernel
theorem dX10_cell_76 : decode cX10_cell 76 = .ok (.isub, 1) := by decide +kernel
theorem dX10_cell_77 : decode cX10_cell 77 = .ok (.invokestatic 104, 3) := by decide +kernel
theorem dX10_cell_80 : decode cX10_cell 80 = .ok (.ifCond .ne 9, 3) := by decide +kernel
theorem dX10_cell_83 : decode cX10_cell 83 = .ok (.aload_n 0, 1) := by decide +kernel
theorem dX10_cell_84 : decode cX10_cell 84 = .ok (.iconst 3, 1) := by decide +kernel
theorem dX10_cell_85 : decode cX10_cell 85 = .ok (.invokevirtual 285, 3) := by decide +kernel
theorem dX10_cell_88 : decode cX10_cell 88 = .ok (.lreturn, 1) := by decide +kernel
theorem dX10_cell_89 : decode cX10_cell 89 = .ok (.aload_n 0, 1) := by decide +kernel
theorem dX10_cell_90 : decode cX10_cell 90 = .ok (.getfield 16, 3) := by decide +kernel
theorem dX10_cell_93 : decode cX10_cell 93 = .ok (.bipush 40, 2) := by decide +kernel
theorem dX10_cell_95 : decode cX10_cell 95 = .ok (.iload_n 1, 1) := by decide +kernel
theorem dX10_cell_96 : decode cX10_cell 96 = .ok (.imul, 1) := by decide +kernel
theorem dX10_cell_97 : decode cX10_cell 97 = .ok (.iload_n 2, 1) := by decide +kernel
theorem dX10_cell_98 : decode cX10_cell 98 = .ok (.iadd, 1) := by decide +kernel
theorem dX10_cell_99 : decode cX10_cell 99 = .ok (.iaload, 1) := by decide +kernel
theorem dX10_cell_100 : decode cX10_cell 100 = .ok (.i2l, 1) := by decide +kernel
theorem dX10_cell_101 : decode cX10_cell 101 = .ok (.lreturn, 1) := by decide +kernel
theorem dX10_copy_0 : decode cX10_copy 0 = .ok (.aload_n 0, 1) := by decide +kernel
theorem dX10_copy_1 : decode cX10_copy 1 = .ok (.iconst 0, 1) := by decide +kernel
theorem dX10_copy_2 : decode cX10_copy 2 = .ok (.putfield 99, 3) := by decide +kernel
theorem dX10_copy_5 : decode cX10_copy 5 = .ok (.iload_n 1, 1) := by decide +kernel
theorem dX10_copy_6 : decode cX10_copy 6 = .ok (.invokestatic 114, 3) := by decide +kernel
theorem dX10_copy_9 : decode cX10_copy 9 = .ok (.ifCond .eq 10, 3) := by decide +kernel
theorem dX10_copy_12 : decode cX10_copy 12 = .ok (.iload_n 3, 1) := by decide +kernel
theorem dX10_copy_13 : decode cX10_copy 13 = .ok (.invokestatic 114, 3) := by decide +kernel
theorem dX10_copy_16 : decode cX10_copy 16 = .ok (.ifCond .ne 5, 3) := by decide +kernel
theorem dX10_copy_19 : decode cX10_copy 19 = .ok (.iconst (-1), 1) := by decide +kernel
theorem dX10_copy_20 : decode cX10_copy 20 = .ok (.ireturn, 1) := by decide +kernel
theorem dX10_copy_21 : decode cX10_copy 21 = .ok (.aload_n 0, 1) := by decide +kernel
theorem dX10_copy_22 : decode cX10_copy 22 = .ok (.getfield 9, 3) := by decide +kernel
theorem dX10_copy_25 : decode cX10_copy 25 = .ok (.iload_n 1, 1) := by decide +kernel
theorem dX10_copy_26 : decode cX10_copy 26 = .ok (.iaload, 1) := by decide +kernel
theorem dX10_copy_27 : decode cX10_copy 27 = .ok (.bipush (-9), 2) := by decide +kernel
theorem dX10_copy_29 : decode cX10_copy 29 = .ok (.if_icmp .eq 14, 3) := by decide +kernel
theorem dX10_copy_32 : decode cX10_copy 32 = .ok (.aload_n 0, 1) := by decide +kernel
theorem dX10_copy_33 : decode cX10_copy 33 = .ok (.getfield 9, 3) := by decide +kernel
theorem dX10_copy_36 : decode cX10_copy 36 = .ok (.iload_n 3, 1) := by decide +kernel
theorem dX10_copy_37 : decode cX10_copy 37 = .ok (.iaload, 1) := by decide +kernel
theorem dX10_copy_38 : decode cX10_copy 38 = .ok (.bipush (-9), 2) := by decide +kernel
theorem dX10_copy_40 : decode cX10_copy 40 = .ok (.if_icmp .ne 9, 3) := by decide +kernel
theorem dX10_copy_43 : decode cX10_copy 43 = .ok (.aload_n 0, 1) := by decide +kernel
theorem dX10_copy_44 : decode cX10_copy 44 = .ok (.iconst 1, 1) := by decide +kernel
theorem dX10_copy_45 : decode cX10_copy 45 = .ok (.invokevirtual 125, 3) := by decide +kernel
theorem dX10_copy_48 : decode cX10_copy 48 = .ok (.ireturn, 1) := by decide +kernel
theorem dX10_copy_49 : decode cX10_copy 49 = .ok (.aload_n 0, 1) := by decide +kernel
theorem dX10_copy_50 : decode cX10_copy 50 = .ok (.getfield 9, 3) := by decide +kernel
theorem dX10_copy_53 : decode cX10_copy 53 = .ok (.iload_n 1, 1) := by decide +kernel
theorem dX10_copy_54 : decode cX10_copy 54 = .ok (.iaload, 1) := by decide +kernel
theorem dX10_copy_55 : decode cX10_copy 55 = .ok (.aload_n 0, 1) := by decide +kernel
theorem dX10_copy_56 : decode cX10_copy 56 = .ok (.getfield 9, 3) := by decide +kernel
theorem dX10_copy_59 : decode cX10_copy 59 = .ok (.iload_n 3, 1) := by decide +kernel
theorem dX10_copy_60 : decode cX10_copy 60 = .ok (.iaload, 1) := by decide +kernel
theorem dX10_copy_61 : decode cX10_copy 61 = .ok (.if_icmp .eq 9, 3) := by decide +kernel
theorem dX10_copy_64 : decode cX10_copy 64 = .ok (.aload_n 0, 1) := by decide +kernel
theorem dX10_copy_65 : decode cX10_copy 65 = .ok (.iconst 2, 1) := by decide +kernel
theorem dX10_copy_66 : decode cX10_copy 66 = .ok (.invokevirtual 125, 3) := by decide +kernel
theorem dX10_copy_69 : decode cX10_copy 69 = .ok (.ireturn, 1) := by decide +kernel
theorem dX10_copy_70 : decode cX10_copy 70 = .ok (.iload_n 2, 1) := by decide +kernel
theorem dX10_copy_71 : decode cX10_copy 71 = .ok (.ifCond .lt 38, 3) := by decide +kernel
theorem dX10_copy_74 : decode cX10_copy 74 = .ok (.iload 4, 2) := by decide +kernel
theorem dX10_copy_76 : decode cX10_copy 76 = .ok (.ifCond .lt 33, 3) := by decide +kernel
theorem dX10_copy_79 : decode cX10_copy 79 = .ok (.iload 5, 2) := by decide +kernel
theorem dX10_copy_81 : decode cX10_copy 81 = .ok (.ifCond .lt 28, 3) := by decide +kernel
theorem dX10_copy_84 : decode cX10_copy 84 = .ok (.iload_n 2, 1) := by decide +kernel
theorem dX10_copy_85 : decode cX10_copy 85 = .ok (.aload_n 0, 1) := by decide +kernel
theorem dX10_copy_86 : decode cX10_copy 86 = .ok (.getfield 13, 3) := by decide +kernel
theorem dX10_copy_89 : decode cX10_copy 89 = .ok (.iload_n 1, 1) := by decide +kernel
theorem dX10_copy_90 : decode cX10_copy 90 = .ok (.iaload, 1) := by decide +kernel
theorem dX10_copy_91 : decode cX10_copy 91 = .ok (.if_icmp .gt 18, 3) := by decide +kernel
theorem dX10_copy_94 : decode cX10_copy 94 = .ok (.iload 4, 2) := by decide +kernel
theorem dX10_copy_96 : decode cX10_copy 96 = .ok (.aload_n 0, 1) := by decide +kernel
theorem dX10_copy_97 : decode cX10_copy 97 = .ok (.getfield 13, 3) := by decide +kernel
theorem dX10_copy_100 : decode cX10_copy 100 = .ok (.iload_n 3, 1) := by decide +kernel
theorem dX10_copy_101 : decode cX10_copy 101 = .ok (.iaload, 1) := by decide +kernel
theorem dX10_copy_102 : decode cX10_copy 102 = .ok (.if_icmp .gt 7, 3) := by decide +kernel
theorem dX10_copy_105 : decode cX10_copy 105 = .ok (.iconst 1, 1) := by decide +kernel
theorem dX10_copy_106 : decode cX10_copy 106 = .ok (.goto 4, 3) := by decide +kernel
theorem dX10_copy_109 : decode cX10_copy 109 = .ok (.iconst 0, 1) := by decide +kernel
theorem dX10_copy_110 : decode cX10_copy 110 = .ok (.istore 6, 2) := by decide +kernel
theorem dX10_copy_112 : decode cX10_copy 112 = .ok (.iload 6, 2) := by decide +kernel
theorem dX10_copy_114 : decode cX10_copy 114 = .ok (.ifCond .eq 30, 3) := by decide +kernel
theorem dX10_copy_117 : decode cX10_copy 117 = .ok (.iload 5, 2) := by decide +kernel
theorem dX10_copy_119 : decode cX10_copy 119 = .ok (.aload_n 0, 1) := by decide +kernel
theorem dX10_copy_120 : decode cX10_copy 120 = .ok (.getfield 13, 3) := by decide +kernel
theorem dX10_copy_123 : decode cX10_copy 123 = .ok (.iload_n 1, 1) := by decide +kernel
theorem dX10_copy_124 : decode cX10_copy 124 = .ok (.iaload, 1) := by decide +kernel
theorem dX10_copy_125 : decode cX10_copy 125 = .ok (.iload_n 2, 1) := by decide +kernel
theorem dX10_copy_126 : decode cX10_copy 126 = .ok (.isub, 1) := by decide +kernel
theorem dX10_copy_127 : decode cX10_copy 127 = .ok (.if_icmp .gt 17, 3) := by decide +kernel
theorem dX10_copy_130 : decode cX10_copy 130 = .ok (.iload 5, 2) := by decide +kernel
theorem dX10_copy_132 : decode cX10_copy 132 = .ok (.aload_n 0, 1) := by decide +kernel
theorem dX10_copy_133 : decode cX10_copy 133 = .ok (.getfield 13, 3) := by decide +kernel
theorem dX10_copy_136 : decode cX10_copy 136 = .ok (.iload_n 3, 1) := by decide +kernel
theorem dX10_copy_137 : decode cX10_copy 137 = .ok (.iaload, 1) := by decide +kernel
theorem dX10_copy_138 : decode cX10_copy 138 = .ok (.iload 4, 2) := by decide +kernel
theorem dX10_copy_140 : decode cX10_copy 140 = .ok (.isub, 1) := by decide +kernel
theorem dX10_copy_141 : decode cX10_copy 141 = .ok (.if_icmp .le 9, 3) := by decide +kernel
theorem dX10_copy_144 : decode cX10_copy 144 = .ok (.aload_n 0, 1) := by decide +kernel
theorem dX10_copy_145 : decode cX10_copy 145 = .ok (.iconst 3, 1) := by decide +kernel
theorem dX10_copy_146 : decode cX10_copy 146 = .ok (.invokevirtual 125, 3) := by decide +kernel
theorem dX10_copy_149 : decode cX10_copy 149 = .ok (.ireturn, 1) := by decide +kernel
theorem dX10_copy_150 : decode cX10_copy 150 = .ok (.iload_n 2, 1) := by decide +kernel
theorem dX10_copy_151 : decode cX10_copy 151 = .ok (.iload 4, 2) := by decide +kernel
theorem dX10_copy_153 : decode cX10_copy 153 = .ok (.if_icmp .ge 7, 3) := by decide +kernel
theorem dX10_copy_156 : decode cX10_copy 156 = .ok (.iconst 1, 1) := by decide +kernel
theorem dX10_copy_157 : decode cX10_copy 157 = .ok (.goto 4, 3) := by decide +kernel
theorem dX10_copy_160 : decode cX10_copy 160 = .ok (.iconst 0, 1) := by decide +kernel
theorem dX10_copy_161 : decode cX10_copy 161 = .ok (.istore 7, 2) := by decide +kernel
theorem dX10_copy_163 : decode cX10_copy 163 = .ok (.iconst 0, 1) := by decide +kernel
theorem dX10_copy_164 : decode cX10_copy 164 = .ok (.istore 8, 2) := by decide +kernel
theorem dX10_copy_166 : decode cX10_copy 166 = .ok (.iload 8, 2) := by decide +kernel
theorem dX10_copy_168 : decode cX10_copy 168 = .ok (.iload 5, 2) := by decide +kernel
theorem dX10_copy_170 : decode cX10_copy 170 = .ok (.if_icmp .ge 57, 3) := by decide +kernel
theorem dX10_copy_173 : decode cX10_copy 173 = .ok (.iload 7, 2) := by decide +kernel
theorem dX10_copy_175 : decode cX10_copy 175 = .ok (.ifCond .eq 13, 3) := by decide +kernel
theorem dX10_copy_178 : decode cX10_copy 178 = .ok (.iload 5, 2) := by decide +kernel
theorem dX10_copy_180 : decode cX10_copy 180 = .ok (.iconst 1, 1) := by decide +kernel
theorem dX10_copy_181 : decode cX10_copy 181 = .ok (.isub, 1) := by decide +kernel
theorem dX10_copy_182 : decode cX10_copy 182 = .ok (.iload 8, 2) := by decide +kernel
theorem dX10_copy_184 : decode cX10_copy 184 = .ok (.isub, 1) := by decide +kernel
theorem dX10_copy_185 : decode cX10_copy 185 = .ok (.goto 5, 3) := by decide +kernel
theorem dX10_copy_188 : decode cX10_copy 188 = .ok (.iload 8, 2) := by decide +kernel
theorem dX10_copy_190 : decode cX10_copy 190 = .ok (.istore 9, 2) := by decide +kernel
theorem dX10_copy_192 : decode cX10_copy 192 = .ok (.aload_n 0, 1) := by decide +kernel
theorem dX10_copy_193 : decode cX10_copy 193 = .ok (.getfield 16, 3) := by decide +kernel
theorem dX10_copy_196 : decode cX10_copy 196 = .ok (.bipush 40, 2) := by decide +kernel
theorem dX10_copy_198 : decode cX10_copy 198 = .ok (.iload_n 3, 1) := by decide +kernel
theorem dX10_copy_199 : decode cX10_copy 199 = .ok (.imul, 1) := by decide +kernel
theorem dX10_copy_200 : decode cX10_copy 200 = .ok (.iload 4, 2) := by decide +kernel
theorem dX10_copy_202 : decode cX10_copy 202 = .ok (.iadd, 1) := by decide +kernel
theorem dX10_copy_203 : decode cX10_copy 203 = .ok (.iload 9, 2) := by decide +kernel
theorem dX10_copy_205 : decode cX10_copy 205 = .ok (.iadd, 1) := by decide +kernel
theorem dX10_copy_206 : decode cX10_copy 206 = .ok (.aload_n 0, 1) := by decide +kernel
theorem dX10_copy_207 : decode cX10_copy 207 = .ok (.getfield 16, 3) := by decide +kernel
theorem dX10_copy_210 : decode cX10_copy 210 = .ok (.bipush 40, 2) := by decide +kernel
theorem dX10_copy_212 : decode cX10_copy 212 = .ok (.iload_n 1, 1) := by decide +kernel
theorem dX10_copy_213 : decode cX10_copy 213 = .ok (.imul, 1) := by decide +kernel
theorem dX10_copy_214 : decode cX10_copy 214 = .ok (.iload_n 2, 1) := by decide +kernel
theorem dX10_copy_215 : decode cX10_copy 215 = .ok (.iadd, 1) := by decide +kernel
theorem dX10_copy_216 : decode cX10_copy 216 = .ok (.iload 9, 2) := by decide +kernel
theorem dX10_copy_218 : decode cX10_copy 218 = .ok (.iadd, 1) := by decide +kernel
theorem dX10_copy_219 : decode cX10_copy 219 = .ok (.iaload, 1) := by decide +kernel
theorem dX10_copy_220 : decode cX10_copy 220 = .ok (.iastore, 1) := by decide +kernel
theorem dX10_copy_221 : decode cX10_copy 221 = .ok (.iinc 8 1, 3) := by decide +kernel
theorem dX10_copy_224 : decode cX10_copy 224 = .ok (.goto (-58), 3) := by decide +kernel
theorem dX10_copy_227 : decode cX10_copy 227 = .ok (.iload 5, 2) := by decide +kernel
theorem dX10_copy_229 : decode cX10_copy 229 = .ok (.ireturn, 1) := by decide +kernel
theorem dX10_begins_0 : decode cX10_begins 0 = .ok (.aload_n 0, 1) := by decide +kernel
theorem dX10_begins_1 : decode cX10_begins 1 = .ok (.bipush 31, 2) := by decide +kernel
theorem dX10_begins_3 : decode cX10_begins 3 = .ok (.aload_n 0, 1) := by decide +kernel
theorem dX10_begins_4 : decode cX10_begins 4 = .ok (.getfield 288, 3) := by decide +kernel
theorem dX10_begins_7 : decode cX10_begins 7 = .ok (.imul, 1) := by decide +kernel
theorem dX10_begins_8 : decode cX10_begins 8 = .ok (.iload_n 1, 1) := by decide +kernel
theorem dX10_begins_9 : decode cX10_begins 9 = .ok (.iadd, 1) := by decide +kernel
theorem dX10_begins_10 : decode cX10_begins 10 = .ok (.putfield 288, 3) := by decide +kernel
theorem dX10_begins_13 : decode cX10_begins 13 = .ok (.return_, 1) := by decide +kernel
theorem dX10_tell_0 : decode cX10_tell 0 = .ok (.aload_n 0, 1) := by decide +kernel
theorem dX10_tell_1 : decode cX10_tell 1 = .ok (.iload_n 1, 1) := by decide +kernel
theorem dX10_tell_2 : decode cX10_tell 2 = .ok (.invokevirtual 156, 3) := by decide +kernel
theorem dX10_tell_5 : decode cX10_tell 5 = .ok (.ifCond .ne 5, 3) := by decide +kernel
theorem dX10_tell_8 : decode cX10_tell 8 = .ok (.iconst (-1), 1) := by decide +kernel
theorem dX10_tell_9 : decode cX10_tell 9 = .ok (.ireturn, 1) := by decide +kernel
theorem dX10_tell_10 : decode cX10_tell 10 = .ok (.aload_n 0, 1) := by decide +kernel
theorem dX10_tell_11 : decode cX10_tell 11 = .ok (.getfield 38, 3) := by decide +kernel
theorem dX10_tell_14 : decode cX10_tell 14 = .ok (.iload_n 1, 1) := by decide +kernel
theorem dX10_tell_15 : decode cX10_tell 15 = .ok (.iaload, 1) := by decide +kernel
theorem dX10_tell_16 : decode cX10_tell 16 = .ok (.istore_n 2, 1) := by decide +kernel
theorem dX10_tell_17 : decode cX10_tell 17 = .ok (.aload_n 0, 1) := by decide +kernel
theorem dX10_tell_18 : decode cX10_tell 18 = .ok (.getfield 35, 3) := by decide +kernel
theorem dX10_tell_21 : decode cX10_tell 21 = .ok (.iload_n 1, 1) := by decide +kernel
theorem dX10_tell_22 : decode cX10_tell 22 = .ok (.iaload, 1) := by decide +kernel
theorem dX10_tell_23 : decode cX10_tell 23 = .ok (.lookupswitch 67 #[(1, 25), (2, 40)], 25) := by decide +kernel
theorem dX10_tell_48 : decode cX10_tell 48 = .ok (.aload_n 0, 1) := by decide +kernel
theorem dX10_tell_49 : decode cX10_tell 49 = .ok (.iconst 2, 1) := by decide +kernel
theorem dX10_tell_50 : decode cX10_tell 50 = .ok (.invokevirtual 291, 3) := by decide +kernel
theorem dX10_tell_53 : decode cX10_tell 53 = .ok (.aload_n 0, 1) := by decide +kernel
theorem dX10_tell_54 : decode cX10_tell 54 = .ok (.iconst 1, 1) := by decide +kernel
theorem dX10_tell_55 : decode cX10_tell 55 = .ok (.invokevirtual 291, 3) := by decide +kernel
theorem dX10_tell_58 : decode cX10_tell 58 = .ok (.iload_n 2, 1) := by decide +kernel
theorem dX10_tell_59 : decode cX10_tell 59 = .ok (.bipush 100, 2) := by decide +kernel
theorem dX10_tell_61 : decode cX10_tell 61 = .ok (.iadd, 1) := by decide +kernel
theorem dX10_tell_62 : decode cX10_tell 62 = .ok (.ireturn, 1) := by decide +kernel
theorem dX10_tell_63 : decode cX10_tell 63 = .ok (.aload_n 0, 1) := by decide +kernel
theorem dX10_tell_64 : decode cX10_tell 64 = .ok (.iconst 3, 1) := by decide +kernel
theorem dX10_tell_65 : decode cX10_tell 65 = .ok (.invokevirtual 291, 3) := by decide +kernel
theorem dX10_tell_68 : decode cX10_tell 68 = .ok (.aload_n 0, 1) := by decide +kernel
theorem dX10_tell_69 : decode cX10_tell 69 = .ok (.iconst 2, 1) := by decide +kernel
theorem dX10_tell_70 : decode cX10_tell 70 = .ok (.invokevirtual 291, 3) := by decide +kernel
theorem dX10_tell_73 : decode cX10_tell 73 = .ok (.aload_n 0, 1) := by decide +kernel
theorem dX10_tell_74 : decode cX10_tell 74 = .ok (.iconst 1, 1) := by decide +kernel
theorem dX10_tell_75 : decode cX10_tell 75 = .ok (.invokevirtual 291, 3) := by decide +kernel
theorem dX10_tell_78 : decode cX10_tell 78 = .ok (.aload_n 0, 1) := by decide +kernel
theorem dX10_tell_79 : decode cX10_tell 79 = .ok (.iconst 1, 1) := by decide +kernel
theorem dX10_tell_80 : decode cX10_tell 80 = .ok (.invokevirtual 291, 3) := by decide +kernel
theorem dX10_tell_83 : decode cX10_tell 83 = .ok (.iconst 2, 1) := by decide +kernel
theorem dX10_tell_84 : decode cX10_tell 84 = .ok (.iload_n 2, 1) := by decide +kernel
theorem dX10_tell_85 : decode cX10_tell 85 = .ok (.imul, 1) := by decide +kernel
theorem dX10_tell_86 : decode cX10_tell 86 = .ok (.bipush 100, 2) := by decide +kernel
theorem dX10_tell_88 : decode cX10_tell 88 = .ok (.iadd, 1) := by decide +kernel
theorem dX10_tell_89 : decode cX10_tell 89 = .ok (.ireturn, 1) := by decide +kernel
theorem dX10_tell_90 : decode cX10_tell 90 = .ok (.aload_n 0, 1) := by decide +kernel
theorem dX10_tell_91 : decode cX10_tell 91 = .ok (.iconst 1, 1) := by decide +kernel
theorem dX10_tell_92 : decode cX10_tell 92 = .ok (.invokevirtual 291, 3) := by decide +kernel
theorem dX10_tell_95 : decode cX10_tell 95 = .ok (.iload_n 2, 1) := by decide +kernel
theorem dX10_tell_96 : decode cX10_tell 96 = .ok (.ireturn, 1) := by decide +kernel
theorem dX10_serve_0 : decode cX10_serve 0 = .ok (.aload_n 0, 1) := by decide +kernel
theorem dX10_serve_1 : decode cX10_serve 1 = .ok (.iload_n 1, 1) := by decide +kernel
theorem dX10_serve_2 : decode cX10_serve 2 = .ok (.invokevirtual 156, 3) := by decide +kernel
theorem dX10_serve_5 : decode cX10_serve 5 = .ok (.ifCond .ne 5, 3) := by decide +kernel
theorem dX10_serve_8 : decode cX10_serve 8 = .ok (.iconst (-1), 1) := by decide +kernel
theorem dX10_serve_9 : decode cX10_serve 9 = .ok (.ireturn, 1) := by decide +kernel
theorem dX10_serve_10 : decode cX10_serve 10 = .ok (.aload_n 0, 1) := by decide +kernel
theorem dX10_serve_11 : decode cX10_serve 11 = .ok (.aload_n 0, 1) := by decide +kernel
theorem dX10_serve_12 : decode cX10_serve 12 = .ok (.getfield 35, 3) := by decide +kernel
theorem dX10_serve_15 : decode cX10_serve 15 = .ok (.iload_n 1, 1) := by decide +kernel
theorem dX10_serve_16 : decode cX10_serve 16 = .ok (.iaload, 1) := by decide +kernel
theorem dX10_serve_17 : decode cX10_serve 17 = .ok (.iconst 2, 1) := by decide +kernel
theorem dX10_serve_18 : decode cX10_serve 18 = .ok (.if_icmp .ne 7, 3) := by decide +kernel
theorem dX10_serve_21 : decode cX10_serve 21 = .ok (.iconst 5, 1) := by decide +kernel
theorem dX10_serve_22 : decode cX10_serve 22 = .ok (.goto 4, 3) := by decide +kernel
theorem dX10_serve_25 : decode cX10_serve 25 = .ok (.iconst 4, 1) := by decide +kernel
theorem dX10_serve_26 : decode cX10_serve 26 = .ok (.invokevirtual 291, 3) := by decide +kernel
theorem dX10_serve_29 : decode cX10_serve 29 = .ok (.aload_n 0, 1) := by decide +kernel
theorem dX10_serve_30 : decode cX10_serve 30 = .ok (.getfield 35, 3) := by decide +kernel
theorem dX10_serve_33 : decode cX10_serve 33 = .ok (.iload_n 1, 1) := by decide +kernel
theorem dX10_serve_34 : decode cX10_serve 34 = .ok (.iaload, 1) := by decide +kernel
theorem dX10_serve_35 : decode cX10_serve 35 = .ok (.iconst 2, 1) := by decide +kernel
theorem dX10_serve_36 : decode cX10_serve 36 = .ok (.if_icmp .ne 8, 3) := by decide +kernel
theorem dX10_serve_39 : decode cX10_serve 39 = .ok (.bipush 50, 2) := by decide +kernel
theorem dX10_serve_41 : decode cX10_serve 41 = .ok (.goto 4, 3) := by decide +kernel
theorem dX10_serve_44 : decode cX10_serve 44 = .ok (.iload_n 1, 1) := by decide +kernel
theorem dX10_serve_45 : decode cX10_serve 45 = .ok (.ireturn, 1) := by decide +kernel
theorem dX10_as_0 : decode cX10_as 0 = .ok (.aload_n 0, 1) := by decide +kernel
theorem dX10_as_1 : decode cX10_as 1 = .ok (.iconst 0, 1) := by decide +kernel
theorem dX10_as_2 : decode cX10_as 2 = .ok (.putfield 99, 3) := by decide +kernel
theorem dX10_as_5 : decode cX10_as 5 = .ok (.aload_n 0, 1) := by decide +kernel
theorem dX10_as_6 : decode cX10_as 6 = .ok (.iload_n 1, 1) := by decide +kernel
theorem dX10_as_7 : decode cX10_as 7 = .ok (.invokevirtual 156, 3) := by decide +kernel
theorem dX10_as_10 : decode cX10_as 10 = .ok (.ifCond .ne 5, 3) := by decide +kernel
theorem dX10_as_13 : decode cX10_as 13 = .ok (.iconst (-1), 1) := by decide +kernel
theorem dX10_as_14 : decode cX10_as 14 = .ok (.ireturn, 1) := by decide +kernel
theorem dX10_as_15 : decode cX10_as 15 = .ok (.iload_n 2, 1) := by decide +kernel
theorem dX10_as_16 : decode cX10_as 16 = .ok (.iconst 0, 1) := by decide +kernel
theorem dX10_as_17 : decode cX10_as 17 = .ok (.iconst 2, 1) := by decide +kernel
theorem dX10_as_18 : decode cX10_as 18 = .ok (.invokestatic 104, 3) := by decide +kernel
theorem dX10_as_21 : decode cX10_as 21 = .ok (.ifCond .ne 6, 3) := by decide +kernel
theorem dX10_as_24 : decode cX10_as 24 = .ok (.bipush (-2), 2) := by decide +kernel
theorem dX10_as_26 : decode cX10_as 26 = .ok (.ireturn, 1) := by decide +kernel
theorem dX10_as_27 : decode cX10_as 27 = .ok (.aload_n 0, 1) := by decide +kernel
theorem dX10_as_28 : decode cX10_as 28 = .ok (.getfield 35, 3) := by decide +kernel
theorem dX10_as_31 : decode cX10_as 31 = .ok (.iload_n 1, 1) := by decide +kernel
theorem dX10_as_32 : decode cX10_as 32 = .ok (.iaload, 1) := by decide +kernel
theorem dX10_as_33 : decode cX10_as 33 = .ok (.iload_n 2, 1) := by decide +kernel
theorem dX10_as_34 : decode cX10_as 34 = .ok (.if_icmp .lt 7, 3) := by decide +kernel
theorem dX10_as_37 : decode cX10_as 37 = .ok (.iconst 1, 1) := by decide +kernel
theorem dX10_as_38 : decode cX10_as 38 = .ok (.goto 8, 3) := by decide +kernel
theorem dX10_as_41 : decode cX10_as 41 = .ok (.aload_n 0, 1) := by decide +kernel
theorem dX10_as_42 : decode cX10_as 42 = .ok (.iconst 2, 1) := by decide +kernel
theorem dX10_as_43 : decode cX10_as 43 = .ok (.invokevirtual 125, 3) := by decide +kernel
theorem dX10_as_46 : decode cX10_as 46 = .ok (.ireturn, 1) := by decide +kernel
theorem dX10_trace_0 : decode cX10_trace 0 = .ok (.aload_n 0, 1) := by decide +kernel
theorem dX10_trace_1 : decode cX10_trace 1 = .ok (.getfield 288, 3) := by decide +kernel
theorem dX10_trace_4 : decode cX10_trace 4 = .ok (.ireturn, 1) := by decide +kernel
theorem dX10_fault_0 : decode cX10_fault 0 = .ok (.aload_n 0, 1) := by decide +kernel
theorem dX10_fault_1 : decode cX10_fault 1 = .ok (.getfield 99, 3) := by decide +kernel
theorem dX10_fault_4 : decode cX10_fault 4 = .ok (.ireturn, 1) := by decide +kernel
theorem dX10_many_0 : decode cX10_many 0 = .ok (.iconst 0, 1) := by decide +kernel
theorem dX10_many_1 : decode cX10_many 1 = .ok (.istore_n 2, 1) := by decide +kernel
theorem dX10_many_2 : decode cX10_many 2 = .ok (.iconst 0, 1) := by decide +kernel
theorem dX10_many_3 : decode cX10_many 3 = .ok (.istore_n 3, 1) := by decide +kernel
theorem dX10_many_4 : decode cX10_many 4 = .ok (.iload_n 3, 1) := by decide +kernel
theorem dX10_many_5 : decode cX10_many 5 = .ok (.aload_n 0, 1) := by decide +kernel
theorem dX10_many_6 : decode cX10_many 6 = .ok (.getfield 108, 3) := by decide +kernel
theorem dX10_many_9 : decode cX10_many 9 = .ok (.if_icmp .ge 18, 3) := by decide +kernel
theorem dX10_many_12 : decode cX10_many 12 = .ok (.iload_n 2, 1) := by decide +kernel
theorem dX10_many_13 : decode cX10_many 13 = .ok (.aload_n 0, 1) := by decide +kernel
theorem dX10_many_14 : decode cX10_many 14 = .ok (.getfield 22, 3) := by decide +kernel
theorem dX10_many_17 : decode cX10_many 17 = .ok (.iload_n 3, 1) := by decide +kernel
theorem dX10_many_18 : decode cX10_many 18 = .ok (.iaload, 1) := by decide +kernel
theorem dX10_many_19 : decode cX10_many 19 = .ok (.iadd, 1) := by decide +kernel
theorem dX10_many_20 : decode cX10_many 20 = .ok (.istore_n 2, 1) := by decide +kernel
theorem dX10_many_21 : decode cX10_many 21 = .ok (.iinc 3 1, 3) := by decide +kernel
theorem dX10_many_24 : decode cX10_many 24 = .ok (.goto (-20), 3) := by decide +kernel
theorem dX10_many_27 : decode cX10_many 27 = .ok (.iload_n 1, 1) := by decide +kernel
theorem dX10_many_28 : decode cX10_many 28 = .ok (.tableswitch 84 0 6 #[44, 49, 54, 59, 64, 77, 82], 44) := by decide +kernel
theorem dX10_many_72 : decode cX10_many 72 = .ok (.aload_n 0, 1) := by decide +kernel
theorem dX10_many_73 : decode cX10_many 73 = .ok (.getfield 108, 3) := by decide +kernel
theorem dX10_many_76 : decode cX10_many 76 = .ok (.ireturn, 1) := by decide +kernel
theorem dX10_many_77 : decode cX10_many 77 = .ok (.aload_n 0, 1) := by decide +kernel
theorem dX10_many_78 : decode cX10_many 78 = .ok (.getfield 135, 3) := by decide +kernel
theorem dX10_many_81 : decode cX10_many 81 = .ok (.ireturn, 1) := by decide +kernel
theorem dX10_many_82 : decode cX10_many 82 = .ok (.aload_n 0, 1) := by decide +kernel
theorem dX10_many_83 : decode cX10_many 83 = .ok (.getfield 138, 3) := by decide +kernel
theorem dX10_many_86 : decode cX10_many 86 = .ok (.ireturn, 1) := by decide +kernel
theorem dX10_many_87 : decode cX10_many 87 = .ok (.aload_n 0, 1) := by decide +kernel
theorem dX10_many_88 : decode cX10_many 88 = .ok (.getfield 141, 3) := by decide +kernel
theorem dX10_many_91 : decode cX10_many 91 = .ok (.ireturn, 1) := by decide +kernel
theorem dX10_many_92 : decode cX10_many 92 = .ok (.aload_n 0, 1) := by decide +kernel
theorem dX10_many_93 : decode cX10_many 93 = .ok (.getfield 144, 3) := by decide +kernel
theorem dX10_many_96 : decode cX10_many 96 = .ok (.ifCond .eq 7, 3) := by decide +kernel
theorem dX10_many_99 : decode cX10_many 99 = .ok (.iconst 1, 1) := by decide +kernel
theorem dX10_many_100 : decode cX10_many 100 = .ok (.goto 4, 3) := by decide +kernel
theorem dX10_many_103 : decode cX10_many 103 = .ok (.iconst 0, 1) := by decide +kernel
theorem dX10_many_104 : decode cX10_many 104 = .ok (.ireturn, 1) := by decide +kernel
theorem dX10_many_105 : decode cX10_many 105 = .ok (.aload_n 0, 1) := by decide +kernel
theorem dX10_many_106 : decode cX10_many 106 = .ok (.getfield 25, 3) := by decide +kernel
theorem dX10_many_109 : decode cX10_many 109 = .ok (.ireturn, 1) := by decide +kernel
theorem dX10_many_110 : decode cX10_many 110 = .ok (.iload_n 2, 1) := by decide +kernel
theorem dX10_many_111 : decode cX10_many 111 = .ok (.ireturn, 1) := by decide +kernel
theorem dX10_many_112 : decode cX10_many 112 = .ok (.bipush (-2), 2) := by decide +kernel
theorem dX10_many_114 : decode cX10_many 114 = .ok (.ireturn, 1) := by decide +kernel
