theorem dX9_init_0 : decode cX9_init 0 = .ok (.aload_n 0, 1) := by decide +kernel
theorem dX9_init_1 : decode cX9_init 1 = .ok (.invokespecial 1, 3) := by decide +kernel
theorem dX9_init_4 : decode cX9_init 4 = .ok (.aload_n 0, 1) := by decide +kernel
theorem dX9_init_5 : decode cX9_init 5 = .ok (.sipush 380, 3) := by decide +kernel
theorem dX9_init_8 : decode cX9_init 8 = .ok (.newarray .int, 2) := by decide +kernel
theorem dX9_init_10 : decode cX9_init 10 = .ok (.putfield 7, 3) := by decide +kernel
theorem dX9_init_13 : decode cX9_init 13 = .ok (.aload_n 0, 1) := by decide +kernel
theorem dX9_init_14 : decode cX9_init 14 = .ok (.iconst 3, 1) := by decide +kernel
theorem dX9_init_15 : decode cX9_init 15 = .ok (.newarray .int, 2) := by decide +kernel
theorem dX9_init_17 : decode cX9_init 17 = .ok (.putfield 13, 3) := by decide +kernel
theorem dX9_init_20 : decode cX9_init 20 = .ok (.aload_n 0, 1) := by decide +kernel
theorem dX9_init_21 : decode cX9_init 21 = .ok (.bipush 7, 2) := by decide +kernel
theorem dX9_init_23 : decode cX9_init 23 = .ok (.newarray .int, 2) := by decide +kernel
theorem dX9_init_25 : decode cX9_init 25 = .ok (.putfield 16, 3) := by decide +kernel
theorem dX9_init_28 : decode cX9_init 28 = .ok (.aload_n 0, 1) := by decide +kernel
theorem dX9_init_29 : decode cX9_init 29 = .ok (.bipush 7, 2) := by decide +kernel
theorem dX9_init_31 : decode cX9_init 31 = .ok (.newarray .int, 2) := by decide +kernel
theorem dX9_init_33 : decode cX9_init 33 = .ok (.putfield 19, 3) := by decide +kernel
theorem dX9_init_36 : decode cX9_init 36 = .ok (.aload_n 0, 1) := by decide +kernel
theorem dX9_init_37 : decode cX9_init 37 = .ok (.bipush 7, 2) := by decide +kernel
theorem dX9_init_39 : decode cX9_init 39 = .ok (.newarray .int, 2) := by decide +kernel
theorem dX9_init_41 : decode cX9_init 41 = .ok (.putfield 22, 3) := by decide +kernel
theorem dX9_init_44 : decode cX9_init 44 = .ok (.aload_n 0, 1) := by decide +kernel
theorem dX9_init_45 : decode cX9_init 45 = .ok (.bipush 7, 2) := by decide +kernel
theorem dX9_init_47 : decode cX9_init 47 = .ok (.newarray .int, 2) := by decide +kernel
theorem dX9_init_49 : decode cX9_init 49 = .ok (.putfield 25, 3) := by decide +kernel
theorem dX9_init_52 : decode cX9_init 52 = .ok (.aload_n 0, 1) := by decide +kernel
theorem dX9_init_53 : decode cX9_init 53 = .ok (.bipush 7, 2) := by decide +kernel
theorem dX9_init_55 : decode cX9_init 55 = .ok (.newarray .int, 2) := by decide +kernel
theorem dX9_init_57 : decode cX9_init 57 = .ok (.putfield 28, 3) := by decide +kernel
theorem dX9_init_60 : decode cX9_init 60 = .ok (.aload_n 0, 1) := by decide +kernel
theorem dX9_init_61 : decode cX9_init 61 = .ok (.bipush 6, 2) := by decide +kernel
theorem dX9_init_63 : decode cX9_init 63 = .ok (.newarray .int, 2) := by decide +kernel
theorem dX9_init_65 : decode cX9_init 65 = .ok (.putfield 31, 3) := by decide +kernel
theorem dX9_init_68 : decode cX9_init 68 = .ok (.aload_n 0, 1) := by decide +kernel
theorem dX9_init_69 : decode cX9_init 69 = .ok (.bipush 6, 2) := by decide +kernel
theorem dX9_init_71 : decode cX9_init 71 = .ok (.newarray .int, 2) := by decide +kernel
theorem dX9_init_73 : decode cX9_init 73 = .ok (.putfield 34, 3) := by decide +kernel
theorem dX9_init_76 : decode cX9_init 76 = .ok (.aload_n 0, 1) := by decide +kernel
theorem dX9_init_77 : decode cX9_init 77 = .ok (.bipush 6, 2) := by decide +kernel
theorem dX9_init_79 : decode cX9_init 79 = .ok (.newarray .int, 2) := by decide +kernel
theorem dX9_init_81 : decode cX9_init 81 = .ok (.putfield 37, 3) := by decide +kernel
theorem dX9_init_84 : decode cX9_init 84 = .ok (.aload_n 0, 1) := by decide +kernel
theorem dX9_init_85 : decode cX9_init 85 = .ok (.sipush 200, 3) := by decide +kernel
theorem dX9_init_88 : decode cX9_init 88 = .ok (.newarray .int, 2) := by decide +kernel
theorem dX9_init_90 : decode cX9_init 90 = .ok (.putfield 40, 3) := by decide +kernel
theorem dX9_init_93 : decode cX9_init 93 = .ok (.aload_n 0, 1) := by decide +kernel
theorem dX9_init_94 : decode cX9_init 94 = .ok (.bipush 9, 2) := by decide +kernel
theorem dX9_init_96 : decode cX9_init 96 = .ok (.newarray .int, 2) := by decide +kernel
theorem dX9_init_98 : decode cX9_init 98 = .ok (.putfield 43, 3) := by decide +kernel
theorem dX9_init_101 : decode cX9_init 101 = .ok (.aload_n 0, 1) := by decide +kernel
theorem dX9_init_102 : decode cX9_init 102 = .ok (.bipush 35, 2) := by decide +kernel
theorem dX9_init_104 : decode cX9_init 104 = .ok (.newarray .int, 2) := by decide +kernel
theorem dX9_init_106 : decode cX9_init 106 = .ok (.putfield 46, 3) := by decide +kernel
theorem dX9_init_109 : decode cX9_init 109 = .ok (.aload_n 0, 1) := by decide +kernel
theorem dX9_init_110 : decode cX9_init 110 = .ok (.bipush 8, 2) := by decide +kernel
theorem dX9_init_112 : decode cX9_init 112 = .ok (.newarray .int, 2) := by decide +kernel
theorem dX9_init_114 : decode cX9_init 114 = .ok (.putfield 49, 3) := by decide +kernel
theorem dX9_init_117 : decode cX9_init 117 = .ok (.aload_n 0, 1) := by decide +kernel
theorem dX9_init_118 : decode cX9_init 118 = .ok (.bipush 8, 2) := by decide +kernel
theorem dX9_init_120 : decode cX9_init 120 = .ok (.newarray .int, 2) := by decide +kernel
theorem dX9_init_122 : decode cX9_init 122 = .ok (.putfield 52, 3) := by decide +kernel
theorem dX9_init_125 : decode cX9_init 125 = .ok (.aload_n 0, 1) := by decide +kernel
theorem dX9_init_126 : decode cX9_init 126 = .ok (.bipush 7, 2) := by decide +kernel
theorem dX9_init_128 : decode cX9_init 128 = .ok (.newarray .int, 2) := by decide +kernel
theorem dX9_init_130 : decode cX9_init 130 = .ok (.putfield 55, 3) := by decide +kernel
theorem dX9_init_133 : decode cX9_init 133 = .ok (.aload_n 0, 1) := by decide +kernel
theorem dX9_init_134 : decode cX9_init 134 = .ok (.sipush 246, 3) := by decide +kernel
theorem dX9_init_137 : decode cX9_init 137 = .ok (.newarray .int, 2) := by decide +kernel
theorem dX9_init_139 : decode cX9_init 139 = .ok (.putfield 58, 3) := by decide +kernel
theorem dX9_init_142 : decode cX9_init 142 = .ok (.aload_n 0, 1) := by decide +kernel
theorem dX9_init_143 : decode cX9_init 143 = .ok (.sipush 2401, 3) := by decide +kernel
theorem dX9_init_146 : decode cX9_init 146 = .ok (.newarray .int, 2) := by decide +kernel
theorem dX9_init_148 : decode cX9_init 148 = .ok (.putfield 61, 3) := by decide +kernel
theorem dX9_init_151 : decode cX9_init 151 = .ok (.aload_n 0, 1) := by decide +kernel
theorem dX9_init_152 : decode cX9_init 152 = .ok (.iconst 4, 1) := by decide +kernel
theorem dX9_init_153 : decode cX9_init 153 = .ok (.putfield 64, 3) := by decide +kernel
theorem dX9_init_156 : decode cX9_init 156 = .ok (.aload_n 0, 1) := by decide +kernel
theorem dX9_init_157 : decode cX9_init 157 = .ok (.iconst 4, 1) := by decide +kernel
theorem dX9_init_158 : decode cX9_init 158 = .ok (.putfield 68, 3) := by decide +kernel
theorem dX9_init_161 : decode cX9_init 161 = .ok (.aload_n 0, 1) := by decide +kernel
theorem dX9_init_162 : decode cX9_init 162 = .ok (.iconst 0, 1) := by decide +kernel
theorem dX9_init_163 : decode cX9_init 163 = .ok (.iconst 0, 1) := by decide +kernel
theorem dX9_init_164 : decode cX9_init 164 = .ok (.bipush 10, 2) := by decide +kernel
theorem dX9_init_166 : decode cX9_init 166 = .ok (.invokevirtual 71, 3) := by decide +kernel
theorem dX9_init_169 : decode cX9_init 169 = .ok (.aload_n 0, 1) := by decide +kernel
theorem dX9_init_170 : decode cX9_init 170 = .ok (.iconst 1, 1) := by decide +kernel
theorem dX9_init_171 : decode cX9_init 171 = .ok (.bipush 15, 2) := by decide +kernel
theorem dX9_init_173 : decode cX9_init 173 = .ok (.bipush 15, 2) := by decide +kernel
theorem dX9_init_175 : decode cX9_init 175 = .ok (.invokevirtual 71, 3) := by decide +kernel
theorem dX9_init_178 : decode cX9_init 178 = .ok (.aload_n 0, 1) := by decide +kernel
theorem dX9_init_179 : decode cX9_init 179 = .ok (.iconst 2, 1) := by decide +kernel
theorem dX9_init_180 : decode cX9_init 180 = .ok (.iconst 5, 1) := by decide +kernel
theorem dX9_init_181 : decode cX9_init 181 = .ok (.iconst 2, 1) := by decide +kernel
theorem dX9_init_182 : decode cX9_init 182 = .ok (.invokevirtual 71, 3) := by decide +kernel
theorem dX9_init_185 : decode cX9_init 185 = .ok (.aload_n 0, 1) := by decide +kernel
theorem dX9_init_186 : decode cX9_init 186 = .ok (.iconst 0, 1) := by decide +kernel
theorem dX9_init_187 : decode cX9_init 187 = .ok (.iconst 1, 1) := by decide +kernel
theorem dX9_init_188 : decode cX9_init 188 = .ok (.bipush 14, 2) := by decide +kernel
theorem dX9_init_190 : decode cX9_init 190 = .ok (.iconst 0, 1) := by decide +kernel
theorem dX9_init_191 : decode cX9_init 191 = .ok (.bipush 9, 2) := by decide +kernel
theorem dX9_init_193 : decode cX9_init 193 = .ok (.invokevirtual 75, 3) := by decide +kernel
theorem dX9_init_196 : decode cX9_init 196 = .ok (.aload_n 0, 1) := by decide +kernel
theorem dX9_init_197 : decode cX9_init 197 = .ok (.iconst 1, 1) := by decide +kernel
theorem dX9_init_198 : decode cX9_init 198 = .ok (.iconst 4, 1) := by decide +kernel
theorem dX9_init_199 : decode cX9_init 199 = .ok (.bipush 7, 2) := by decide +kernel
theorem dX9_init_201 : decode cX9_init 201 = .ok (.iconst 2, 1) := by decide +kernel
theorem dX9_init_202 : decode cX9_init 202 = .ok (.bipush 20, 2) := by decide +kernel
theorem dX9_init_204 : decode cX9_init 204 = .ok (.invokevirtual 75, 3) := by decide +kernel
theorem dX9_init_207 : decode cX9_init 207 = .ok (.aload_n 0, 1) := by decide +kernel
theorem dX9_init_208 : decode cX9_init 208 = .ok (.iconst 2, 1) := by decide +kernel
theorem dX9_init_209 : decode cX9_init 209 = .ok (.bipush 12, 2) := by decide +kernel
theorem dX9_init_211 : decode cX9_init 211 = .ok (.iconst 3, 1) := by decide +kernel
theorem dX9_init_212 : decode cX9_init 212 = .ok (.iconst 3, 1) := by decide +kernel
theorem dX9_init_213 : decode cX9_init 213 = .ok (.bipush 12, 2) := by decide +kernel
theorem dX9_init_215 : decode cX9_init 215 = .ok (.invokevirtual 75, 3) := by decide +kernel
theorem dX9_init_218 : decode cX9_init 218 = .ok (.aload_n 0, 1) := by decide +kernel
theorem dX9_init_219 : decode cX9_init 219 = .ok (.iconst 3, 1) := by decide +kernel
theorem dX9_init_220 : decode cX9_init 220 = .ok (.bipush 9, 2) := by decide +kernel
theorem dX9_init_222 : decode cX9_init 222 = .ok (.iconst 2, 1) := by decide +kernel
theorem dX9_init_223 : decode cX9_init 223 = .ok (.iconst 5, 1) := by decide +kernel
theorem dX9_init_224 : decode cX9_init 224 = .ok (.bipush 15, 2) := by decide +kernel
theorem dX9_init_226 : decode cX9_init 226 = .ok (.invokevirtual 75, 3) := by decide +kernel
theorem dX9_init_229 : decode cX9_init 229 = .ok (.aload_n 0, 1) := by decide +kernel
theorem dX9_init_230 : decode cX9_init 230 = .ok (.iconst 0, 1) := by decide +kernel
theorem dX9_init_231 : decode cX9_init 231 = .ok (.bipush 6, 2) := by decide +kernel
theorem dX9_init_233 : decode cX9_init 233 = .ok (.bipush 11, 2) := by decide +kernel
theorem dX9_init_235 : decode cX9_init 235 = .ok (.bipush 6, 2) := by decide +kernel
theorem dX9_init_237 : decode cX9_init 237 = .ok (.bipush 6, 2) := by decide +kernel
theorem dX9_init_239 : decode cX9_init 239 = .ok (.invokevirtual 75, 3) := by decide +kernel
theorem dX9_init_242 : decode cX9_init 242 = .ok (.aload_n 0, 1) := by decide +kernel
theorem dX9_init_243 : decode cX9_init 243 = .ok (.iconst 1, 1) := by decide +kernel
theorem dX9_init_244 : decode cX9_init 244 = .ok (.bipush 13, 2) := by decide +kernel
theorem dX9_init_246 : decode cX9_init 246 = .ok (.iconst 0, 1) := by decide +kernel
theorem dX9_init_247 : decode cX9_init 247 = .ok (.bipush 9, 2) := by decide +kernel
theorem dX9_init_249 : decode cX9_init 249 = .ok (.bipush 30, 2) := by decide +kernel
theorem dX9_init_251 : decode cX9_init 251 = .ok (.invokevirtual 75, 3) := by decide +kernel
theorem dX9_init_254 : decode cX9_init 254 = .ok (.aload_n 0, 1) := by decide +kernel
theorem dX9_init_255 : decode cX9_init 255 = .ok (.invokevirtual 79, 3) := by decide +kernel
theorem dX9_init_258 : decode cX9_init 258 = .ok (.return_, 1) := by decide +kernel
theorem dX9_in_0 : decode cX9_in 0 = .ok (.lload_n 0, 1) := by decide +kernel
theorem dX9_in_1 : decode cX9_in 1 = .ok (.lload_n 2, 1) := by decide +kernel
theorem dX9_in_2 : decode cX9_in 2 = .ok (.lcmp, 1) := by decide +kernel
theorem dX9_in_3 : decode cX9_in 3 = .ok (.ifCond .lt 14, 3) := by decide +kernel
theorem dX9_in_6 : decode cX9_in 6 = .ok (.lload_n 0, 1) := by decide +kernel
theorem dX9_in_7 : decode cX9_in 7 = .ok (.lload 4, 2) := by decide +kernel
theorem dX9_in_9 : decode cX9_in 9 = .ok (.lcmp, 1) := by decide +kernel
theorem dX9_in_10 : decode cX9_in 10 = .ok (.ifCond .gt 7, 3) := by decide +kernel
theorem dX9_in_13 : decode cX9_in 13 = .ok (.iconst 1, 1) := by decide +kernel
theorem dX9_in_14 : decode cX9_in 14 = .ok (.goto 4, 3) := by decide +kernel
theorem dX9_in_17 : decode cX9_in 17 = .ok (.iconst 0, 1) := by decide +kernel
theorem dX9_in_18 : decode cX9_in 18 = .ok (.ireturn, 1) := by decide +kernel
theorem dX9_has_0 : decode cX9_has 0 = .ok (.iload_n 0, 1) := by decide +kernel
theorem dX9_has_1 : decode cX9_has 1 = .ok (.iload_n 1, 1) := by decide +kernel
theorem dX9_has_2 : decode cX9_has 2 = .ok (.ishr, 1) := by decide +kernel
theorem dX9_has_3 : decode cX9_has 3 = .ok (.iconst 1, 1) := by decide +kernel
theorem dX9_has_4 : decode cX9_has 4 = .ok (.iand, 1) := by decide +kernel
theorem dX9_has_5 : decode cX9_has 5 = .ok (.iconst 1, 1) := by decide +kernel
theorem dX9_has_6 : decode cX9_has 6 = .ok (.if_icmp .ne 7, 3) := by decide +kernel
theorem dX9_has_9 : decode cX9_has 9 = .ok (.iconst 1, 1) := by decide +kernel
theorem dX9_has_10 : decode cX9_has 10 = .ok (.goto 4, 3) := by decide +kernel
theorem dX9_has_13 : decode cX9_has 13 = .ok (.iconst 0, 1) := by decide +kernel
theorem dX9_has_14 : decode cX9_has 14 = .ok (.ireturn, 1) := by decide +kernel
theorem dX9_ones_0 : decode cX9_ones 0 = .ok (.iconst 0, 1) := by decide +kernel
theorem dX9_ones_1 : decode cX9_ones 1 = .ok (.istore_n 1, 1) := by decide +kernel
theorem dX9_ones_2 : decode cX9_ones 2 = .ok (.iconst 0, 1) := by decide +kernel
theorem dX9_ones_3 : decode cX9_ones 3 = .ok (.istore_n 2, 1) := by decide +kernel
theorem dX9_ones_4 : decode cX9_ones 4 = .ok (.iload_n 2, 1) := by decide +kernel
theorem dX9_ones_5 : decode cX9_ones 5 = .ok (.bipush 7, 2) := by decide +kernel
theorem dX9_ones_7 : decode cX9_ones 7 = .ok (.if_icmp .ge 17, 3) := by decide +kernel
theorem dX9_ones_10 : decode cX9_ones 10 = .ok (.iload_n 1, 1) := by decide +kernel
theorem dX9_ones_11 : decode cX9_ones 11 = .ok (.iload_n 0, 1) := by decide +kernel
theorem dX9_ones_12 : decode cX9_ones 12 = .ok (.iload_n 2, 1) := by decide +kernel
theorem dX9_ones_13 : decode cX9_ones 13 = .ok (.ishr, 1) := by decide +kernel
theorem dX9_ones_14 : decode cX9_ones 14 = .ok (.iconst 1, 1) := by decide +kernel
theorem dX9_ones_15 : decode cX9_ones 15 = .ok (.iand, 1) := by decide +kernel
theorem dX9_ones_16 : decode cX9_ones 16 = .ok (.iadd, 1) := by decide +kernel
theorem dX9_ones_17 : decode cX9_ones 17 = .ok (.istore_n 1, 1) := by decide +kernel
theorem dX9_ones_18 : decode cX9_ones 18 = .ok (.iinc 2 1, 3) := by decide +kernel
theorem dX9_ones_21 : decode cX9_ones 21 = .ok (.goto (-17), 3) := by decide +kernel
theorem dX9_ones_24 : decode cX9_ones 24 = .ok (.iload_n 1, 1) := by decide +kernel
theorem dX9_ones_25 : decode cX9_ones 25 = .ok (.ireturn, 1) := by decide +kernel
theorem dX9_copy_0 : decode cX9_copy 0 = .ok (.iconst 0, 1) := by decide +kernel
theorem dX9_copy_1 : decode cX9_copy 1 = .ok (.istore_n 3, 1) := by decide +kernel
theorem dX9_copy_2 : decode cX9_copy 2 = .ok (.iload_n 3, 1) := by decide +kernel
theorem dX9_copy_3 : decode cX9_copy 3 = .ok (.bipush 19, 2) := by decide +kernel
theorem dX9_copy_5 : decode cX9_copy 5 = .ok (.if_icmp .ge 25, 3) := by decide +kernel
theorem dX9_copy_8 : decode cX9_copy 8 = .ok (.aload_n 0, 1) := by decide +kernel
theorem dX9_copy_9 : decode cX9_copy 9 = .ok (.getfield 7, 3) := by decide +kernel
theorem dX9_copy_12 : decode cX9_copy 12 = .ok (.iload_n 2, 1) := by decide +kernel
theorem dX9_copy_13 : decode cX9_copy 13 = .ok (.iload_n 3, 1) := by decide +kernel
theorem dX9_copy_14 : decode cX9_copy 14 = .ok (.iadd, 1) := by decide +kernel
theorem dX9_copy_15 : decode cX9_copy 15 = .ok (.aload_n 0, 1) := by decide +kernel
theorem dX9_copy_16 : decode cX9_copy 16 = .ok (.getfield 7, 3) := by decide +kernel
theorem dX9_copy_19 : decode cX9_copy 19 = .ok (.iload_n 1, 1) := by decide +kernel
theorem dX9_copy_20 : decode cX9_copy 20 = .ok (.iload_n 3, 1) := by decide +kernel
theorem dX9_copy_21 : decode cX9_copy 21 = .ok (.iadd, 1) := by decide +kernel
theorem dX9_copy_22 : decode cX9_copy 22 = .ok (.iaload, 1) := by decide +kernel
theorem dX9_copy_23 : decode cX9_copy 23 = .ok (.iastore, 1) := by decide +kernel
theorem dX9_copy_24 : decode cX9_copy 24 = .ok (.iinc 3 1, 3) := by decide +kernel
theorem dX9_copy_27 : decode cX9_copy 27 = .ok (.goto (-25), 3) := by decide +kernel
theorem dX9_copy_30 : decode cX9_copy 30 = .ok (.return_, 1) := by decide +kernel
theorem dX9_places_0 : decode cX9_places 0 = .ok (.aload_n 0, 1) := by decide +kernel
theorem dX9_places_1 : decode cX9_places 1 = .ok (.getfield 82, 3) := by decide +kernel
theorem dX9_places_4 : decode cX9_places 4 = .ok (.aload_n 0, 1) := by decide +kernel
theorem dX9_places_5 : decode cX9_places 5 = .ok (.getfield 85, 3) := by decide +kernel
theorem dX9_places_8 : decode cX9_places 8 = .ok (.imul, 1) := by decide +kernel
theorem dX9_places_9 : decode cX9_places 9 = .ok (.ireturn, 1) := by decide +kernel
theorem dX9_isPlace_0 : decode cX9_isPlace 0 = .ok (.iload_n 1, 1) := by decide +kernel
theorem dX9_isPlace_1 : decode cX9_isPlace 1 = .ok (.i2l, 1) := by decide +kernel
theorem dX9_isPlace_2 : decode cX9_isPlace 2 = .ok (.lconst 0, 1) := by decide +kernel
theorem dX9_isPlace_3 : decode cX9_isPlace 3 = .ok (.aload_n 0, 1) := by decide +kernel
theorem dX9_isPlace_4 : decode cX9_isPlace 4 = .ok (.invokevirtual 88, 3) := by decide +kernel
theorem dX9_isPlace_7 : decode cX9_isPlace 7 = .ok (.iconst 1, 1) := by decide +kernel
theorem dX9_isPlace_8 : decode cX9_isPlace 8 = .ok (.isub, 1) := by decide +kernel
theorem dX9_isPlace_9 : decode cX9_isPlace 9 = .ok (.i2l, 1) := by decide +kernel
theorem dX9_isPlace_10 : decode cX9_isPlace 10 = .ok (.invokestatic 92, 3) := by decide +kernel
theorem dX9_isPlace_13 : decode cX9_isPlace 13 = .ok (.ireturn, 1) := by decide +kernel
theorem dX9_isCab_0 : decode cX9_isCab 0 = .ok (.iload_n 1, 1) := by decide +kernel
theorem dX9_isCab_1 : decode cX9_isCab 1 = .ok (.i2l, 1) := by decide +kernel
theorem dX9_isCab_2 : decode cX9_isCab 2 = .ok (.lconst 0, 1) := by decide +kernel
theorem dX9_isCab_3 : decode cX9_isCab 3 = .ok (.aload_n 0, 1) := by decide +kernel
theorem dX9_isCab_4 : decode cX9_isCab 4 = .ok (.getfield 96, 3) := by decide +kernel
theorem dX9_isCab_7 : decode cX9_isCab 7 = .ok (.iconst 1, 1) := by decide +kernel
theorem dX9_isCab_8 : decode cX9_isCab 8 = .ok (.isub, 1) := by decide +kernel
theorem dX9_isCab_9 : decode cX9_isCab 9 = .ok (.i2l, 1) := by decide +kernel
theorem dX9_isCab_10 : decode cX9_isCab 10 = .ok (.invokestatic 92, 3) := by decide +kernel
theorem dX9_isCab_13 : decode cX9_isCab 13 = .ok (.ireturn, 1) := by decide +kernel
theorem dX9_isFare_0 : decode cX9_isFare 0 = .ok (.iload_n 1, 1) := by decide +kernel
theorem dX9_isFare_1 : decode cX9_isFare 1 = .ok (.i2l, 1) := by decide +kernel
theorem dX9_isFare_2 : decode cX9_isFare 2 = .ok (.lconst 0, 1) := by decide +kernel
theorem dX9_isFare_3 : decode cX9_isFare 3 = .ok (.aload_n 0, 1) := by decide +kernel
theorem dX9_isFare_4 : decode cX9_isFare 4 = .ok (.getfield 99, 3) := by decide +kernel
theorem dX9_isFare_7 : decode cX9_isFare 7 = .ok (.iconst 1, 1) := by decide +kernel
theorem dX9_isFare_8 : decode cX9_isFare 8 = .ok (.isub, 1) := by decide +kernel
theorem dX9_isFare_9 : decode cX9_isFare 9 = .ok (.i2l, 1) := by decide +kernel
theorem dX9_isFare_10 : decode cX9_isFare 10 = .ok (.invokestatic 92, 3) := by decide +kernel
theorem dX9_isFare_13 : decode cX9_isFare 13 = .ok (.ireturn, 1) := by decide +kernel
theorem dX9_addsCab_0 : decode cX9_addsCab 0 = .ok (.aload_n 0, 1) := by decide +kernel
theorem dX9_addsCab_1 : decode cX9_addsCab 1 = .ok (.getfield 43, 3) := by decide +kernel
theorem dX9_addsCab_4 : decode cX9_addsCab 4 = .ok (.iconst 3, 1) := by decide +kernel
theorem dX9_addsCab_5 : decode cX9_addsCab 5 = .ok (.aload_n 0, 1) := by decide +kernel
theorem dX9_addsCab_6 : decode cX9_addsCab 6 = .ok (.getfield 102, 3) := by decide +kernel
theorem dX9_addsCab_9 : decode cX9_addsCab 9 = .ok (.imul, 1) := by decide +kernel
theorem dX9_addsCab_10 : decode cX9_addsCab 10 = .ok (.iload_n 1, 1) := by decide +kernel
theorem dX9_addsCab_11 : decode cX9_addsCab 11 = .ok (.iastore, 1) := by decide +kernel
theorem dX9_addsCab_12 : decode cX9_addsCab 12 = .ok (.aload_n 0, 1) := by decide +kernel
theorem dX9_addsCab_13 : decode cX9_addsCab 13 = .ok (.getfield 43, 3) := by decide +kernel
theorem dX9_addsCab_16 : decode cX9_addsCab 16 = .ok (.iconst 3, 1) := by decide +kernel
theorem dX9_addsCab_17 : decode cX9_addsCab 17 = .ok (.aload_n 0, 1) := by decide +kernel
theorem dX9_addsCab_18 : decode cX9_addsCab 18 = .ok (.getfield 102, 3) := by decide +kernel
theorem dX9_addsCab_21 : decode cX9_addsCab 21 = .ok (.imul, 1) := by decide +kernel
theorem dX9_addsCab_22 : decode cX9_addsCab 22 = .ok (.iconst 1, 1) := by decide +kernel
theorem dX9_addsCab_23 : decode cX9_addsCab 23 = .ok (.iadd, 1) := by decide +kernel
theorem dX9_addsCab_24 : decode cX9_addsCab 24 = .ok (.iload_n 2, 1) := by decide +kernel
theorem dX9_addsCab_25 : decode cX9_addsCab 25 = .ok (.iastore, 1) := by decide +kernel
theorem dX9_addsCab_26 : decode cX9_addsCab 26 = .ok (.aload_n 0, 1) := by decide +kernel
theorem dX9_addsCab_27 : decode cX9_addsCab 27 = .ok (.getfield 43, 3) := by decide +kernel
theorem dX9_addsCab_30 : decode cX9_addsCab 30 = .ok (.iconst 3, 1) := by decide +kernel
theorem dX9_addsCab_31 : decode cX9_addsCab 31 = .ok (.aload_n 0, 1) := by decide +kernel
theorem dX9_addsCab_32 : decode cX9_addsCab 32 = .ok (.getfield 102, 3) := by decide +kernel
theorem dX9_addsCab_35 : decode cX9_addsCab 35 = .ok (.imul, 1) := by decide +kernel
theorem dX9_addsCab_36 : decode cX9_addsCab 36 = .ok (.iconst 2, 1) := by decide +kernel
theorem dX9_addsCab_37 : decode cX9_addsCab 37 = .ok (.iadd, 1) := by decide +kernel
theorem dX9_addsCab_38 : decode cX9_addsCab 38 = .ok (.iload_n 3, 1) := by decide +kernel
theorem dX9_addsCab_39 : decode cX9_addsCab 39 = .ok (.iastore, 1) := by decide +kernel
theorem dX9_addsCab_40 : decode cX9_addsCab 40 = .ok (.aload_n 0, 1) := by decide +kernel
theorem dX9_addsCab_41 : decode cX9_addsCab 41 = .ok (.dup, 1) := by decide +kernel
theorem dX9_addsCab_42 : decode cX9_addsCab 42 = .ok (.getfield 102, 3) := by decide +kernel
theorem dX9_addsCab_45 : decode cX9_addsCab 45 = .ok (.iconst 1, 1) := by decide +kernel
theorem dX9_addsCab_46 : decode cX9_addsCab 46 = .ok (.iadd, 1) := by decide +kernel
theorem dX9_addsCab_47 : decode cX9_addsCab 47 = .ok (.putfield 102, 3) := by decide +kernel
theorem dX9_addsCab_50 : decode cX9_addsCab 50 = .ok (.return_, 1) := by decide +kernel
theorem dX9_addsFare_0 : decode cX9_addsFare 0 = .ok (.aload_n 0, 1) := by decide +kernel
theorem dX9_addsFare_1 : decode cX9_addsFare 1 = .ok (.getfield 46, 3) := by decide +kernel
theorem dX9_addsFare_4 : decode cX9_addsFare 4 = .ok (.iconst 5, 1) := by decide +kernel
theorem dX9_addsFare_5 : decode cX9_addsFare 5 = .ok (.aload_n 0, 1) := by decide +kernel
theorem dX9_addsFare_6 : decode cX9_addsFare 6 = .ok (.getfield 105, 3) := by decide +kernel
theorem dX9_addsFare_9 : decode cX9_addsFare 9 = .ok (.imul, 1) := by decide +kernel
theorem dX9_addsFare_10 : decode cX9_addsFare 10 = .ok (.iload_n 1, 1) := by decide +kernel
theorem dX9_addsFare_11 : decode cX9_addsFare 11 = .ok (.iastore, 1) := by decide +kernel
theorem dX9_addsFare_12 : decode cX9_addsFare 12 = .ok (.aload_n 0, 1) := by decide +kernel
theorem dX9_addsFare_13 : decode cX9_addsFare 13 = .ok (.getfield 46, 3) := by decide +kernel
theorem dX9_addsFare_16 : decode cX9_addsFare 16 = .ok (.iconst 5, 1) := by decide +kernel
theorem dX9_addsFare_17 : decode cX9_addsFare 17 = .ok (.aload_n 0, 1) := by decide +kernel
theorem dX9_addsFare_18 : decode cX9_addsFare 18 = .ok (.getfield 105, 3) := by decide +kernel
theorem dX9_addsFare_21 : decode cX9_addsFare 21 = .ok (.imul, 1) := by decide +kernel
theorem dX9_addsFare_22 : decode cX9_addsFare 22 = .ok (.iconst 1, 1) := by decide +kernel
theorem dX9_addsFare_23 : decode cX9_addsFare 23 = .ok (.iadd, 1) := by decide +kernel
theorem dX9_addsFare_24 : decode cX9_addsFare 24 = .ok (.iload_n 2, 1) := by decide +kernel
theorem dX9_addsFare_25 : decode cX9_addsFare 25 = .ok (.iastore, 1) := by decide +kernel
theorem dX9_addsFare_26 : decode cX9_addsFare 26 = .ok (.aload_n 0, 1) := by decide +kernel
theorem dX9_addsFare_27 : decode cX9_addsFare 27 = .ok (.getfield 46, 3) := by decide +kernel
theorem dX9_addsFare_30 : decode cX9_addsFare 30 = .ok (.iconst 5, 1) := by decide +kernel
theorem dX9_addsFare_31 : decode cX9_addsFare 31 = .ok (.aload_n 0, 1) := by decide +kernel
theorem dX9_addsFare_32 : decode cX9_addsFare 32 = .ok (.getfield 105, 3) := by decide +kernel
theorem dX9_addsFare_35 : decode cX9_addsFare 35 = .ok (.imul, 1) := by decide +kernel
theorem dX9_addsFare_36 : decode cX9_addsFare 36 = .ok (.iconst 2, 1) := by decide +kernel
theorem dX9_addsFare_37 : decode cX9_addsFare 37 = .ok (.iadd, 1) := by decide +kernel
theorem dX9_addsFare_38 : decode cX9_addsFare 38 = .ok (.iload_n 3, 1) := by decide +kernel
theorem dX9_addsFare_39 : decode cX9_addsFare 39 = .ok (.iastore, 1) := by decide +kernel
theorem dX9_addsFare_40 : decode cX9_addsFare 40 = .ok (.aload_n 0, 1) := by decide +kernel
theorem dX9_addsFare_41 : decode cX9_addsFare 41 = .ok (.getfield 46, 3) := by decide +kernel
theorem dX9_addsFare_44 : decode cX9_addsFare 44 = .ok (.iconst 5, 1) := by decide +kernel
theorem dX9_addsFare_45 : decode cX9_addsFare 45 = .ok (.aload_n 0, 1) := by decide +kernel
theorem dX9_addsFare_46 : decode cX9_addsFare 46 = .ok (.getfield 105, 3) := by decide +kernel
theorem dX9_addsFare_49 : decode cX9_addsFare 49 = .ok (.imul, 1) := by decide +kernel
theorem dX9_addsFare_50 : decode cX9_addsFare 50 = .ok (.iconst 3, 1) := by decide +kernel
theorem dX9_addsFare_51 : decode cX9_addsFare 51 = .ok (.iadd, 1) := by decide +kernel
theorem dX9_addsFare_52 : decode cX9_addsFare 52 = .ok (.iload 4, 2) := by decide +kernel
theorem dX9_addsFare_54 : decode cX9_addsFare 54 = .ok (.iastore, 1) := by decide +kernel
theorem dX9_addsFare_55 : decode cX9_addsFare 55 = .ok (.aload_n 0, 1) := by decide +kernel
theorem dX9_addsFare_56 : decode cX9_addsFare 56 = .ok (.getfield 46, 3) := by decide +kernel
theorem dX9_addsFare_59 : decode cX9_addsFare 59 = .ok (.iconst 5, 1) := by decide +kernel
theorem dX9_addsFare_60 : decode cX9_addsFare 60 = .ok (.aload_n 0, 1) := by decide +kernel
theorem dX9_addsFare_61 : decode cX9_addsFare 61 = .ok (.getfield 105, 3) := by decide +kernel
theorem dX9_addsFare_64 : decode cX9_addsFare 64 = .ok (.imul, 1) := by decide +kernel
theorem dX9_addsFare_65 : decode cX9_addsFare 65 = .ok (.iconst 4, 1) := by decide +kernel
theorem dX9_addsFare_66 : decode cX9_addsFare 66 = .ok (.iadd, 1) := by decide +kernel
theorem dX9_addsFare_67 : decode cX9_addsFare 67 = .ok (.iload 5, 2) := by decide +kernel
theorem dX9_addsFare_69 : decode cX9_addsFare 69 = .ok (.iastore, 1) := by decide +kernel
theorem dX9_addsFare_70 : decode cX9_addsFare 70 = .ok (.aload_n 0, 1) := by decide +kernel
theorem dX9_addsFare_71 : decode cX9_addsFare 71 = .ok (.dup, 1) := by decide +kernel
theorem dX9_addsFare_72 : decode cX9_addsFare 72 = .ok (.getfield 105, 3) := by decide +kernel
theorem dX9_addsFare_75 : decode cX9_addsFare 75 = .ok (.iconst 1, 1) := by decide +kernel
theorem dX9_addsFare_76 : decode cX9_addsFare 76 = .ok (.iadd, 1) := by decide +kernel
theorem dX9_addsFare_77 : decode cX9_addsFare 77 = .ok (.putfield 105, 3) := by decide +kernel
theorem dX9_addsFare_80 : decode cX9_addsFare 80 = .ok (.return_, 1) := by decide +kernel
theorem dX9_begins_0 : decode cX9_begins 0 = .ok (.aload_n 0, 1) := by decide +kernel
theorem dX9_begins_1 : decode cX9_begins 1 = .ok (.aload_n 0, 1) := by decide +kernel
theorem dX9_begins_2 : decode cX9_begins 2 = .ok (.getfield 64, 3) := by decide +kernel
theorem dX9_begins_5 : decode cX9_begins 5 = .ok (.putfield 82, 3) := by decide +kernel
theorem dX9_begins_8 : decode cX9_begins 8 = .ok (.aload_n 0, 1) := by decide +kernel
theorem dX9_begins_9 : decode cX9_begins 9 = .ok (.aload_n 0, 1) := by decide +kernel
theorem dX9_begins_10 : decode cX9_begins 10 = .ok (.getfield 68, 3) := by decide +kernel
theorem dX9_begins_13 : decode cX9_begins 13 = .ok (.putfield 85, 3) := by decide +kernel
theorem dX9_begins_16 : decode cX9_begins 16 = .ok (.aload_n 0, 1) := by decide +kernel
theorem dX9_begins_17 : decode cX9_begins 17 = .ok (.aload_n 0, 1) := by decide +kernel
theorem dX9_begins_18 : decode cX9_begins 18 = .ok (.getfield 102, 3) := by decide +kernel
theorem dX9_begins_21 : decode cX9_begins 21 = .ok (.putfield 96, 3) := by decide +kernel
theorem dX9_begins_24 : decode cX9_begins 24 = .ok (.aload_n 0, 1) := by decide +kernel
theorem dX9_begins_25 : decode cX9_begins 25 = .ok (.aload_n 0, 1) := by decide +kernel
theorem dX9_begins_26 : decode cX9_begins 26 = .ok (.getfield 105, 3) := by decide +kernel
theorem dX9_begins_29 : decode cX9_begins 29 = .ok (.putfield 99, 3) := by decide +kernel
theorem dX9_begins_32 : decode cX9_begins 32 = .ok (.iconst 0, 1) := by decide +kernel
theorem dX9_begins_33 : decode cX9_begins 33 = .ok (.istore_n 1, 1) := by decide +kernel
theorem dX9_begins_34 : decode cX9_begins 34 = .ok (.iload_n 1, 1) := by decide +kernel
theorem dX9_begins_35 : decode cX9_begins 35 = .ok (.bipush 19, 2) := by decide +kernel
theorem dX9_begins_37 : decode cX9_begins 37 = .ok (.if_icmp .ge 16, 3) := by decide +kernel
theorem dX9_begins_40 : decode cX9_begins 40 = .ok (.aload_n 0, 1) := by decide +kernel
theorem dX9_begins_41 : decode cX9_begins 41 = .ok (.getfield 7, 3) := by decide +kernel
theorem dX9_begins_44 : decode cX9_begins 44 = .ok (.iload_n 1, 1) := by decide +kernel
theorem dX9_begins_45 : decode cX9_begins 45 = .ok (.iconst 0, 1) := by decide +kernel
theorem dX9_begins_46 : decode cX9_begins 46 = .ok (.iastore, 1) := by decide +kernel
theorem dX9_begins_47 : decode cX9_begins 47 = .ok (.iinc 1 1, 3) := by decide +kernel
theorem dX9_begins_50 : decode cX9_begins 50 = .ok (.goto (-16), 3) := by decide +kernel
theorem dX9_begins_53 : decode cX9_begins 53 = .ok (.iconst 0, 1) := by decide +kernel
theorem dX9_begins_54 : decode cX9_begins 54 = .ok (.istore_n 1, 1) := by decide +kernel
theorem dX9_begins_55 : decode cX9_begins 55 = .ok (.iload_n 1, 1) := by decide +kernel
theorem dX9_begins_56 : decode cX9_begins 56 = .ok (.aload_n 0, 1) := by decide +kernel
theorem dX9_begins_57 : decode cX9_begins 57 = .ok (.getfield 96, 3) := by decide +kernel
theorem dX9_begins_60 : decode cX9_begins 60 = .ok (.if_icmp .ge 79, 3) := by decide +kernel
theorem dX9_begins_63 : decode cX9_begins 63 = .ok (.aload_n 0, 1) := by decide +kernel
theorem dX9_begins_64 : decode cX9_begins 64 = .ok (.getfield 43, 3) := by decide +kernel
theorem dX9_begins_67 : decode cX9_begins 67 = .ok (.iconst 3, 1) := by decide +kernel
theorem dX9_begins_68 : decode cX9_begins 68 = .ok (.iload_n 1, 1) := by decide +kernel
theorem dX9_begins_69 : decode cX9_begins 69 = .ok (.imul, 1) := by decide +kernel
theorem dX9_begins_70 : decode cX9_begins 70 = .ok (.iconst 2, 1) := by decide +kernel
theorem dX9_begins_71 : decode cX9_begins 71 = .ok (.iadd, 1) := by decide +kernel
theorem dX9_begins_72 : decode cX9_begins 72 = .ok (.iaload, 1) := by decide +kernel
theorem dX9_begins_73 : decode cX9_begins 73 = .ok (.istore_n 2, 1) := by decide +kernel
theorem dX9_begins_74 : decode cX9_begins 74 = .ok (.aload_n 0, 1) := by decide +kernel
theorem dX9_begins_75 : decode cX9_begins 75 = .ok (.getfield 13, 3) := by decide +kernel
theorem dX9_begins_78 : decode cX9_begins 78 = .ok (.iload_n 1, 1) := by decide +kernel
theorem dX9_begins_79 : decode cX9_begins 79 = .ok (.aload_n 0, 1) := by decide +kernel
theorem dX9_begins_80 : decode cX9_begins 80 = .ok (.getfield 43, 3) := by decide +kernel
theorem dX9_begins_83 : decode cX9_begins 83 = .ok (.iconst 3, 1) := by decide +kernel
theorem dX9_begins_84 : decode cX9_begins 84 = .ok (.iload_n 1, 1) := by decide +kernel
theorem dX9_begins_85 : decode cX9_begins 85 = .ok (.imul, 1) := by decide +kernel
theorem dX9_begins_86 : decode cX9_begins 86 = .ok (.iaload, 1) := by decide +kernel
theorem dX9_begins_87 : decode cX9_begins 87 = .ok (.iastore, 1) := by decide +kernel
theorem dX9_begins_88 : decode cX9_begins 88 = .ok (.aload_n 0, 1) := by decide +kernel
theorem dX9_begins_89 : decode cX9_begins 89 = .ok (.getfield 7, 3) := by decide +kernel
theorem dX9_begins_92 : decode cX9_begins 92 = .ok (.iconst 1, 1) := by decide +kernel
theorem dX9_begins_93 : decode cX9_begins 93 = .ok (.iload_n 1, 1) := by decide +kernel
theorem dX9_begins_94 : decode cX9_begins 94 = .ok (.iadd, 1) := by decide +kernel
theorem dX9_begins_95 : decode cX9_begins 95 = .ok (.aload_n 0, 1) := by decide +kernel
theorem dX9_begins_96 : decode cX9_begins 96 = .ok (.getfield 43, 3) := by decide +kernel
theorem dX9_begins_99 : decode cX9_begins 99 = .ok (.iconst 3, 1) := by decide +kernel
theorem dX9_begins_100 : decode cX9_begins 100 = .ok (.iload_n 1, 1) := by decide +kernel
theorem dX9_begins_101 : decode cX9_begins 101 = .ok (.imul, 1) := by decide +kernel
theorem dX9_begins_102 : decode cX9_begins 102 = .ok (.iconst 1, 1) := by decide +kernel
theorem dX9_begins_103 : decode cX9_begins 103 = .ok (.iadd, 1) := by decide +kernel
theorem dX9_begins_104 : decode cX9_begins 104 = .ok (.iaload, 1) := by decide +kernel
theorem dX9_begins_105 : decode cX9_begins 105 = .ok (.iastore, 1) := by decide +kernel
theorem dX9_begins_106 : decode cX9_begins 106 = .ok (.aload_n 0, 1) := by decide +kernel
theorem dX9_begins_107 : decode cX9_begins 107 = .ok (.getfield 7, 3) := by decide +kernel
theorem dX9_begins_110 : decode cX9_begins 110 = .ok (.bipush 7, 2) := by decide +kernel
theorem dX9_begins_112 : decode cX9_begins 112 = .ok (.iload_n 1, 1) := by decide +kernel
theorem dX9_begins_113 : decode cX9_begins 113 = .ok (.iadd, 1) := by decide +kernel
theorem dX9_begins_114 : decode cX9_begins 114 = .ok (.iload_n 2, 1) := by decide +kernel
theorem dX9_begins_115 : decode cX9_begins 115 = .ok (.aload_n 0, 1) := by decide +kernel
theorem dX9_begins_116 : decode cX9_begins 116 = .ok (.getfield 7, 3) := by decide +kernel
theorem dX9_begins_119 : decode cX9_begins 119 = .ok (.iconst 1, 1) := by decide +kernel
theorem dX9_begins_120 : decode cX9_begins 120 = .ok (.iload_n 1, 1) := by decide +kernel
theorem dX9_begins_121 : decode cX9_begins 121 = .ok (.iadd, 1) := by decide +kernel
theorem dX9_begins_122 : decode cX9_begins 122 = .ok (.iaload, 1) := by decide +kernel
theorem dX9_begins_123 : decode cX9_begins 123 = .ok (.if_icmp .ne 8, 3) := by decide +kernel
theorem dX9_begins_126 : decode cX9_begins 126 = .ok (.bipush (-4), 2) := by decide +kernel
theorem dX9_begins_128 : decode cX9_begins 128 = .ok (.goto 4, 3) := by decide +kernel
theorem dX9_begins_131 : decode cX9_begins 131 = .ok (.iload_n 2, 1) := by decide +kernel
theorem dX9_begins_132 : decode cX9_begins 132 = .ok (.iastore, 1) := by decide +kernel
theorem dX9_begins_133 : decode cX9_begins 133 = .ok (.iinc 1 1, 3) := by decide +kernel
theorem dX9_begins_136 : decode cX9_begins 136 = .ok (.goto (-81), 3) := by decide +kernel
theorem dX9_begins_139 : decode cX9_begins 139 = .ok (.iconst 0, 1) := by decide +kernel
theorem dX9_begins_140 : decode cX9_begins 140 = .ok (.istore_n 1, 1) := by decide +kernel
theorem dX9_begins_141 : decode cX9_begins 141 = .ok (.iload_n 1, 1) := by decide +kernel
theorem dX9_begins_142 : decode cX9_begins 142 = .ok (.aload_n 0, 1) := by decide +kernel
theorem dX9_begins_143 : decode cX9_begins 143 = .ok (.getfield 99, 3) := by decide +kernel
theorem dX9_begins_146 : decode cX9_begins 146 = .ok (.if_icmp .ge 98, 3) := by decide +kernel
theorem dX9_begins_149 : decode cX9_begins 149 = .ok (.aload_n 0, 1) := by decide +kernel
theorem dX9_begins_150 : decode cX9_begins 150 = .ok (.getfield 16, 3) := by decide +kernel
theorem dX9_begins_153 : decode cX9_begins 153 = .ok (.iload_n 1, 1) := by decide +kernel
theorem dX9_begins_154 : decode cX9_begins 154 = .ok (.aload_n 0, 1) := by decide +kernel
theorem dX9_begins_155 : decode cX9_begins 155 = .ok (.getfield 46, 3) := by decide +kernel
theorem dX9_begins_158 : decode cX9_begins 158 = .ok (.iconst 5, 1) := by decide +kernel
theorem dX9_begins_159 : decode cX9_begins 159 = .ok (.iload_n 1, 1) := by decide +kernel
theorem dX9_begins_160 : decode cX9_begins 160 = .ok (.imul, 1) := by decide +kernel
theorem dX9_begins_161 : decode cX9_begins 161 = .ok (.iaload, 1) := by decide +kernel
theorem dX9_begins_162 : decode cX9_begins 162 = .ok (.iastore, 1) := by decide +kernel
theorem dX9_begins_163 : decode cX9_begins 163 = .ok (.aload_n 0, 1) := by decide +kernel
theorem dX9_begins_164 : decode cX9_begins 164 = .ok (.getfield 19, 3) := by decide +kernel
theorem dX9_begins_167 : decode cX9_begins 167 = .ok (.iload_n 1, 1) := by decide +kernel
theorem dX9_begins_168 : decode cX9_begins 168 = .ok (.aload_n 0, 1) := by decide +kernel
theorem dX9_begins_169 : decode cX9_begins 169 = .ok (.getfield 46, 3) := by decide +kernel
theorem dX9_begins_172 : decode cX9_begins 172 = .ok (.iconst 5, 1) := by decide +kernel
theorem dX9_begins_173 : decode cX9_begins 173 = .ok (.iload_n 1, 1) := by decide +kernel
theorem dX9_begins_174 : decode cX9_begins 174 = .ok (.imul, 1) := by decide +kernel
theorem dX9_begins_175 : decode cX9_begins 175 = .ok (.iconst 1, 1) := by decide +kernel
theorem dX9_begins_176 : decode cX9_begins 176 = .ok (.iadd, 1) := by decide +kernel
theorem dX9_begins_177 : decode cX9_begins 177 = .ok (.iaload, 1) := by decide +kernel
theorem dX9_begins_178 : decode cX9_begins 178 = .ok (.iastore, 1) := by decide +kernel
theorem dX9_begins_179 : decode cX9_begins 179 = .ok (.aload_n 0, 1) := by decide +kernel
theorem dX9_begins_180 : decode cX9_begins 180 = .ok (.getfield 22, 3) := by decide +kernel
theorem dX9_begins_183 : decode cX9_begins 183 = .ok (.iload_n 1, 1) := by decide +kernel
theorem dX9_begins_184 : decode cX9_begins 184 = .ok (.aload_n 0, 1) := by decide +kernel
theorem dX9_begins_185 : decode cX9_begins 185 = .ok (.getfield 46, 3) := by decide +kernel
theorem dX9_begins_188 : decode cX9_begins 188 = .ok (.iconst 5, 1) := by decide +kernel
theorem dX9_begins_189 : decode cX9_begins 189 = .ok (.iload_n 1, 1) := by decide +kernel
theorem dX9_begins_190 : decode cX9_begins 190 = .ok (.imul, 1) := by decide +kernel
theorem dX9_begins_191 : decode cX9_begins 191 = .ok (.iconst 2, 1) := by decide +kernel
theorem dX9_begins_192 : decode cX9_begins 192 = .ok (.iadd, 1) := by decide +kernel
theorem dX9_begins_193 : decode cX9_begins 193 = .ok (.iaload, 1) := by decide +kernel
theorem dX9_begins_194 : decode cX9_begins 194 = .ok (.iastore, 1) := by decide +kernel
theorem dX9_begins_195 : decode cX9_begins 195 = .ok (.aload_n 0, 1) := by decide +kernel
theorem dX9_begins_196 : decode cX9_begins 196 = .ok (.getfield 25, 3) := by decide +kernel
theorem dX9_begins_199 : decode cX9_begins 199 = .ok (.iload_n 1, 1) := by decide +kernel
theorem dX9_begins_200 : decode cX9_begins 200 = .ok (.aload_n 0, 1) := by decide +kernel
theorem dX9_begins_201 : decode cX9_begins 201 = .ok (.getfield 46, 3) := by decide +kernel
theorem dX9_begins_204 : decode cX9_begins 204 = .ok (.iconst 5, 1) := by decide +kernel
theorem dX9_begins_205 : decode cX9_begins 205 = .ok (.iload_n 1, 1) := by decide +kernel
theorem dX9_begins_206 : decode cX9_begins 206 = .ok (.imul, 1) := by decide +kernel
theorem dX9_begins_207 : decode cX9_begins 207 = .ok (.iconst 3, 1) := by decide +kernel
theorem dX9_begins_208 : decode cX9_begins 208 = .ok (.iadd, 1) := by decide +kernel
theorem dX9_begins_209 : decode cX9_begins 209 = .ok (.iaload, 1) := by decide +kernel
theorem dX9_begins_210 : decode cX9_begins 210 = .ok (.iastore, 1) := by decide +kernel
theorem dX9_begins_211 : decode cX9_begins 211 = .ok (.aload_n 0, 1) := by decide +kernel
theorem dX9_begins_212 : decode cX9_begins 212 = .ok (.getfield 28, 3) := by decide +kernel
theorem dX9_begins_215 : decode cX9_begins 215 = .ok (.iload_n 1, 1) := by decide +kernel
theorem dX9_begins_216 : decode cX9_begins 216 = .ok (.aload_n 0, 1) := by decide +kernel
theorem dX9_begins_217 : decode cX9_begins 217 = .ok (.getfield 46, 3) := by decide +kernel
theorem dX9_begins_220 : decode cX9_begins 220 = .ok (.iconst 5, 1) := by decide +kernel
theorem dX9_begins_221 : decode cX9_begins 221 = .ok (.iload_n 1, 1) := by decide +kernel
theorem dX9_begins_222 : decode cX9_begins 222 = .ok (.imul, 1) := by decide +kernel
theorem dX9_begins_223 : decode cX9_begins 223 = .ok (.iconst 4, 1) := by decide +kernel
theorem dX9_begins_224 : decode cX9_begins 224 = .ok (.iadd, 1) := by decide +kernel
theorem dX9_begins_225 : decode cX9_begins 225 = .ok (.iaload, 1) := by decide +kernel
theorem dX9_begins_226 : decode cX9_begins 226 = .ok (.iastore, 1) := by decide +kernel
theorem dX9_begins_227 : decode cX9_begins 227 = .ok (.aload_n 0, 1) := by decide +kernel
theorem dX9_begins_228 : decode cX9_begins 228 = .ok (.getfield 7, 3) := by decide +kernel
theorem dX9_begins_231 : decode cX9_begins 231 = .ok (.bipush 11, 2) := by decide +kernel
theorem dX9_begins_233 : decode cX9_begins 233 = .ok (.iload_n 1, 1) := by decide +kernel
theorem dX9_begins_234 : decode cX9_begins 234 = .ok (.iadd, 1) := by decide +kernel
theorem dX9_begins_235 : decode cX9_begins 235 = .ok (.bipush (-4), 2) := by decide +kernel
theorem dX9_begins_237 : decode cX9_begins 237 = .ok (.iastore, 1) := by decide +kernel
theorem dX9_begins_238 : decode cX9_begins 238 = .ok (.iinc 1 1, 3) := by decide +kernel
theorem dX9_begins_241 : decode cX9_begins 241 = .ok (.goto (-100), 3) := by decide +kernel
theorem dX9_begins_244 : decode cX9_begins 244 = .ok (.aload_n 0, 1) := by decide +kernel
theorem dX9_begins_245 : decode cX9_begins 245 = .ok (.iconst 0, 1) := by decide +kernel
theorem dX9_begins_246 : decode cX9_begins 246 = .ok (.putfield 108, 3) := by decide +kernel
theorem dX9_begins_249 : decode cX9_begins 249 = .ok (.aload_n 0, 1) := by decide +kernel
theorem dX9_begins_250 : decode cX9_begins 250 = .ok (.iconst 0, 1) := by decide +kernel
theorem dX9_begins_251 : decode cX9_begins 251 = .ok (.putfield 111, 3) := by decide +kernel
theorem dX9_begins_254 : decode cX9_begins 254 = .ok (.aload_n 0, 1) := by decide +kernel
theorem dX9_begins_255 : decode cX9_begins 255 = .ok (.iconst 0, 1) := by decide +kernel
theorem dX9_begins_256 : decode cX9_begins 256 = .ok (.putfield 114, 3) := by decide +kernel
theorem dX9_begins_259 : decode cX9_begins 259 = .ok (.return_, 1) := by decide +kernel
theorem dX9_write_0 : decode cX9_write 0 = .ok (.iload_n 1, 1) := by decide +kernel
theorem dX9_write_1 : decode cX9_write 1 = .ok (.i2l, 1) := by decide +kernel
theorem dX9_write_2 : decode cX9_write 2 = .ok (.ldc2_w 117, 3) := by decide +kernel
theorem dX9_write_5 : decode cX9_write 5 = .ok (.ldc2_w 119, 3) := by decide +kernel
theorem dX9_write_8 : decode cX9_write 8 = .ok (.invokestatic 92, 3) := by decide +kernel
theorem dX9_write_11 : decode cX9_write 11 = .ok (.ifCond .ne 5, 3) := by decide +kernel
theorem dX9_write_14 : decode cX9_write 14 = .ok (.iconst (-1), 1) := by decide +kernel
theorem dX9_write_15 : decode cX9_write 15 = .ok (.ireturn, 1) := by decide +kernel
theorem dX9_write_16 : decode cX9_write 16 = .ok (.aload_n 0, 1) := by decide +kernel
theorem dX9_write_17 : decode cX9_write 17 = .ok (.getfield 121, 3) := by decide +kernel
theorem dX9_write_20 : decode cX9_write 20 = .ok (.sipush 200, 3) := by decide +kernel
theorem dX9_write_23 : decode cX9_write 23 = .ok (.if_icmp .ne 6, 3) := by decide +kernel
theorem dX9_write_26 : decode cX9_write 26 = .ok (.bipush (-3), 2) := by decide +kernel
theorem dX9_write_28 : decode cX9_write 28 = .ok (.ireturn, 1) := by decide +kernel
theorem dX9_write_29 : decode cX9_write 29 = .ok (.aload_n 0, 1) := by decide +kernel
theorem dX9_write_30 : decode cX9_write 30 = .ok (.getfield 40, 3) := by decide +kernel
theorem dX9_write_33 : decode cX9_write 33 = .ok (.aload_n 0, 1) := by decide +kernel
theorem dX9_write_34 : decode cX9_write 34 = .ok (.getfield 121, 3) := by decide +kernel
theorem dX9_write_37 : decode cX9_write 37 = .ok (.iload_n 1, 1) := by decide +kernel
theorem dX9_write_38 : decode cX9_write 38 = .ok (.iastore, 1) := by decide +kernel
theorem dX9_write_39 : decode cX9_write 39 = .ok (.aload_n 0, 1) := by decide +kernel
theorem dX9_write_40 : decode cX9_write 40 = .ok (.dup, 1) := by decide +kernel
theorem dX9_write_41 : decode cX9_write 41 = .ok (.getfield 121, 3) := by decide +kernel
theorem dX9_write_44 : decode cX9_write 44 = .ok (.iconst 1, 1) := by decide +kernel
theorem dX9_write_45 : decode cX9_write 45 = .ok (.iadd, 1) := by decide +kernel
theorem dX9_write_46 : decode cX9_write 46 = .ok (.putfield 121, 3) := by decide +kernel
theorem dX9_write_49 : decode cX9_write 49 = .ok (.aload_n 0, 1) := by decide +kernel
theorem dX9_write_50 : decode cX9_write 50 = .ok (.getfield 121, 3) := by decide +kernel
theorem dX9_write_53 : decode cX9_write 53 = .ok (.ireturn, 1) := by decide +kernel
theorem dX9_wipe_0 : decode cX9_wipe 0 = .ok (.aload_n 0, 1) := by decide +kernel
theorem dX9_wipe_1 : decode cX9_wipe 1 = .ok (.getfield 121, 3) := by decide +kernel
theorem dX9_wipe_4 : decode cX9_wipe 4 = .ok (.istore_n 1, 1) := by decide +kernel
theorem dX9_wipe_5 : decode cX9_wipe 5 = .ok (.aload_n 0, 1) := by decide +kernel
theorem dX9_wipe_6 : decode cX9_wipe 6 = .ok (.iconst 0, 1) := by decide +kernel
theorem dX9_wipe_7 : decode cX9_wipe 7 = .ok (.putfield 121, 3) := by decide +kernel
theorem dX9_wipe_10 : decode cX9_wipe 10 = .ok (.iload_n 1, 1) := by decide +kernel
theorem dX9_wipe_11 : decode cX9_wipe 11 = .ok (.ireturn, 1) := by decide +kernel
theorem dX9_letterAt_0 : decode cX9_letterAt 0 = .ok (.iload_n 1, 1) := by decide +kernel
theorem dX9_letterAt_1 : decode cX9_letterAt 1 = .ok (.aload_n 0, 1) := by decide +kernel
theorem dX9_letterAt_2 : decode cX9_letterAt 2 = .ok (.getfield 121, 3) := by decide +kernel
theorem dX9_letterAt_5 : decode cX9_letterAt 5 = .ok (.if_icmp .ge 12, 3) := by decide +kernel
theorem dX9_letterAt_8 : decode cX9_letterAt 8 = .ok (.aload_n 0, 1) := by decide +kernel
theorem dX9_letterAt_9 : decode cX9_letterAt 9 = .ok (.getfield 40, 3) := by decide +kernel
theorem dX9_letterAt_12 : decode cX9_letterAt 12 = .ok (.iload_n 1, 1) := by decide +kernel
theorem dX9_letterAt_13 : decode cX9_letterAt 13 = .ok (.iaload, 1) := by decide +kernel
theorem dX9_letterAt_14 : decode cX9_letterAt 14 = .ok (.goto 4, 3) := by decide +kernel
theorem dX9_letterAt_17 : decode cX9_letterAt 17 = .ok (.iconst (-1), 1) := by decide +kernel
theorem dX9_letterAt_18 : decode cX9_letterAt 18 = .ok (.ireturn, 1) := by decide +kernel
theorem dX9_takesNumber_0 : decode cX9_takesNumber 0 = .ok (.aload_n 0, 1) := by decide +kernel
theorem dX9_takesNumber_1 : decode cX9_takesNumber 1 = .ok (.getfield 124, 3) := by decide +kernel
theorem dX9_takesNumber_4 : decode cX9_takesNumber 4 = .ok (.istore 4, 2) := by decide +kernel
theorem dX9_takesNumber_6 : decode cX9_takesNumber 6 = .ok (.aload_n 0, 1) := by decide +kernel
theorem dX9_takesNumber_7 : decode cX9_takesNumber 7 = .ok (.iconst 0, 1) := by decide +kernel
theorem dX9_takesNumber_8 : decode cX9_takesNumber 8 = .ok (.putfield 127, 3) := by decide +kernel
theorem dX9_takesNumber_11 : decode cX9_takesNumber 11 = .ok (.aload_n 0, 1) := by decide +kernel
theorem dX9_takesNumber_12 : decode cX9_takesNumber 12 = .ok (.getfield 124, 3) := by decide +kernel
theorem dX9_takesNumber_15 : decode cX9_takesNumber 15 = .ok (.iload 4, 2) := by decide +kernel
theorem dX9_takesNumber_17 : decode cX9_takesNumber 17 = .ok (.isub, 1) := by decide +kernel
theorem dX9_takesNumber_18 : decode cX9_takesNumber 18 = .ok (.iconst 2, 1) := by decide +kernel
theorem dX9_takesNumber_19 : decode cX9_takesNumber 19 = .ok (.if_icmp .ge 60, 3) := by decide +kernel
theorem dX9_takesNumber_22 : decode cX9_takesNumber 22 = .ok (.aload_n 0, 1) := by decide +kernel
theorem dX9_takesNumber_23 : decode cX9_takesNumber 23 = .ok (.aload_n 0, 1) := by decide +kernel
theorem dX9_takesNumber_24 : decode cX9_takesNumber 24 = .ok (.getfield 124, 3) := by decide +kernel
theorem dX9_takesNumber_27 : decode cX9_takesNumber 27 = .ok (.invokevirtual 130, 3) := by decide +kernel
theorem dX9_takesNumber_30 : decode cX9_takesNumber 30 = .ok (.i2l, 1) := by decide +kernel
theorem dX9_takesNumber_31 : decode cX9_takesNumber 31 = .ok (.ldc2_w 134, 3) := by decide +kernel
theorem dX9_takesNumber_34 : decode cX9_takesNumber 34 = .ok (.ldc2_w 136, 3) := by decide +kernel
theorem dX9_takesNumber_37 : decode cX9_takesNumber 37 = .ok (.invokestatic 92, 3) := by decide +kernel
theorem dX9_takesNumber_40 : decode cX9_takesNumber 40 = .ok (.ifCond .eq 39, 3) := by decide +kernel
theorem dX9_takesNumber_43 : decode cX9_takesNumber 43 = .ok (.aload_n 0, 1) := by decide +kernel
theorem dX9_takesNumber_44 : decode cX9_takesNumber 44 = .ok (.bipush 10, 2) := by decide +kernel
theorem dX9_takesNumber_46 : decode cX9_takesNumber 46 = .ok (.aload_n 0, 1) := by decide +kernel
theorem dX9_takesNumber_47 : decode cX9_takesNumber 47 = .ok (.getfield 127, 3) := by decide +kernel
theorem dX9_takesNumber_50 : decode cX9_takesNumber 50 = .ok (.imul, 1) := by decide +kernel
theorem dX9_takesNumber_51 : decode cX9_takesNumber 51 = .ok (.aload_n 0, 1) := by decide +kernel
theorem dX9_takesNumber_52 : decode cX9_takesNumber 52 = .ok (.aload_n 0, 1) := by decide +kernel
theorem dX9_takesNumber_53 : decode cX9_takesNumber 53 = .ok (.getfield 124, 3) := by decide +kernel
theorem dX9_takesNumber_56 : decode cX9_takesNumber 56 = .ok (.invokevirtual 130, 3) := by decide +kernel
theorem dX9_takesNumber_59 : decode cX9_takesNumber 59 = .ok (.iadd, 1) := by decide +kernel
theorem dX9_takesNumber_60 : decode cX9_takesNumber 60 = .ok (.bipush 48, 2) := by decide +kernel
theorem dX9_takesNumber_62 : decode cX9_takesNumber 62 = .ok (.isub, 1) := by decide +kernel
theorem dX9_takesNumber_63 : decode cX9_takesNumber 63 = .ok (.putfield 127, 3) := by decide +kernel
theorem dX9_takesNumber_66 : decode cX9_takesNumber 66 = .ok (.aload_n 0, 1) := by decide +kernel
theorem dX9_takesNumber_67 : decode cX9_takesNumber 67 = .ok (.dup, 1) := by decide +kernel
theorem dX9_takesNumber_68 : decode cX9_takesNumber 68 = .ok (.getfield 124, 3) := by decide +kernel
theorem dX9_takesNumber_71 : decode cX9_takesNumber 71 = .ok (.iconst 1, 1) := by decide +kernel
theorem dX9_takesNumber_72 : decode cX9_takesNumber 72 = .ok (.iadd, 1) := by decide +kernel
theorem dX9_takesNumber_73 : decode cX9_takesNumber 73 = .ok (.putfield 124, 3) := by decide +kernel
theorem dX9_takesNumber_76 : decode cX9_takesNumber 76 = .ok (.goto (-65), 3) := by decide +kernel
theorem dX9_takesNumber_79 : decode cX9_takesNumber 79 = .ok (.aload_n 0, 1) := by decide +kernel
theorem dX9_takesNumber_80 : decode cX9_takesNumber 80 = .ok (.getfield 124, 3) := by decide +kernel
theorem dX9_takesNumber_83 : decode cX9_takesNumber 83 = .ok (.iload 4, 2) := by decide +kernel
theorem dX9_takesNumber_85 : decode cX9_takesNumber 85 = .ok (.if_icmp .eq 30, 3) := by decide +kernel
theorem dX9_takesNumber_88 : decode cX9_takesNumber 88 = .ok (.aload_n 0, 1) := by decide +kernel
theorem dX9_takesNumber_89 : decode cX9_takesNumber 89 = .ok (.getfield 127, 3) := by decide +kernel
theorem dX9_takesNumber_92 : decode cX9_takesNumber 92 = .ok (.i2l, 1) := by decide +kernel
theorem dX9_takesNumber_93 : decode cX9_takesNumber 93 = .ok (.iload_n 1, 1) := by decide +kernel
theorem dX9_takesNumber_94 : decode cX9_takesNumber 94 = .ok (.i2l, 1) := by decide +kernel
theorem dX9_takesNumber_95 : decode cX9_takesNumber 95 = .ok (.iload_n 2, 1) := by decide +kernel
theorem dX9_takesNumber_96 : decode cX9_takesNumber 96 = .ok (.i2l, 1) := by decide +kernel
theorem dX9_takesNumber_97 : decode cX9_takesNumber 97 = .ok (.invokestatic 92, 3) := by decide +kernel
theorem dX9_takesNumber_100 : decode cX9_takesNumber 100 = .ok (.ifCond .eq 15, 3) := by decide +kernel
theorem dX9_takesNumber_103 : decode cX9_takesNumber 103 = .ok (.aload_n 0, 1) := by decide +kernel
theorem dX9_takesNumber_104 : decode cX9_takesNumber 104 = .ok (.aload_n 0, 1) := by decide +kernel
theorem dX9_takesNumber_105 : decode cX9_takesNumber 105 = .ok (.getfield 124, 3) := by decide +kernel
theorem dX9_takesNumber_108 : decode cX9_takesNumber 108 = .ok (.invokevirtual 130, 3) := by decide +kernel
theorem dX9_takesNumber_111 : decode cX9_takesNumber 111 = .ok (.iload_n 3, 1) := by decide +kernel
theorem dX9_takesNumber_112 : decode cX9_takesNumber 112 = .ok (.if_icmp .eq 5, 3) := by decide +kernel
theorem dX9_takesNumber_115 : decode cX9_takesNumber 115 = .ok (.iconst 0, 1) := by decide +kernel
theorem dX9_takesNumber_116 : decode cX9_takesNumber 116 = .ok (.ireturn, 1) := by decide +kernel
theorem dX9_takesNumber_117 : decode cX9_takesNumber 117 = .ok (.aload_n 0, 1) := by decide +kernel
theorem dX9_takesNumber_118 : decode cX9_takesNumber 118 = .ok (.dup, 1) := by decide +kernel
theorem dX9_takesNumber_119 : decode cX9_takesNumber 119 = .ok (.getfield 124, 3) := by decide +kernel
theorem dX9_takesNumber_122 : decode cX9_takesNumber 122 = .ok (.iconst 1, 1) := by decide +kernel
theorem dX9_takesNumber_123 : decode cX9_takesNumber 123 = .ok (.iadd, 1) := by decide +kernel
theorem dX9_takesNumber_124 : decode cX9_takesNumber 124 = .ok (.putfield 124, 3) := by decide +kernel
theorem dX9_takesNumber_127 : decode cX9_takesNumber 127 = .ok (.iconst 1, 1) := by decide +kernel
theorem dX9_takesNumber_128 : decode cX9_takesNumber 128 = .ok (.ireturn, 1) := by decide +kernel
theorem dX9_takesRows_0 : decode cX9_takesRows 0 = .ok (.aload_n 0, 1) := by decide +kernel
theorem dX9_takesRows_1 : decode cX9_takesRows 1 = .ok (.getfield 102, 3) := by decide +kernel
theorem dX9_takesRows_4 : decode cX9_takesRows 4 = .ok (.aload_n 0, 1) := by decide +kernel
theorem dX9_takesRows_5 : decode cX9_takesRows 5 = .ok (.getfield 105, 3) := by decide +kernel
theorem dX9_takesRows_8 : decode cX9_takesRows 8 = .ok (.iadd, 1) := by decide +kernel
theorem dX9_takesRows_9 : decode cX9_takesRows 9 = .ok (.ifCond .gt 15, 3) := by decide +kernel
theorem dX9_takesRows_12 : decode cX9_takesRows 12 = .ok (.aload_n 0, 1) := by decide +kernel
theorem dX9_takesRows_13 : decode cX9_takesRows 13 = .ok (.iconst 1, 1) := by decide +kernel
theorem dX9_takesRows_14 : decode cX9_takesRows 14 = .ok (.bipush 6, 2) := by decide +kernel
theorem dX9_takesRows_16 : decode cX9_takesRows 16 = .ok (.bipush 44, 2) := by decide +kernel
theorem dX9_takesRows_18 : decode cX9_takesRows 18 = .ok (.invokevirtual 138, 3) := by decide +kernel
theorem dX9_takesRows_21 : decode cX9_takesRows 21 = .ok (.ifCond .ne 5, 3) := by decide +kernel
theorem dX9_takesRows_24 : decode cX9_takesRows 24 = .ok (.iconst 0, 1) := by decide +kernel
theorem dX9_takesRows_25 : decode cX9_takesRows 25 = .ok (.ireturn, 1) := by decide +kernel
theorem dX9_takesRows_26 : decode cX9_takesRows 26 = .ok (.aload_n 0, 1) := by decide +kernel
theorem dX9_takesRows_27 : decode cX9_takesRows 27 = .ok (.getfield 127, 3) := by decide +kernel
theorem dX9_takesRows_30 : decode cX9_takesRows 30 = .ok (.istore_n 1, 1) := by decide +kernel
theorem dX9_takesRows_31 : decode cX9_takesRows 31 = .ok (.aload_n 0, 1) := by decide +kernel
theorem dX9_takesRows_32 : decode cX9_takesRows 32 = .ok (.iconst 1, 1) := by decide +kernel
theorem dX9_takesRows_33 : decode cX9_takesRows 33 = .ok (.bipush 6, 2) := by decide +kernel
theorem dX9_takesRows_35 : decode cX9_takesRows 35 = .ok (.bipush 59, 2) := by decide +kernel
theorem dX9_takesRows_37 : decode cX9_takesRows 37 = .ok (.invokevirtual 138, 3) := by decide +kernel
theorem dX9_takesRows_40 : decode cX9_takesRows 40 = .ok (.ifCond .ne 5, 3) := by decide +kernel
theorem dX9_takesRows_43 : decode cX9_takesRows 43 = .ok (.iconst 0, 1) := by decide +kernel
theorem dX9_takesRows_44 : decode cX9_takesRows 44 = .ok (.ireturn, 1) := by decide +kernel
theorem dX9_takesRows_45 : decode cX9_takesRows 45 = .ok (.aload_n 0, 1) := by decide +kernel
theorem dX9_takesRows_46 : decode cX9_takesRows 46 = .ok (.iload_n 1, 1) := by decide +kernel
theorem dX9_takesRows_47 : decode cX9_takesRows 47 = .ok (.putfield 64, 3) := by decide +kernel
theorem dX9_takesRows_50 : decode cX9_takesRows 50 = .ok (.aload_n 0, 1) := by decide +kernel
theorem dX9_takesRows_51 : decode cX9_takesRows 51 = .ok (.aload_n 0, 1) := by decide +kernel
theorem dX9_takesRows_52 : decode cX9_takesRows 52 = .ok (.getfield 127, 3) := by decide +kernel
theorem dX9_takesRows_55 : decode cX9_takesRows 55 = .ok (.putfield 68, 3) := by decide +kernel
theorem dX9_takesRows_58 : decode cX9_takesRows 58 = .ok (.iconst 1, 1) := by decide +kernel
theorem dX9_takesRows_59 : decode cX9_takesRows 59 = .ok (.ireturn, 1) := by decide +kernel
theorem dX9_takesCab_0 : decode cX9_takesCab 0 = .ok (.aload_n 0, 1) := by decide +kernel
theorem dX9_takesCab_1 : decode cX9_takesCab 1 = .ok (.getfield 64, 3) := by decide +kernel
theorem dX9_takesCab_4 : decode cX9_takesCab 4 = .ok (.aload_n 0, 1) := by decide +kernel
theorem dX9_takesCab_5 : decode cX9_takesCab 5 = .ok (.getfield 68, 3) := by decide +kernel
theorem dX9_takesCab_8 : decode cX9_takesCab 8 = .ok (.imul, 1) := by decide +kernel
theorem dX9_takesCab_9 : decode cX9_takesCab 9 = .ok (.iconst 1, 1) := by decide +kernel
theorem dX9_takesCab_10 : decode cX9_takesCab 10 = .ok (.isub, 1) := by decide +kernel
theorem dX9_takesCab_11 : decode cX9_takesCab 11 = .ok (.istore_n 1, 1) := by decide +kernel
theorem dX9_takesCab_12 : decode cX9_takesCab 12 = .ok (.aload_n 0, 1) := by decide +kernel
theorem dX9_takesCab_13 : decode cX9_takesCab 13 = .ok (.getfield 102, 3) := by decide +kernel
theorem dX9_takesCab_16 : decode cX9_takesCab 16 = .ok (.iconst 3, 1) := by decide +kernel
theorem dX9_takesCab_17 : decode cX9_takesCab 17 = .ok (.if_icmp .eq 14, 3) := by decide +kernel
theorem dX9_takesCab_20 : decode cX9_takesCab 20 = .ok (.aload_n 0, 1) := by decide +kernel
theorem dX9_takesCab_21 : decode cX9_takesCab 21 = .ok (.iconst 0, 1) := by decide +kernel
theorem dX9_takesCab_22 : decode cX9_takesCab 22 = .ok (.iconst 2, 1) := by decide +kernel
theorem dX9_takesCab_23 : decode cX9_takesCab 23 = .ok (.bipush 44, 2) := by decide +kernel
theorem dX9_takesCab_25 : decode cX9_takesCab 25 = .ok (.invokevirtual 138, 3) := by decide +kernel
theorem dX9_takesCab_28 : decode cX9_takesCab 28 = .ok (.ifCond .ne 5, 3) := by decide +kernel
theorem dX9_takesCab_31 : decode cX9_takesCab 31 = .ok (.iconst 0, 1) := by decide +kernel
theorem dX9_takesCab_32 : decode cX9_takesCab 32 = .ok (.ireturn, 1) := by decide +kernel
theorem dX9_takesCab_33 : decode cX9_takesCab 33 = .ok (.aload_n 0, 1) := by decide +kernel
theorem dX9_takesCab_34 : decode cX9_takesCab 34 = .ok (.getfield 127, 3) := by decide +kernel
theorem dX9_takesCab_37 : decode cX9_takesCab 37 = .ok (.istore_n 2, 1) := by decide +kernel
theorem dX9_takesCab_38 : decode cX9_takesCab 38 = .ok (.aload_n 0, 1) := by decide +kernel
theorem dX9_takesCab_39 : decode cX9_takesCab 39 = .ok (.iconst 0, 1) := by decide +kernel
theorem dX9_takesCab_40 : decode cX9_takesCab 40 = .ok (.iload_n 1, 1) := by decide +kernel
theorem dX9_takesCab_41 : decode cX9_takesCab 41 = .ok (.bipush 44, 2) := by decide +kernel
theorem dX9_takesCab_43 : decode cX9_takesCab 43 = .ok (.invokevirtual 138, 3) := by decide +kernel
theorem dX9_takesCab_46 : decode cX9_takesCab 46 = .ok (.ifCond .ne 5, 3) := by decide +kernel
theorem dX9_takesCab_49 : decode cX9_takesCab 49 = .ok (.iconst 0, 1) := by decide +kernel
theorem dX9_takesCab_50 : decode cX9_takesCab 50 = .ok (.ireturn, 1) := by decide +kernel
theorem dX9_takesCab_51 : decode cX9_takesCab 51 = .ok (.aload_n 0, 1) := by decide +kernel
theorem dX9_takesCab_52 : decode cX9_takesCab 52 = .ok (.getfield 127, 3) := by decide +kernel
theorem dX9_takesCab_55 : decode cX9_takesCab 55 = .ok (.istore_n 3, 1) := by decide +kernel
theorem dX9_takesCab_56 : decode cX9_takesCab 56 = .ok (.aload_n 0, 1) := by decide +kernel
theorem dX9_takesCab_57 : decode cX9_takesCab 57 = .ok (.iconst 0, 1) := by decide +kernel
theorem dX9_takesCab_58 : decode cX9_takesCab 58 = .ok (.iload_n 1, 1) := by decide +kernel
theorem dX9_takesCab_59 : decode cX9_takesCab 59 = .ok (.bipush 59, 2) := by decide +kernel
theorem dX9_takesCab_61 : decode cX9_takesCab 61 = .ok (.invokevirtual 138, 3) := by decide +kernel
theorem dX9_takesCab_64 : decode cX9_takesCab 64 = .ok (.ifCond .ne 5, 3) := by decide +kernel
theorem dX9_takesCab_67 : decode cX9_takesCab 67 = .ok (.iconst 0, 1) := by decide +kernel
theorem dX9_takesCab_68 : decode cX9_takesCab 68 = .ok (.ireturn, 1) := by decide +kernel
theorem dX9_takesCab_69 : decode cX9_takesCab 69 = .ok (.aload_n 0, 1) := by decide +kernel
theorem dX9_takesCab_70 : decode cX9_takesCab 70 = .ok (.iload_n 2, 1) := by decide +kernel
theorem dX9_takesCab_71 : decode cX9_takesCab 71 = .ok (.iload_n 3, 1) := by decide +kernel
theorem dX9_takesCab_72 : decode cX9_takesCab 72 = .ok (.aload_n 0, 1) := by decide +kernel
theorem dX9_takesCab_73 : decode cX9_takesCab 73 = .ok (.getfield 127, 3) := by decide +kernel
theorem dX9_takesCab_76 : decode cX9_takesCab 76 = .ok (.invokevirtual 71, 3) := by decide +kernel
theorem dX9_takesCab_79 : decode cX9_takesCab 79 = .ok (.iconst 1, 1) := by decide +kernel
theorem dX9_takesCab_80 : decode cX9_takesCab 80 = .ok (.ireturn, 1) := by decide +kernel
theorem dX9_takesFare_0 : decode cX9_takesFare 0 = .ok (.aload_n 0, 1) := by decide +kernel
theorem dX9_takesFare_1 : decode cX9_takesFare 1 = .ok (.getfield 64, 3) := by decide +kernel
theorem dX9_takesFare_4 : decode cX9_takesFare 4 = .ok (.aload_n 0, 1) := by decide +kernel
theorem dX9_takesFare_5 : decode cX9_takesFare 5 = .ok (.getfield 68, 3) := by decide +kernel
theorem dX9_takesFare_8 : decode cX9_takesFare 8 = .ok (.imul, 1) := by decide +kernel
theorem dX9_takesFare_9 : decode cX9_takesFare 9 = .ok (.iconst 1, 1) := by decide +kernel
theorem dX9_takesFare_10 : decode cX9_takesFare 10 = .ok (.isub, 1) := by decide +kernel
theorem dX9_takesFare_11 : decode cX9_takesFare 11 = .ok (.istore_n 1, 1) := by decide +kernel
theorem dX9_takesFare_12 : decode cX9_takesFare 12 = .ok (.aload_n 0, 1) := by decide +kernel
theorem dX9_takesFare_13 : decode cX9_takesFare 13 = .ok (.getfield 105, 3) := by decide +kernel
theorem dX9_takesFare_16 : decode cX9_takesFare 16 = .ok (.bipush 7, 2) := by decide +kernel
theorem dX9_takesFare_18 : decode cX9_takesFare 18 = .ok (.if_icmp .eq 14, 3) := by decide +kernel
theorem dX9_takesFare_21 : decode cX9_takesFare 21 = .ok (.aload_n 0, 1) := by decide +kernel
theorem dX9_takesFare_22 : decode cX9_takesFare 22 = .ok (.iconst 0, 1) := by decide +kernel
theorem dX9_takesFare_23 : decode cX9_takesFare 23 = .ok (.iconst 3, 1) := by decide +kernel
theorem dX9_takesFare_24 : decode cX9_takesFare 24 = .ok (.bipush 44, 2) := by decide +kernel
theorem dX9_takesFare_26 : decode cX9_takesFare 26 = .ok (.invokevirtual 138, 3) := by decide +kernel
theorem dX9_takesFare_29 : decode cX9_takesFare 29 = .ok (.ifCond .ne 5, 3) := by decide +kernel
theorem dX9_takesFare_32 : decode cX9_takesFare 32 = .ok (.iconst 0, 1) := by decide +kernel
theorem dX9_takesFare_33 : decode cX9_takesFare 33 = .ok (.ireturn, 1) := by decide +kernel
theorem dX9_takesFare_34 : decode cX9_takesFare 34 = .ok (.aload_n 0, 1) := by decide +kernel
theorem dX9_takesFare_35 : decode cX9_takesFare 35 = .ok (.getfield 127, 3) := by decide +kernel
theorem dX9_takesFare_38 : decode cX9_takesFare 38 = .ok (.istore_n 2, 1) := by decide +kernel
theorem dX9_takesFare_39 : decode cX9_takesFare 39 = .ok (.aload_n 0, 1) := by decide +kernel
theorem dX9_takesFare_40 : decode cX9_takesFare 40 = .ok (.iconst 0, 1) := by decide +kernel
theorem dX9_takesFare_41 : decode cX9_takesFare 41 = .ok (.iload_n 1, 1) := by decide +kernel
theorem dX9_takesFare_42 : decode cX9_takesFare 42 = .ok (.bipush 44, 2) := by decide +kernel
theorem dX9_takesFare_44 : decode cX9_takesFare 44 = .ok (.invokevirtual 138, 3) := by decide +kernel
theorem dX9_takesFare_47 : decode cX9_takesFare 47 = .ok (.ifCond .ne 5, 3) := by decide +kernel
theorem dX9_takesFare_50 : decode cX9_takesFare 50 = .ok (.iconst 0, 1) := by decide +kernel
theorem dX9_takesFare_51 : decode cX9_takesFare 51 = .ok (.ireturn, 1) := by decide +kernel
theorem dX9_takesFare_52 : decode cX9_takesFare 52 = .ok (.aload_n 0, 1) := by decide +kernel
theorem dX9_takesFare_53 : decode cX9_takesFare 53 = .ok (.getfield 127, 3) := by decide +kernel
theorem dX9_takesFare_56 : decode cX9_takesFare 56 = .ok (.istore_n 3, 1) := by decide +kernel
theorem dX9_takesFare_57 : decode cX9_takesFare 57 = .ok (.aload_n 0, 1) := by decide +kernel
theorem dX9_takesFare_58 : decode cX9_takesFare 58 = .ok (.iconst 0, 1) := by decide +kernel
theorem dX9_takesFare_59 : decode cX9_takesFare 59 = .ok (.iload_n 1, 1) := by decide +kernel
theorem dX9_takesFare_60 : decode cX9_takesFare 60 = .ok (.bipush 44, 2) := by decide +kernel
theorem dX9_takesFare_62 : decode cX9_takesFare 62 = .ok (.invokevirtual 138, 3) := by decide +kernel
theorem dX9_takesFare_65 : decode cX9_takesFare 65 = .ok (.ifCond .ne 5, 3) := by decide +kernel
theorem dX9_takesFare_68 : decode cX9_takesFare 68 = .ok (.iconst 0, 1) := by decide +kernel
theorem dX9_takesFare_69 : decode cX9_takesFare 69 = .ok (.ireturn, 1) := by decide +kernel
theorem dX9_takesFare_70 : decode cX9_takesFare 70 = .ok (.aload_n 0, 1) := by decide +kernel
theorem dX9_takesFare_71 : decode cX9_takesFare 71 = .ok (.getfield 127, 3) := by decide +kernel
theorem dX9_takesFare_74 : decode cX9_takesFare 74 = .ok (.istore 4, 2) := by decide +kernel
theorem dX9_takesFare_76 : decode cX9_takesFare 76 = .ok (.aload_n 0, 1) := by decide +kernel
theorem dX9_takesFare_77 : decode cX9_takesFare 77 = .ok (.iconst 0, 1) := by decide +kernel
theorem dX9_takesFare_78 : decode cX9_takesFare 78 = .ok (.bipush 99, 2) := by decide +kernel
theorem dX9_takesFare_80 : decode cX9_takesFare 80 = .ok (.bipush 44, 2) := by decide +kernel
theorem dX9_takesFare_82 : decode cX9_takesFare 82 = .ok (.invokevirtual 138, 3) := by decide +kernel
theorem dX9_takesFare_85 : decode cX9_takesFare 85 = .ok (.ifCond .ne 5, 3) := by decide +kernel
theorem dX9_takesFare_88 : decode cX9_takesFare 88 = .ok (.iconst 0, 1) := by decide +kernel
theorem dX9_takesFare_89 : decode cX9_takesFare 89 = .ok (.ireturn, 1) := by decide +kernel
theorem dX9_takesFare_90 : decode cX9_takesFare 90 = .ok (.aload_n 0, 1) := by decide +kernel
theorem dX9_takesFare_91 : decode cX9_takesFare 91 = .ok (.getfield 127, 3) := by decide +kernel
theorem dX9_takesFare_94 : decode cX9_takesFare 94 = .ok (.istore 5, 2) := by decide +kernel
theorem dX9_takesFare_96 : decode cX9_takesFare 96 = .ok (.aload_n 0, 1) := by decide +kernel
theorem dX9_takesFare_97 : decode cX9_takesFare 97 = .ok (.iconst 0, 1) := by decide +kernel
theorem dX9_takesFare_98 : decode cX9_takesFare 98 = .ok (.bipush 60, 2) := by decide +kernel
theorem dX9_takesFare_100 : decode cX9_takesFare 100 = .ok (.bipush 59, 2) := by decide +kernel
theorem dX9_takesFare_102 : decode cX9_takesFare 102 = .ok (.invokevirtual 138, 3) := by decide +kernel
theorem dX9_takesFare_105 : decode cX9_takesFare 105 = .ok (.ifCond .ne 5, 3) := by decide +kernel
theorem dX9_takesFare_108 : decode cX9_takesFare 108 = .ok (.iconst 0, 1) := by decide +kernel
theorem dX9_takesFare_109 : decode cX9_takesFare 109 = .ok (.ireturn, 1) := by decide +kernel
theorem dX9_takesFare_110 : decode cX9_takesFare 110 = .ok (.aload_n 0, 1) := by decide +kernel
theorem dX9_takesFare_111 : decode cX9_takesFare 111 = .ok (.iload_n 2, 1) := by decide +kernel
theorem dX9_takesFare_112 : decode cX9_takesFare 112 = .ok (.iload_n 3, 1) := by decide +kernel
theorem dX9_takesFare_113 : decode cX9_takesFare 113 = .ok (.iload 4, 2) := by decide +kernel
theorem dX9_takesFare_115 : decode cX9_takesFare 115 = .ok (.iload 5, 2) := by decide +kernel
theorem dX9_takesFare_117 : decode cX9_takesFare 117 = .ok (.aload_n 0, 1) := by decide +kernel
theorem dX9_takesFare_118 : decode cX9_takesFare 118 = .ok (.getfield 127, 3) := by decide +kernel
theorem dX9_takesFare_121 : decode cX9_takesFare 121 = .ok (.invokevirtual 75, 3) := by decide +kernel
theorem dX9_takesFare_124 : decode cX9_takesFare 124 = .ok (.iconst 1, 1) := by decide +kernel
theorem dX9_takesFare_125 : decode cX9_takesFare 125 = .ok (.ireturn, 1) := by decide +kernel
theorem dX9_takesItem_0 : decode cX9_takesItem 0 = .ok (.aload_n 0, 1) := by decide +kernel
theorem dX9_takesItem_1 : decode cX9_takesItem 1 = .ok (.aload_n 0, 1) := by decide +kernel
theorem dX9_takesItem_2 : decode cX9_takesItem 2 = .ok (.getfield 124, 3) := by decide +kernel
theorem dX9_takesItem_5 : decode cX9_takesItem 5 = .ok (.invokevirtual 130, 3) := by decide +kernel
theorem dX9_takesItem_8 : decode cX9_takesItem 8 = .ok (.istore_n 1, 1) := by decide +kernel
theorem dX9_takesItem_9 : decode cX9_takesItem 9 = .ok (.aload_n 0, 1) := by decide +kernel
theorem dX9_takesItem_10 : decode cX9_takesItem 10 = .ok (.dup, 1) := by decide +kernel
theorem dX9_takesItem_11 : decode cX9_takesItem 11 = .ok (.getfield 124, 3) := by decide +kernel
theorem dX9_takesItem_14 : decode cX9_takesItem 14 = .ok (.iconst 1, 1) := by decide +kernel
theorem dX9_takesItem_15 : decode cX9_takesItem 15 = .ok (.iadd, 1) := by decide +kernel
theorem dX9_takesItem_16 : decode cX9_takesItem 16 = .ok (.putfield 124, 3) := by decide +kernel
theorem dX9_takesItem_19 : decode cX9_takesItem 19 = .ok (.iload_n 1, 1) := by decide +kernel
theorem dX9_takesItem_20 : decode cX9_takesItem 20 = .ok (.bipush 103, 2) := by decide +kernel
theorem dX9_takesItem_22 : decode cX9_takesItem 22 = .ok (.if_icmp .ne 10, 3) := by decide +kernel
theorem dX9_takesItem_25 : decode cX9_takesItem 25 = .ok (.aload_n 0, 1) := by decide +kernel
theorem dX9_takesItem_26 : decode cX9_takesItem 26 = .ok (.invokevirtual 142, 3) := by decide +kernel
theorem dX9_takesItem_29 : decode cX9_takesItem 29 = .ok (.goto 34, 3) := by decide +kernel
theorem dX9_takesItem_32 : decode cX9_takesItem 32 = .ok (.iload_n 1, 1) := by decide +kernel
theorem dX9_takesItem_33 : decode cX9_takesItem 33 = .ok (.bipush 99, 2) := by decide +kernel
theorem dX9_takesItem_35 : decode cX9_takesItem 35 = .ok (.if_icmp .ne 10, 3) := by decide +kernel
theorem dX9_takesItem_38 : decode cX9_takesItem 38 = .ok (.aload_n 0, 1) := by decide +kernel
theorem dX9_takesItem_39 : decode cX9_takesItem 39 = .ok (.invokevirtual 146, 3) := by decide +kernel
theorem dX9_takesItem_42 : decode cX9_takesItem 42 = .ok (.goto 21, 3) := by decide +kernel
theorem dX9_takesItem_45 : decode cX9_takesItem 45 = .ok (.iload_n 1, 1) := by decide +kernel
theorem dX9_takesItem_46 : decode cX9_takesItem 46 = .ok (.bipush 102, 2) := by decide +kernel
theorem dX9_takesItem_48 : decode cX9_takesItem 48 = .ok (.if_icmp .ne 14, 3) := by decide +kernel
theorem dX9_takesItem_51 : decode cX9_takesItem 51 = .ok (.aload_n 0, 1) := by decide +kernel
theorem dX9_takesItem_52 : decode cX9_takesItem 52 = .ok (.invokevirtual 149, 3) := by decide +kernel
theorem dX9_takesItem_55 : decode cX9_takesItem 55 = .ok (.ifCond .eq 7, 3) := by decide +kernel
theorem dX9_takesItem_58 : decode cX9_takesItem 58 = .ok (.iconst 1, 1) := by decide +kernel
theorem dX9_takesItem_59 : decode cX9_takesItem 59 = .ok (.goto 4, 3) := by decide +kernel
theorem dX9_takesItem_62 : decode cX9_takesItem 62 = .ok (.iconst 0, 1) := by decide +kernel
theorem dX9_takesItem_63 : decode cX9_takesItem 63 = .ok (.ireturn, 1) := by decide +kernel
theorem dX9_faultOf_0 : decode cX9_faultOf 0 = .ok (.aload_n 0, 1) := by decide +kernel
theorem dX9_faultOf_1 : decode cX9_faultOf 1 = .ok (.iconst 4, 1) := by decide +kernel
theorem dX9_faultOf_2 : decode cX9_faultOf 2 = .ok (.putfield 64, 3) := by decide +kernel
theorem dX9_faultOf_5 : decode cX9_faultOf 5 = .ok (.aload_n 0, 1) := by decide +kernel
theorem dX9_faultOf_6 : decode cX9_faultOf 6 = .ok (.iconst 4, 1) := by decide +kernel
theorem dX9_faultOf_7 : decode cX9_faultOf 7 = .ok (.putfield 68, 3) := by decide +kernel
theorem dX9_faultOf_10 : decode cX9_faultOf 10 = .ok (.aload_n 0, 1) := by decide +kernel
theorem dX9_faultOf_11 : decode cX9_faultOf 11 = .ok (.iconst 0, 1) := by decide +kernel
theorem dX9_faultOf_12 : decode cX9_faultOf 12 = .ok (.putfield 102, 3) := by decide +kernel
theorem dX9_faultOf_15 : decode cX9_faultOf 15 = .ok (.aload_n 0, 1) := by decide +kernel
theorem dX9_faultOf_16 : decode cX9_faultOf 16 = .ok (.iconst 0, 1) := by decide +kernel
theorem dX9_faultOf_17 : decode cX9_faultOf 17 = .ok (.putfield 105, 3) := by decide +kernel
theorem dX9_faultOf_20 : decode cX9_faultOf 20 = .ok (.aload_n 0, 1) := by decide +kernel
theorem dX9_faultOf_21 : decode cX9_faultOf 21 = .ok (.iconst 0, 1) := by decide +kernel
theorem dX9_faultOf_22 : decode cX9_faultOf 22 = .ok (.putfield 124, 3) := by decide +kernel
theorem dX9_faultOf_25 : decode cX9_faultOf 25 = .ok (.aload_n 0, 1) := by decide +kernel
theorem dX9_faultOf_26 : decode cX9_faultOf 26 = .ok (.getfield 124, 3) := by decide +kernel
theorem dX9_faultOf_29 : decode cX9_faultOf 29 = .ok (.aload_n 0, 1) := by decide +kernel
theorem dX9_faultOf_30 : decode cX9_faultOf 30 = .ok (.getfield 121, 3) := by decide +kernel
theorem dX9_faultOf_33 : decode cX9_faultOf 33 = .ok (.if_icmp .ge 20, 3) := by decide +kernel
theorem dX9_faultOf_36 : decode cX9_faultOf 36 = .ok (.aload_n 0, 1) := by decide +kernel
theorem dX9_faultOf_37 : decode cX9_faultOf 37 = .ok (.getfield 124, 3) := by decide +kernel
theorem dX9_faultOf_40 : decode cX9_faultOf 40 = .ok (.istore_n 1, 1) := by decide +kernel
theorem dX9_faultOf_41 : decode cX9_faultOf 41 = .ok (.aload_n 0, 1) := by decide +kernel
theorem dX9_faultOf_42 : decode cX9_faultOf 42 = .ok (.invokevirtual 152, 3) := by decide +kernel
theorem dX9_faultOf_45 : decode cX9_faultOf 45 = .ok (.ifCond .ne 5, 3) := by decide +kernel
theorem dX9_faultOf_48 : decode cX9_faultOf 48 = .ok (.iload_n 1, 1) := by decide +kernel
theorem dX9_faultOf_49 : decode cX9_faultOf 49 = .ok (.ireturn, 1) := by decide +kernel
theorem dX9_faultOf_50 : decode cX9_faultOf 50 = .ok (.goto (-25), 3) := by decide +kernel
theorem dX9_faultOf_53 : decode cX9_faultOf 53 = .ok (.bipush (-4), 2) := by decide +kernel
theorem dX9_faultOf_55 : decode cX9_faultOf 55 = .ok (.ireturn, 1) := by decide +kernel
theorem dX9_fault_0 : decode cX9_fault 0 = .ok (.aload_n 0, 1) := by decide +kernel
theorem dX9_fault_1 : decode cX9_fault 1 = .ok (.invokevirtual 155, 3) := by decide +kernel
theorem dX9_fault_4 : decode cX9_fault 4 = .ok (.ireturn, 1) := by decide +kernel
theorem dX9_lay_0 : decode cX9_lay 0 = .ok (.aload_n 0, 1) := by decide +kernel
theorem dX9_lay_1 : decode cX9_lay 1 = .ok (.invokevirtual 155, 3) := by decide +kernel
theorem dX9_lay_4 : decode cX9_lay 4 = .ok (.bipush (-4), 2) := by decide +kernel
theorem dX9_lay_6 : decode cX9_lay 6 = .ok (.if_icmp .ne 17, 3) := by decide +kernel
theorem dX9_lay_9 : decode cX9_lay 9 = .ok (.aload_n 0, 1) := by decide +kernel
theorem dX9_lay_10 : decode cX9_lay 10 = .ok (.getfield 102, 3) := by decide +kernel
theorem dX9_lay_13 : decode cX9_lay 13 = .ok (.ifCond .eq 10, 3) := by decide +kernel
theorem dX9_lay_16 : decode cX9_lay 16 = .ok (.aload_n 0, 1) := by decide +kernel
theorem dX9_lay_17 : decode cX9_lay 17 = .ok (.getfield 105, 3) := by decide +kernel
theorem dX9_lay_20 : decode cX9_lay 20 = .ok (.ifCond .ne 6, 3) := by decide +kernel
theorem dX9_lay_23 : decode cX9_lay 23 = .ok (.bipush (-2), 2) := by decide +kernel
theorem dX9_lay_25 : decode cX9_lay 25 = .ok (.ireturn, 1) := by decide +kernel
theorem dX9_lay_26 : decode cX9_lay 26 = .ok (.aload_n 0, 1) := by decide +kernel
theorem dX9_lay_27 : decode cX9_lay 27 = .ok (.invokevirtual 79, 3) := by decide +kernel
theorem dX9_lay_30 : decode cX9_lay 30 = .ok (.aload_n 0, 1) := by decide +kernel
theorem dX9_lay_31 : decode cX9_lay 31 = .ok (.invokevirtual 88, 3) := by decide +kernel
theorem dX9_lay_34 : decode cX9_lay 34 = .ok (.ireturn, 1) := by decide +kernel
theorem dX9_farOf_0 : decode cX9_farOf 0 = .ok (.iload_n 1, 1) := by decide +kernel
theorem dX9_farOf_1 : decode cX9_farOf 1 = .ok (.aload_n 0, 1) := by decide +kernel
theorem dX9_farOf_2 : decode cX9_farOf 2 = .ok (.getfield 85, 3) := by decide +kernel
theorem dX9_farOf_5 : decode cX9_farOf 5 = .ok (.idiv, 1) := by decide +kernel
theorem dX9_farOf_6 : decode cX9_farOf 6 = .ok (.iload_n 2, 1) := by decide +kernel
theorem dX9_farOf_7 : decode cX9_farOf 7 = .ok (.aload_n 0, 1) := by decide +kernel
theorem dX9_farOf_8 : decode cX9_farOf 8 = .ok (.getfield 85, 3) := by decide +kernel
theorem dX9_farOf_11 : decode cX9_farOf 11 = .ok (.idiv, 1) := by decide +kernel
theorem dX9_farOf_12 : decode cX9_farOf 12 = .ok (.isub, 1) := by decide +kernel
theorem dX9_farOf_13 : decode cX9_farOf 13 = .ok (.istore_n 3, 1) := by decide +kernel
theorem dX9_farOf_14 : decode cX9_farOf 14 = .ok (.iload_n 1, 1) := by decide +kernel
theorem dX9_farOf_15 : decode cX9_farOf 15 = .ok (.aload_n 0, 1) := by decide +kernel
theorem dX9_farOf_16 : decode cX9_farOf 16 = .ok (.getfield 85, 3) := by decide +kernel
theorem dX9_farOf_19 : decode cX9_farOf 19 = .ok (.irem, 1) := by decide +kernel
theorem dX9_farOf_20 : decode cX9_farOf 20 = .ok (.iload_n 2, 1) := by decide +kernel
theorem dX9_farOf_21 : decode cX9_farOf 21 = .ok (.aload_n 0, 1) := by decide +kernel
theorem dX9_farOf_22 : decode cX9_farOf 22 = .ok (.getfield 85, 3) := by decide +kernel
theorem dX9_farOf_25 : decode cX9_farOf 25 = .ok (.irem, 1) := by decide +kernel
theorem dX9_farOf_26 : decode cX9_farOf 26 = .ok (.isub, 1) := by decide +kernel
theorem dX9_farOf_27 : decode cX9_farOf 27 = .ok (.istore 4, 2) := by decide +kernel
theorem dX9_farOf_29 : decode cX9_farOf 29 = .ok (.iload_n 3, 1) := by decide +kernel
theorem dX9_farOf_30 : decode cX9_farOf 30 = .ok (.ifCond .ge 8, 3) := by decide +kernel
theorem dX9_farOf_33 : decode cX9_farOf 33 = .ok (.iload_n 3, 1) := by decide +kernel
theorem dX9_farOf_34 : decode cX9_farOf 34 = .ok (.ineg, 1) := by decide +kernel
theorem dX9_farOf_35 : decode cX9_farOf 35 = .ok (.goto 4, 3) := by decide +kernel
theorem dX9_farOf_38 : decode cX9_farOf 38 = .ok (.iload_n 3, 1) := by decide +kernel
theorem dX9_farOf_39 : decode cX9_farOf 39 = .ok (.iload 4, 2) := by decide +kernel
theorem dX9_farOf_41 : decode cX9_farOf 41 = .ok (.ifCond .ge 9, 3) := by decide +kernel
theorem dX9_farOf_44 : decode cX9_farOf 44 = .ok (.iload 4, 2) := by decide +kernel
theorem dX9_farOf_46 : decode cX9_farOf 46 = .ok (.ineg, 1) := by decide +kernel
theorem dX9_farOf_47 : decode cX9_farOf 47 = .ok (.goto 5, 3) := by decide +kernel
theorem dX9_farOf_50 : decode cX9_farOf 50 = .ok (.iload 4, 2) := by decide +kernel
theorem dX9_farOf_52 : decode cX9_farOf 52 = .ok (.iadd, 1) := by decide +kernel
theorem dX9_farOf_53 : decode cX9_farOf 53 = .ok (.ireturn, 1) := by decide +kernel
theorem dX9_far_0 : decode cX9_far 0 = .ok (.aload_n 0, 1) := by decide +kernel
theorem dX9_far_1 : decode cX9_far 1 = .ok (.iload_n 1, 1) := by decide +kernel
theorem dX9_far_2 : decode cX9_far 2 = .ok (.invokevirtual 158, 3) := by decide +kernel
theorem dX9_far_5 : decode cX9_far 5 = .ok (.ifCond .eq 20, 3) := by decide +kernel
theorem dX9_far_8 : decode cX9_far 8 = .ok (.aload_n 0, 1) := by decide +kernel
theorem dX9_far_9 : decode cX9_far 9 = .ok (.iload_n 2, 1) := by decide +kernel
theorem dX9_far_10 : decode cX9_far 10 = .ok (.invokevirtual 158, 3) := by decide +kernel
theorem dX9_far_13 : decode cX9_far 13 = .ok (.ifCond .eq 12, 3) := by decide +kernel
theorem dX9_far_16 : decode cX9_far 16 = .ok (.aload_n 0, 1) := by decide +kernel
theorem dX9_far_17 : decode cX9_far 17 = .ok (.iload_n 1, 1) := by decide +kernel
theorem dX9_far_18 : decode cX9_far 18 = .ok (.iload_n 2, 1) := by decide +kernel
theorem dX9_far_19 : decode cX9_far 19 = .ok (.invokevirtual 162, 3) := by decide +kernel
theorem dX9_far_22 : decode cX9_far 22 = .ok (.goto 4, 3) := by decide +kernel
theorem dX9_far_25 : decode cX9_far 25 = .ok (.iconst (-1), 1) := by decide +kernel
theorem dX9_far_26 : decode cX9_far 26 = .ok (.ireturn, 1) := by decide +kernel
theorem dX9_cab_0 : decode cX9_cab 0 = .ok (.aload_n 0, 1) := by decide +kernel
theorem dX9_cab_1 : decode cX9_cab 1 = .ok (.iload_n 1, 1) := by decide +kernel
theorem dX9_cab_2 : decode cX9_cab 2 = .ok (.invokevirtual 166, 3) := by decide +kernel
theorem dX9_cab_5 : decode cX9_cab 5 = .ok (.ifCond .ne 5, 3) := by decide +kernel
theorem dX9_cab_8 : decode cX9_cab 8 = .ok (.iconst (-1), 1) := by decide +kernel
theorem dX9_cab_9 : decode cX9_cab 9 = .ok (.ireturn, 1) := by decide +kernel
theorem dX9_cab_10 : decode cX9_cab 10 = .ok (.iload_n 2, 1) := by decide +kernel
theorem dX9_cab_11 : decode cX9_cab 11 = .ok (.tableswitch 64 0 3 #[29, 36, 45, 54], 29) := by decide +kernel
theorem dX9_cab_40 : decode cX9_cab 40 = .ok (.aload_n 0, 1) := by decide +kernel
theorem dX9_cab_41 : decode cX9_cab 41 = .ok (.getfield 13, 3) := by decide +kernel
theorem dX9_cab_44 : decode cX9_cab 44 = .ok (.iload_n 1, 1) := by decide +kernel
theorem dX9_cab_45 : decode cX9_cab 45 = .ok (.iaload, 1) := by decide +kernel
theorem dX9_cab_46 : decode cX9_cab 46 = .ok (.ireturn, 1) := by decide +kernel
theorem dX9_cab_47 : decode cX9_cab 47 = .ok (.aload_n 0, 1) := by decide +kernel
theorem dX9_cab_48 : decode cX9_cab 48 = .ok (.getfield 7, 3) := by decide +kernel
theorem dX9_cab_51 : decode cX9_cab 51 = .ok (.iconst 1, 1) := by decide +kernel
theorem dX9_cab_52 : decode cX9_cab 52 = .ok (.iload_n 1, 1) := by decide +kernel
theorem dX9_cab_53 : decode cX9_cab 53 = .ok (.iadd, 1) := by decide +kernel
theorem dX9_cab_54 : decode cX9_cab 54 = .ok (.iaload, 1) := by decide +kernel
theorem dX9_cab_55 : decode cX9_cab 55 = .ok (.ireturn, 1) := by decide +kernel
theorem dX9_cab_56 : decode cX9_cab 56 = .ok (.aload_n 0, 1) := by decide +kernel
theorem dX9_cab_57 : decode cX9_cab 57 = .ok (.getfield 7, 3) := by decide +kernel
theorem dX9_cab_60 : decode cX9_cab 60 = .ok (.iconst 4, 1) := by decide +kernel
theorem dX9_cab_61 : decode cX9_cab 61 = .ok (.iload_n 1, 1) := by decide +kernel
theorem dX9_cab_62 : decode cX9_cab 62 = .ok (.iadd, 1) := by decide +kernel
theorem dX9_cab_63 : decode cX9_cab 63 = .ok (.iaload, 1) := by decide +kernel
theorem dX9_cab_64 : decode cX9_cab 64 = .ok (.ireturn, 1) := by decide +kernel
theorem dX9_cab_65 : decode cX9_cab 65 = .ok (.aload_n 0, 1) := by decide +kernel
theorem dX9_cab_66 : decode cX9_cab 66 = .ok (.getfield 7, 3) := by decide +kernel
theorem dX9_cab_69 : decode cX9_cab 69 = .ok (.bipush 7, 2) := by decide +kernel
theorem dX9_cab_71 : decode cX9_cab 71 = .ok (.iload_n 1, 1) := by decide +kernel
theorem dX9_cab_72 : decode cX9_cab 72 = .ok (.iadd, 1) := by decide +kernel
theorem dX9_cab_73 : decode cX9_cab 73 = .ok (.iaload, 1) := by decide +kernel
theorem dX9_cab_74 : decode cX9_cab 74 = .ok (.ireturn, 1) := by decide +kernel
theorem dX9_cab_75 : decode cX9_cab 75 = .ok (.iconst (-1), 1) := by decide +kernel
theorem dX9_cab_76 : decode cX9_cab 76 = .ok (.ireturn, 1) := by decide +kernel
theorem dX9_fare_0 : decode cX9_fare 0 = .ok (.aload_n 0, 1) := by decide +kernel
theorem dX9_fare_1 : decode cX9_fare 1 = .ok (.iload_n 1, 1) := by decide +kernel
theorem dX9_fare_2 : decode cX9_fare 2 = .ok (.invokevirtual 169, 3) := by decide +kernel
theorem dX9_fare_5 : decode cX9_fare 5 = .ok (.ifCond .ne 5, 3) := by decide +kernel
theorem dX9_fare_8 : decode cX9_fare 8 = .ok (.iconst (-1), 1) := by decide +kernel
theorem dX9_fare_9 : decode cX9_fare 9 = .ok (.ireturn, 1) := by decide +kernel
theorem dX9_fare_10 : decode cX9_fare 10 = .ok (.iload_n 2, 1) := by decide +kernel
theorem dX9_fare_11 : decode cX9_fare 11 = .ok (.tableswitch 114 0 7 #[45, 52, 59, 66, 73, 80, 92, 102], 45) := by decide +kernel
theorem dX9_fare_56 : decode cX9_fare 56 = .ok (.aload_n 0, 1) := by decide +kernel
theorem dX9_fare_57 : decode cX9_fare 57 = .ok (.getfield 16, 3) := by decide +kernel
theorem dX9_fare_60 : decode cX9_fare 60 = .ok (.iload_n 1, 1) := by decide +kernel
theorem dX9_fare_61 : decode cX9_fare 61 = .ok (.iaload, 1) := by decide +kernel
theorem dX9_fare_62 : decode cX9_fare 62 = .ok (.ireturn, 1) := by decide +kernel
theorem dX9_fare_63 : decode cX9_fare 63 = .ok (.aload_n 0, 1) := by decide +kernel
theorem dX9_fare_64 : decode cX9_fare 64 = .ok (.getfield 19, 3) := by decide +kernel
theorem dX9_fare_67 : decode cX9_fare 67 = .ok (.iload_n 1, 1) := by decide +kernel
theorem dX9_fare_68 : decode cX9_fare 68 = .ok (.iaload, 1) := by decide +kernel
theorem dX9_fare_69 : decode cX9_fare 69 = .ok (.ireturn, 1) := by decide +kernel
theorem dX9_fare_70 : decode cX9_fare 70 = .ok (.aload_n 0, 1) := by decide +kernel
theorem dX9_fare_71 : decode cX9_fare 71 = .ok (.getfield 22, 3) := by decide +kernel
theorem dX9_fare_74 : decode cX9_fare 74 = .ok (.iload_n 1, 1) := by decide +kernel
theorem dX9_fare_75 : decode cX9_fare 75 = .ok (.iaload, 1) := by decide +kernel
theorem dX9_fare_76 : decode cX9_fare 76 = .ok (.ireturn, 1) := by decide +kernel
theorem dX9_fare_77 : decode cX9_fare 77 = .ok (.aload_n 0, 1) := by decide +kernel
theorem dX9_fare_78 : decode cX9_fare 78 = .ok (.getfield 25, 3) := by decide +kernel
theorem dX9_fare_81 : decode cX9_fare 81 = .ok (.iload_n 1, 1) := by decide +kernel
theorem dX9_fare_82 : decode cX9_fare 82 = .ok (.iaload, 1) := by decide +kernel
theorem dX9_fare_83 : decode cX9_fare 83 = .ok (.ireturn, 1) := by decide +kernel
theorem dX9_fare_84 : decode cX9_fare 84 = .ok (.aload_n 0, 1) := by decide +kernel
theorem dX9_fare_85 : decode cX9_fare 85 = .ok (.getfield 28, 3) := by decide +kernel
theorem dX9_fare_88 : decode cX9_fare 88 = .ok (.iload_n 1, 1) := by decide +kernel
theorem dX9_fare_89 : decode cX9_fare 89 = .ok (.iaload, 1) := by decide +kernel
theorem dX9_fare_90 : decode cX9_fare 90 = .ok (.ireturn, 1) := by decide +kernel
theorem dX9_fare_91 : decode cX9_fare 91 = .ok (.aload_n 0, 1) := by decide +kernel
theorem dX9_fare_92 : decode cX9_fare 92 = .ok (.getfield 7, 3) := by decide +kernel
theorem dX9_fare_95 : decode cX9_fare 95 = .ok (.bipush 10, 2) := by decide +kernel
theorem dX9_fare_97 : decode cX9_fare 97 = .ok (.iaload, 1) := by decide +kernel
theorem dX9_fare_98 : decode cX9_fare 98 = .ok (.iload_n 1, 1) := by decide +kernel
theorem dX9_fare_99 : decode cX9_fare 99 = .ok (.ishr, 1) := by decide +kernel
theorem dX9_fare_100 : decode cX9_fare 100 = .ok (.iconst 1, 1) := by decide +kernel
theorem dX9_fare_101 : decode cX9_fare 101 = .ok (.iand, 1) := by decide +kernel
theorem dX9_fare_102 : decode cX9_fare 102 = .ok (.ireturn, 1) := by decide +kernel
theorem dX9_fare_103 : decode cX9_fare 103 = .ok (.aload_n 0, 1) := by decide +kernel
theorem dX9_fare_104 : decode cX9_fare 104 = .ok (.getfield 7, 3) := by decide +kernel
theorem dX9_fare_107 : decode cX9_fare 107 = .ok (.bipush 11, 2) := by decide +kernel
theorem dX9_fare_109 : decode cX9_fare 109 = .ok (.iload_n 1, 1) := by decide +kernel
theorem dX9_fare_110 : decode cX9_fare 110 = .ok (.iadd, 1) := by decide +kernel
theorem dX9_fare_111 : decode cX9_fare 111 = .ok (.iaload, 1) := by decide +kernel
theorem dX9_fare_112 : decode cX9_fare 112 = .ok (.ireturn, 1) := by decide +kernel
theorem dX9_fare_113 : decode cX9_fare 113 = .ok (.aload_n 0, 1) := by decide +kernel
theorem dX9_fare_114 : decode cX9_fare 114 = .ok (.getfield 7, 3) := by decide +kernel
theorem dX9_fare_117 : decode cX9_fare 117 = .ok (.bipush 18, 2) := by decide +kernel
theorem dX9_fare_119 : decode cX9_fare 119 = .ok (.iaload, 1) := by decide +kernel
theorem dX9_fare_120 : decode cX9_fare 120 = .ok (.iload_n 1, 1) := by decide +kernel
theorem dX9_fare_121 : decode cX9_fare 121 = .ok (.ishr, 1) := by decide +kernel
theorem dX9_fare_122 : decode cX9_fare 122 = .ok (.iconst 1, 1) := by decide +kernel
theorem dX9_fare_123 : decode cX9_fare 123 = .ok (.iand, 1) := by decide +kernel
theorem dX9_fare_124 : decode cX9_fare 124 = .ok (.ireturn, 1) := by decide +kernel
theorem dX9_fare_125 : decode cX9_fare 125 = .ok (.iconst (-1), 1) := by decide +kernel
theorem dX9_fare_126 : decode cX9_fare 126 = .ok (.ireturn, 1) := by decide +kernel
theorem dX9_goesBy_0 : decode cX9_goesBy 0 = .ok (.aload_n 0, 1) := by decide +kernel
theorem dX9_goesBy_1 : decode cX9_goesBy 1 = .ok (.getfield 7, 3) := by decide +kernel
theorem dX9_goesBy_4 : decode cX9_goesBy 4 = .ok (.iload_n 1, 1) := by decide +kernel
theorem dX9_goesBy_5 : decode cX9_goesBy 5 = .ok (.bipush 7, 2) := by decide +kernel
theorem dX9_goesBy_7 : decode cX9_goesBy 7 = .ok (.iadd, 1) := by decide +kernel
theorem dX9_goesBy_8 : decode cX9_goesBy 8 = .ok (.iload_n 2, 1) := by decide +kernel
theorem dX9_goesBy_9 : decode cX9_goesBy 9 = .ok (.iadd, 1) := by decide +kernel
theorem dX9_goesBy_10 : decode cX9_goesBy 10 = .ok (.iaload, 1) := by decide +kernel
theorem dX9_goesBy_11 : decode cX9_goesBy 11 = .ok (.istore 4, 2) := by decide +kernel
theorem dX9_goesBy_13 : decode cX9_goesBy 13 = .ok (.iload 4, 2) := by decide +kernel
theorem dX9_goesBy_15 : decode cX9_goesBy 15 = .ok (.bipush (-4), 2) := by decide +kernel
theorem dX9_goesBy_17 : decode cX9_goesBy 17 = .ok (.if_icmp .eq 33, 3) := by decide +kernel
theorem dX9_goesBy_20 : decode cX9_goesBy 20 = .ok (.aload_n 0, 1) := by decide +kernel
theorem dX9_goesBy_21 : decode cX9_goesBy 21 = .ok (.getfield 13, 3) := by decide +kernel
theorem dX9_goesBy_24 : decode cX9_goesBy 24 = .ok (.iload_n 2, 1) := by decide +kernel
theorem dX9_goesBy_25 : decode cX9_goesBy 25 = .ok (.iaload, 1) := by decide +kernel
theorem dX9_goesBy_26 : decode cX9_goesBy 26 = .ok (.iconst 2, 1) := by decide +kernel
theorem dX9_goesBy_27 : decode cX9_goesBy 27 = .ok (.if_icmp .ne 19, 3) := by decide +kernel
theorem dX9_goesBy_30 : decode cX9_goesBy 30 = .ok (.aload_n 0, 1) := by decide +kernel
theorem dX9_goesBy_31 : decode cX9_goesBy 31 = .ok (.iload 4, 2) := by decide +kernel
theorem dX9_goesBy_33 : decode cX9_goesBy 33 = .ok (.aload_n 0, 1) := by decide +kernel
theorem dX9_goesBy_34 : decode cX9_goesBy 34 = .ok (.getfield 19, 3) := by decide +kernel
theorem dX9_goesBy_37 : decode cX9_goesBy 37 = .ok (.iload_n 3, 1) := by decide +kernel
theorem dX9_goesBy_38 : decode cX9_goesBy 38 = .ok (.iaload, 1) := by decide +kernel
theorem dX9_goesBy_39 : decode cX9_goesBy 39 = .ok (.invokevirtual 162, 3) := by decide +kernel
theorem dX9_goesBy_42 : decode cX9_goesBy 42 = .ok (.iconst 3, 1) := by decide +kernel
theorem dX9_goesBy_43 : decode cX9_goesBy 43 = .ok (.if_icmp .gt 7, 3) := by decide +kernel
theorem dX9_goesBy_46 : decode cX9_goesBy 46 = .ok (.iconst 1, 1) := by decide +kernel
theorem dX9_goesBy_47 : decode cX9_goesBy 47 = .ok (.goto 4, 3) := by decide +kernel
theorem dX9_goesBy_50 : decode cX9_goesBy 50 = .ok (.iconst 0, 1) := by decide +kernel
theorem dX9_goesBy_51 : decode cX9_goesBy 51 = .ok (.ireturn, 1) := by decide +kernel
theorem dX9_setsOut_0 : decode cX9_setsOut 0 = .ok (.aload_n 0, 1) := by decide +kernel
theorem dX9_setsOut_1 : decode cX9_setsOut 1 = .ok (.getfield 7, 3) := by decide +kernel
theorem dX9_setsOut_4 : decode cX9_setsOut 4 = .ok (.iload_n 1, 1) := by decide +kernel
theorem dX9_setsOut_5 : decode cX9_setsOut 5 = .ok (.iconst 0, 1) := by decide +kernel
theorem dX9_setsOut_6 : decode cX9_setsOut 6 = .ok (.iadd, 1) := by decide +kernel
theorem dX9_setsOut_7 : decode cX9_setsOut 7 = .ok (.iaload, 1) := by decide +kernel
theorem dX9_setsOut_8 : decode cX9_setsOut 8 = .ok (.aload_n 0, 1) := by decide +kernel
theorem dX9_setsOut_9 : decode cX9_setsOut 9 = .ok (.getfield 7, 3) := by decide +kernel
theorem dX9_setsOut_12 : decode cX9_setsOut 12 = .ok (.iload_n 1, 1) := by decide +kernel
theorem dX9_setsOut_13 : decode cX9_setsOut 13 = .ok (.iconst 4, 1) := by decide +kernel
theorem dX9_setsOut_14 : decode cX9_setsOut 14 = .ok (.iadd, 1) := by decide +kernel
theorem dX9_setsOut_15 : decode cX9_setsOut 15 = .ok (.iload_n 2, 1) := by decide +kernel
theorem dX9_setsOut_16 : decode cX9_setsOut 16 = .ok (.iadd, 1) := by decide +kernel
theorem dX9_setsOut_17 : decode cX9_setsOut 17 = .ok (.iaload, 1) := by decide +kernel
theorem dX9_setsOut_18 : decode cX9_setsOut 18 = .ok (.if_icmp .le 14, 3) := by decide +kernel
theorem dX9_setsOut_21 : decode cX9_setsOut 21 = .ok (.aload_n 0, 1) := by decide +kernel
theorem dX9_setsOut_22 : decode cX9_setsOut 22 = .ok (.getfield 7, 3) := by decide +kernel
theorem dX9_setsOut_25 : decode cX9_setsOut 25 = .ok (.iload_n 1, 1) := by decide +kernel
theorem dX9_setsOut_26 : decode cX9_setsOut 26 = .ok (.iconst 0, 1) := by decide +kernel
theorem dX9_setsOut_27 : decode cX9_setsOut 27 = .ok (.iadd, 1) := by decide +kernel
theorem dX9_setsOut_28 : decode cX9_setsOut 28 = .ok (.iaload, 1) := by decide +kernel
theorem dX9_setsOut_29 : decode cX9_setsOut 29 = .ok (.goto 13, 3) := by decide +kernel
theorem dX9_setsOut_32 : decode cX9_setsOut 32 = .ok (.aload_n 0, 1) := by decide +kernel
theorem dX9_setsOut_33 : decode cX9_setsOut 33 = .ok (.getfield 7, 3) := by decide +kernel
theorem dX9_setsOut_36 : decode cX9_setsOut 36 = .ok (.iload_n 1, 1) := by decide +kernel
theorem dX9_setsOut_37 : decode cX9_setsOut 37 = .ok (.iconst 4, 1) := by decide +kernel
theorem dX9_setsOut_38 : decode cX9_setsOut 38 = .ok (.iadd, 1) := by decide +kernel
theorem dX9_setsOut_39 : decode cX9_setsOut 39 = .ok (.iload_n 2, 1) := by decide +kernel
theorem dX9_setsOut_40 : decode cX9_setsOut 40 = .ok (.iadd, 1) := by decide +kernel
theorem dX9_setsOut_41 : decode cX9_setsOut 41 = .ok (.iaload, 1) := by decide +kernel
theorem dX9_setsOut_42 : decode cX9_setsOut 42 = .ok (.ireturn, 1) := by decide +kernel
theorem dX9_freeBy_0 : decode cX9_freeBy 0 = .ok (.aload_n 0, 1) := by decide +kernel
theorem dX9_freeBy_1 : decode cX9_freeBy 1 = .ok (.iload_n 1, 1) := by decide +kernel
theorem dX9_freeBy_2 : decode cX9_freeBy 2 = .ok (.iload_n 2, 1) := by decide +kernel
theorem dX9_freeBy_3 : decode cX9_freeBy 3 = .ok (.invokevirtual 172, 3) := by decide +kernel
theorem dX9_freeBy_6 : decode cX9_freeBy 6 = .ok (.aload_n 0, 1) := by decide +kernel
theorem dX9_freeBy_7 : decode cX9_freeBy 7 = .ok (.getfield 25, 3) := by decide +kernel
theorem dX9_freeBy_10 : decode cX9_freeBy 10 = .ok (.iload_n 3, 1) := by decide +kernel
theorem dX9_freeBy_11 : decode cX9_freeBy 11 = .ok (.iaload, 1) := by decide +kernel
theorem dX9_freeBy_12 : decode cX9_freeBy 12 = .ok (.if_icmp .le 12, 3) := by decide +kernel
theorem dX9_freeBy_15 : decode cX9_freeBy 15 = .ok (.aload_n 0, 1) := by decide +kernel
theorem dX9_freeBy_16 : decode cX9_freeBy 16 = .ok (.iload_n 1, 1) := by decide +kernel
theorem dX9_freeBy_17 : decode cX9_freeBy 17 = .ok (.iload_n 2, 1) := by decide +kernel
theorem dX9_freeBy_18 : decode cX9_freeBy 18 = .ok (.invokevirtual 172, 3) := by decide +kernel
theorem dX9_freeBy_21 : decode cX9_freeBy 21 = .ok (.goto 9, 3) := by decide +kernel
theorem dX9_freeBy_24 : decode cX9_freeBy 24 = .ok (.aload_n 0, 1) := by decide +kernel
theorem dX9_freeBy_25 : decode cX9_freeBy 25 = .ok (.getfield 25, 3) := by decide +kernel
theorem dX9_freeBy_28 : decode cX9_freeBy 28 = .ok (.iload_n 3, 1) := by decide +kernel
theorem dX9_freeBy_29 : decode cX9_freeBy 29 = .ok (.iaload, 1) := by decide +kernel
theorem dX9_freeBy_30 : decode cX9_freeBy 30 = .ok (.istore 4, 2) := by decide +kernel
theorem dX9_freeBy_32 : decode cX9_freeBy 32 = .ok (.aload_n 0, 1) := by decide +kernel
theorem dX9_freeBy_33 : decode cX9_freeBy 33 = .ok (.getfield 7, 3) := by decide +kernel
theorem dX9_freeBy_36 : decode cX9_freeBy 36 = .ok (.iload_n 1, 1) := by decide +kernel
theorem dX9_freeBy_37 : decode cX9_freeBy 37 = .ok (.bipush 7, 2) := by decide +kernel
theorem dX9_freeBy_39 : decode cX9_freeBy 39 = .ok (.iadd, 1) := by decide +kernel
theorem dX9_freeBy_40 : decode cX9_freeBy 40 = .ok (.iload_n 2, 1) := by decide +kernel
theorem dX9_freeBy_41 : decode cX9_freeBy 41 = .ok (.iadd, 1) := by decide +kernel
theorem dX9_freeBy_42 : decode cX9_freeBy 42 = .ok (.iaload, 1) := by decide +kernel
theorem dX9_freeBy_43 : decode cX9_freeBy 43 = .ok (.istore 5, 2) := by decide +kernel
theorem dX9_freeBy_45 : decode cX9_freeBy 45 = .ok (.aload_n 0, 1) := by decide +kernel
theorem dX9_freeBy_46 : decode cX9_freeBy 46 = .ok (.iload_n 1, 1) := by decide +kernel
theorem dX9_freeBy_47 : decode cX9_freeBy 47 = .ok (.iload_n 2, 1) := by decide +kernel
theorem dX9_freeBy_48 : decode cX9_freeBy 48 = .ok (.iload_n 3, 1) := by decide +kernel
theorem dX9_freeBy_49 : decode cX9_freeBy 49 = .ok (.invokevirtual 175, 3) := by decide +kernel
theorem dX9_freeBy_52 : decode cX9_freeBy 52 = .ok (.ifCond .eq 47, 3) := by decide +kernel
theorem dX9_freeBy_55 : decode cX9_freeBy 55 = .ok (.aload_n 0, 1) := by decide +kernel
theorem dX9_freeBy_56 : decode cX9_freeBy 56 = .ok (.aload_n 0, 1) := by decide +kernel
theorem dX9_freeBy_57 : decode cX9_freeBy 57 = .ok (.getfield 19, 3) := by decide +kernel
theorem dX9_freeBy_60 : decode cX9_freeBy 60 = .ok (.iload_n 3, 1) := by decide +kernel
theorem dX9_freeBy_61 : decode cX9_freeBy 61 = .ok (.iaload, 1) := by decide +kernel
theorem dX9_freeBy_62 : decode cX9_freeBy 62 = .ok (.iload 5, 2) := by decide +kernel
theorem dX9_freeBy_64 : decode cX9_freeBy 64 = .ok (.invokevirtual 162, 3) := by decide +kernel
theorem dX9_freeBy_67 : decode cX9_freeBy 67 = .ok (.aload_n 0, 1) := by decide +kernel
theorem dX9_freeBy_68 : decode cX9_freeBy 68 = .ok (.getfield 13, 3) := by decide +kernel
theorem dX9_freeBy_71 : decode cX9_freeBy 71 = .ok (.iload_n 2, 1) := by decide +kernel
theorem dX9_freeBy_72 : decode cX9_freeBy 72 = .ok (.iaload, 1) := by decide +kernel
theorem dX9_freeBy_73 : decode cX9_freeBy 73 = .ok (.iconst 1, 1) := by decide +kernel
theorem dX9_freeBy_74 : decode cX9_freeBy 74 = .ok (.if_icmp .ne 7, 3) := by decide +kernel
theorem dX9_freeBy_77 : decode cX9_freeBy 77 = .ok (.iconst 3, 1) := by decide +kernel
theorem dX9_freeBy_78 : decode cX9_freeBy 78 = .ok (.goto 4, 3) := by decide +kernel
theorem dX9_freeBy_81 : decode cX9_freeBy 81 = .ok (.iconst 1, 1) := by decide +kernel
theorem dX9_freeBy_82 : decode cX9_freeBy 82 = .ok (.iadd, 1) := by decide +kernel
theorem dX9_freeBy_83 : decode cX9_freeBy 83 = .ok (.aload_n 0, 1) := by decide +kernel
theorem dX9_freeBy_84 : decode cX9_freeBy 84 = .ok (.iload 5, 2) := by decide +kernel
theorem dX9_freeBy_86 : decode cX9_freeBy 86 = .ok (.aload_n 0, 1) := by decide +kernel
theorem dX9_freeBy_87 : decode cX9_freeBy 87 = .ok (.getfield 22, 3) := by decide +kernel
theorem dX9_freeBy_90 : decode cX9_freeBy 90 = .ok (.iload_n 3, 1) := by decide +kernel
theorem dX9_freeBy_91 : decode cX9_freeBy 91 = .ok (.iaload, 1) := by decide +kernel
theorem dX9_freeBy_92 : decode cX9_freeBy 92 = .ok (.invokevirtual 162, 3) := by decide +kernel
theorem dX9_freeBy_95 : decode cX9_freeBy 95 = .ok (.iadd, 1) := by decide +kernel
theorem dX9_freeBy_96 : decode cX9_freeBy 96 = .ok (.goto 19, 3) := by decide +kernel
theorem dX9_freeBy_99 : decode cX9_freeBy 99 = .ok (.aload_n 0, 1) := by decide +kernel
theorem dX9_freeBy_100 : decode cX9_freeBy 100 = .ok (.aload_n 0, 1) := by decide +kernel
theorem dX9_freeBy_101 : decode cX9_freeBy 101 = .ok (.getfield 19, 3) := by decide +kernel
theorem dX9_freeBy_104 : decode cX9_freeBy 104 = .ok (.iload_n 3, 1) := by decide +kernel
theorem dX9_freeBy_105 : decode cX9_freeBy 105 = .ok (.iaload, 1) := by decide +kernel
theorem dX9_freeBy_106 : decode cX9_freeBy 106 = .ok (.aload_n 0, 1) := by decide +kernel
theorem dX9_freeBy_107 : decode cX9_freeBy 107 = .ok (.getfield 22, 3) := by decide +kernel
theorem dX9_freeBy_110 : decode cX9_freeBy 110 = .ok (.iload_n 3, 1) := by decide +kernel
theorem dX9_freeBy_111 : decode cX9_freeBy 111 = .ok (.iaload, 1) := by decide +kernel
theorem dX9_freeBy_112 : decode cX9_freeBy 112 = .ok (.invokevirtual 162, 3) := by decide +kernel
theorem dX9_freeBy_115 : decode cX9_freeBy 115 = .ok (.istore 6, 2) := by decide +kernel
theorem dX9_freeBy_117 : decode cX9_freeBy 117 = .ok (.iload 4, 2) := by decide +kernel
theorem dX9_freeBy_119 : decode cX9_freeBy 119 = .ok (.aload_n 0, 1) := by decide +kernel
theorem dX9_freeBy_120 : decode cX9_freeBy 120 = .ok (.aload_n 0, 1) := by decide +kernel
theorem dX9_freeBy_121 : decode cX9_freeBy 121 = .ok (.getfield 7, 3) := by decide +kernel
theorem dX9_freeBy_124 : decode cX9_freeBy 124 = .ok (.iload_n 1, 1) := by decide +kernel
theorem dX9_freeBy_125 : decode cX9_freeBy 125 = .ok (.iconst 1, 1) := by decide +kernel
theorem dX9_freeBy_126 : decode cX9_freeBy 126 = .ok (.iadd, 1) := by decide +kernel
theorem dX9_freeBy_127 : decode cX9_freeBy 127 = .ok (.iload_n 2, 1) := by decide +kernel
theorem dX9_freeBy_128 : decode cX9_freeBy 128 = .ok (.iadd, 1) := by decide +kernel
theorem dX9_freeBy_129 : decode cX9_freeBy 129 = .ok (.iaload, 1) := by decide +kernel
theorem dX9_freeBy_130 : decode cX9_freeBy 130 = .ok (.aload_n 0, 1) := by decide +kernel
theorem dX9_freeBy_131 : decode cX9_freeBy 131 = .ok (.getfield 19, 3) := by decide +kernel
theorem dX9_freeBy_134 : decode cX9_freeBy 134 = .ok (.iload_n 3, 1) := by decide +kernel
theorem dX9_freeBy_135 : decode cX9_freeBy 135 = .ok (.iaload, 1) := by decide +kernel
theorem dX9_freeBy_136 : decode cX9_freeBy 136 = .ok (.invokevirtual 162, 3) := by decide +kernel
theorem dX9_freeBy_139 : decode cX9_freeBy 139 = .ok (.iadd, 1) := by decide +kernel
theorem dX9_freeBy_140 : decode cX9_freeBy 140 = .ok (.iload 6, 2) := by decide +kernel
theorem dX9_freeBy_142 : decode cX9_freeBy 142 = .ok (.iadd, 1) := by decide +kernel
theorem dX9_freeBy_143 : decode cX9_freeBy 143 = .ok (.ireturn, 1) := by decide +kernel
theorem dX9_lateBy_0 : decode cX9_lateBy 0 = .ok (.aload_n 0, 1) := by decide +kernel
theorem dX9_lateBy_1 : decode cX9_lateBy 1 = .ok (.iload_n 1, 1) := by decide +kernel
theorem dX9_lateBy_2 : decode cX9_lateBy 2 = .ok (.iload_n 2, 1) := by decide +kernel
theorem dX9_lateBy_3 : decode cX9_lateBy 3 = .ok (.iload_n 3, 1) := by decide +kernel
theorem dX9_lateBy_4 : decode cX9_lateBy 4 = .ok (.invokevirtual 178, 3) := by decide +kernel
theorem dX9_lateBy_7 : decode cX9_lateBy 7 = .ok (.aload_n 0, 1) := by decide +kernel
theorem dX9_lateBy_8 : decode cX9_lateBy 8 = .ok (.getfield 25, 3) := by decide +kernel
theorem dX9_lateBy_11 : decode cX9_lateBy 11 = .ok (.iload_n 3, 1) := by decide +kernel
theorem dX9_lateBy_12 : decode cX9_lateBy 12 = .ok (.iaload, 1) := by decide +kernel
theorem dX9_lateBy_13 : decode cX9_lateBy 13 = .ok (.isub, 1) := by decide +kernel
theorem dX9_lateBy_14 : decode cX9_lateBy 14 = .ok (.ireturn, 1) := by decide +kernel
theorem dX9_weeps_0 : decode cX9_weeps 0 = .ok (.aload_n 0, 1) := by decide +kernel
theorem dX9_weeps_1 : decode cX9_weeps 1 = .ok (.getfield 16, 3) := by decide +kernel
theorem dX9_weeps_4 : decode cX9_weeps 4 = .ok (.iload_n 1, 1) := by decide +kernel
theorem dX9_weeps_5 : decode cX9_weeps 5 = .ok (.iaload, 1) := by decide +kernel
theorem dX9_weeps_6 : decode cX9_weeps 6 = .ok (.iconst 1, 1) := by decide +kernel
theorem dX9_weeps_7 : decode cX9_weeps 7 = .ok (.if_icmp .eq 22, 3) := by decide +kernel
theorem dX9_weeps_10 : decode cX9_weeps 10 = .ok (.aload_n 0, 1) := by decide +kernel
theorem dX9_weeps_11 : decode cX9_weeps 11 = .ok (.getfield 16, 3) := by decide +kernel
theorem dX9_weeps_14 : decode cX9_weeps 14 = .ok (.iload_n 1, 1) := by decide +kernel
theorem dX9_weeps_15 : decode cX9_weeps 15 = .ok (.iaload, 1) := by decide +kernel
theorem dX9_weeps_16 : decode cX9_weeps 16 = .ok (.ifCond .ne 17, 3) := by decide +kernel
theorem dX9_weeps_19 : decode cX9_weeps 19 = .ok (.iload_n 2, 1) := by decide +kernel
theorem dX9_weeps_20 : decode cX9_weeps 20 = .ok (.aload_n 0, 1) := by decide +kernel
theorem dX9_weeps_21 : decode cX9_weeps 21 = .ok (.getfield 28, 3) := by decide +kernel
theorem dX9_weeps_24 : decode cX9_weeps 24 = .ok (.iload_n 1, 1) := by decide +kernel
theorem dX9_weeps_25 : decode cX9_weeps 25 = .ok (.iaload, 1) := by decide +kernel
theorem dX9_weeps_26 : decode cX9_weeps 26 = .ok (.if_icmp .le 7, 3) := by decide +kernel
theorem dX9_weeps_29 : decode cX9_weeps 29 = .ok (.iconst 1, 1) := by decide +kernel
theorem dX9_weeps_30 : decode cX9_weeps 30 = .ok (.goto 4, 3) := by decide +kernel
theorem dX9_weeps_33 : decode cX9_weeps 33 = .ok (.iconst 0, 1) := by decide +kernel
theorem dX9_weeps_34 : decode cX9_weeps 34 = .ok (.ireturn, 1) := by decide +kernel
theorem dX9_rides_0 : decode cX9_rides 0 = .ok (.aload_n 0, 1) := by decide +kernel
theorem dX9_rides_1 : decode cX9_rides 1 = .ok (.iload_n 1, 1) := by decide +kernel
theorem dX9_rides_2 : decode cX9_rides 2 = .ok (.iload_n 2, 1) := by decide +kernel
theorem dX9_rides_3 : decode cX9_rides 3 = .ok (.iload_n 3, 1) := by decide +kernel
theorem dX9_rides_4 : decode cX9_rides 4 = .ok (.invokevirtual 175, 3) := by decide +kernel
theorem dX9_rides_7 : decode cX9_rides 7 = .ok (.istore 5, 2) := by decide +kernel
theorem dX9_rides_9 : decode cX9_rides 9 = .ok (.aload_n 0, 1) := by decide +kernel
theorem dX9_rides_10 : decode cX9_rides 10 = .ok (.iload_n 1, 1) := by decide +kernel
theorem dX9_rides_11 : decode cX9_rides 11 = .ok (.iload_n 2, 1) := by decide +kernel
theorem dX9_rides_12 : decode cX9_rides 12 = .ok (.iload_n 3, 1) := by decide +kernel
theorem dX9_rides_13 : decode cX9_rides 13 = .ok (.invokevirtual 178, 3) := by decide +kernel
theorem dX9_rides_16 : decode cX9_rides 16 = .ok (.istore 6, 2) := by decide +kernel
theorem dX9_rides_18 : decode cX9_rides 18 = .ok (.aload_n 0, 1) := by decide +kernel
theorem dX9_rides_19 : decode cX9_rides 19 = .ok (.getfield 7, 3) := by decide +kernel
theorem dX9_rides_22 : decode cX9_rides 22 = .ok (.iload_n 1, 1) := by decide +kernel
theorem dX9_rides_23 : decode cX9_rides 23 = .ok (.bipush 11, 2) := by decide +kernel
theorem dX9_rides_25 : decode cX9_rides 25 = .ok (.iadd, 1) := by decide +kernel
theorem dX9_rides_26 : decode cX9_rides 26 = .ok (.iload_n 3, 1) := by decide +kernel
theorem dX9_rides_27 : decode cX9_rides 27 = .ok (.iadd, 1) := by decide +kernel
theorem dX9_rides_28 : decode cX9_rides 28 = .ok (.iload 6, 2) := by decide +kernel
theorem dX9_rides_30 : decode cX9_rides 30 = .ok (.aload_n 0, 1) := by decide +kernel
theorem dX9_rides_31 : decode cX9_rides 31 = .ok (.getfield 25, 3) := by decide +kernel
theorem dX9_rides_34 : decode cX9_rides 34 = .ok (.iload_n 3, 1) := by decide +kernel
theorem dX9_rides_35 : decode cX9_rides 35 = .ok (.iaload, 1) := by decide +kernel
theorem dX9_rides_36 : decode cX9_rides 36 = .ok (.isub, 1) := by decide +kernel
theorem dX9_rides_37 : decode cX9_rides 37 = .ok (.iastore, 1) := by decide +kernel
theorem dX9_rides_38 : decode cX9_rides 38 = .ok (.aload_n 0, 1) := by decide +kernel
theorem dX9_rides_39 : decode cX9_rides 39 = .ok (.getfield 7, 3) := by decide +kernel
theorem dX9_rides_42 : decode cX9_rides 42 = .ok (.iload_n 1, 1) := by decide +kernel
theorem dX9_rides_43 : decode cX9_rides 43 = .ok (.bipush 10, 2) := by decide +kernel
theorem dX9_rides_45 : decode cX9_rides 45 = .ok (.iadd, 1) := by decide +kernel
theorem dX9_rides_46 : decode cX9_rides 46 = .ok (.dup2, 1) := by decide +kernel
theorem dX9_rides_47 : decode cX9_rides 47 = .ok (.iaload, 1) := by decide +kernel
theorem dX9_rides_48 : decode cX9_rides 48 = .ok (.iconst 1, 1) := by decide +kernel
theorem dX9_rides_49 : decode cX9_rides 49 = .ok (.iload_n 3, 1) := by decide +kernel
theorem dX9_rides_50 : decode cX9_rides 50 = .ok (.ishl, 1) := by decide +kernel
theorem dX9_rides_51 : decode cX9_rides 51 = .ok (.ior, 1) := by decide +kernel
theorem dX9_rides_52 : decode cX9_rides 52 = .ok (.iastore, 1) := by decide +kernel
theorem dX9_rides_53 : decode cX9_rides 53 = .ok (.aload_n 0, 1) := by decide +kernel
theorem dX9_rides_54 : decode cX9_rides 54 = .ok (.getfield 7, 3) := by decide +kernel
theorem dX9_rides_57 : decode cX9_rides 57 = .ok (.iload_n 1, 1) := by decide +kernel
theorem dX9_rides_58 : decode cX9_rides 58 = .ok (.bipush 18, 2) := by decide +kernel
theorem dX9_rides_60 : decode cX9_rides 60 = .ok (.iadd, 1) := by decide +kernel
theorem dX9_rides_61 : decode cX9_rides 61 = .ok (.dup2, 1) := by decide +kernel
theorem dX9_rides_62 : decode cX9_rides 62 = .ok (.iaload, 1) := by decide +kernel
theorem dX9_rides_63 : decode cX9_rides 63 = .ok (.iload 4, 2) := by decide +kernel
theorem dX9_rides_65 : decode cX9_rides 65 = .ok (.ifCond .eq 9, 3) := by decide +kernel
theorem dX9_rides_68 : decode cX9_rides 68 = .ok (.iconst 1, 1) := by decide +kernel
theorem dX9_rides_69 : decode cX9_rides 69 = .ok (.iload_n 3, 1) := by decide +kernel
theorem dX9_rides_70 : decode cX9_rides 70 = .ok (.ishl, 1) := by decide +kernel
theorem dX9_rides_71 : decode cX9_rides 71 = .ok (.goto 4, 3) := by decide +kernel
theorem dX9_rides_74 : decode cX9_rides 74 = .ok (.iconst 0, 1) := by decide +kernel
theorem dX9_rides_75 : decode cX9_rides 75 = .ok (.ior, 1) := by decide +kernel
theorem dX9_rides_76 : decode cX9_rides 76 = .ok (.iastore, 1) := by decide +kernel
theorem dX9_rides_77 : decode cX9_rides 77 = .ok (.aload_n 0, 1) := by decide +kernel
theorem dX9_rides_78 : decode cX9_rides 78 = .ok (.getfield 7, 3) := by decide +kernel
theorem dX9_rides_81 : decode cX9_rides 81 = .ok (.iload_n 1, 1) := by decide +kernel
theorem dX9_rides_82 : decode cX9_rides 82 = .ok (.bipush 7, 2) := by decide +kernel
theorem dX9_rides_84 : decode cX9_rides 84 = .ok (.iadd, 1) := by decide +kernel
theorem dX9_rides_85 : decode cX9_rides 85 = .ok (.iload_n 2, 1) := by decide +kernel
theorem dX9_rides_86 : decode cX9_rides 86 = .ok (.iadd, 1) := by decide +kernel
theorem dX9_rides_87 : decode cX9_rides 87 = .ok (.aload_n 0, 1) := by decide +kernel
theorem dX9_rides_88 : decode cX9_rides 88 = .ok (.getfield 16, 3) := by decide +kernel
theorem dX9_rides_91 : decode cX9_rides 91 = .ok (.iload_n 3, 1) := by decide +kernel
theorem dX9_rides_92 : decode cX9_rides 92 = .ok (.iaload, 1) := by decide +kernel
theorem dX9_rides_93 : decode cX9_rides 93 = .ok (.iconst 3, 1) := by decide +kernel
theorem dX9_rides_94 : decode cX9_rides 94 = .ok (.if_icmp .ne 13, 3) := by decide +kernel
theorem dX9_rides_97 : decode cX9_rides 97 = .ok (.iload 5, 2) := by decide +kernel
theorem dX9_rides_99 : decode cX9_rides 99 = .ok (.ifCond .eq 8, 3) := by decide +kernel
theorem dX9_rides_102 : decode cX9_rides 102 = .ok (.bipush (-4), 2) := by decide +kernel
theorem dX9_rides_104 : decode cX9_rides 104 = .ok (.goto 28, 3) := by decide +kernel
theorem dX9_rides_107 : decode cX9_rides 107 = .ok (.iload 4, 2) := by decide +kernel
theorem dX9_rides_109 : decode cX9_rides 109 = .ok (.ifCond .eq 12, 3) := by decide +kernel
theorem dX9_rides_112 : decode cX9_rides 112 = .ok (.aload_n 0, 1) := by decide +kernel
theorem dX9_rides_113 : decode cX9_rides 113 = .ok (.getfield 22, 3) := by decide +kernel
theorem dX9_rides_116 : decode cX9_rides 116 = .ok (.iload_n 3, 1) := by decide +kernel
theorem dX9_rides_117 : decode cX9_rides 117 = .ok (.iaload, 1) := by decide +kernel
theorem dX9_rides_118 : decode cX9_rides 118 = .ok (.goto 14, 3) := by decide +kernel
theorem dX9_rides_121 : decode cX9_rides 121 = .ok (.aload_n 0, 1) := by decide +kernel
theorem dX9_rides_122 : decode cX9_rides 122 = .ok (.getfield 7, 3) := by decide +kernel
theorem dX9_rides_125 : decode cX9_rides 125 = .ok (.iload_n 1, 1) := by decide +kernel
theorem dX9_rides_126 : decode cX9_rides 126 = .ok (.bipush 7, 2) := by decide +kernel
theorem dX9_rides_128 : decode cX9_rides 128 = .ok (.iadd, 1) := by decide +kernel
theorem dX9_rides_129 : decode cX9_rides 129 = .ok (.iload_n 2, 1) := by decide +kernel
theorem dX9_rides_130 : decode cX9_rides 130 = .ok (.iadd, 1) := by decide +kernel
theorem dX9_rides_131 : decode cX9_rides 131 = .ok (.iaload, 1) := by decide +kernel
theorem dX9_rides_132 : decode cX9_rides 132 = .ok (.iastore, 1) := by decide +kernel
theorem dX9_rides_133 : decode cX9_rides 133 = .ok (.aload_n 0, 1) := by decide +kernel
theorem dX9_rides_134 : decode cX9_rides 134 = .ok (.getfield 7, 3) := by decide +kernel
theorem dX9_rides_137 : decode cX9_rides 137 = .ok (.iload_n 1, 1) := by decide +kernel
theorem dX9_rides_138 : decode cX9_rides 138 = .ok (.iconst 1, 1) := by decide +kernel
theorem dX9_rides_139 : decode cX9_rides 139 = .ok (.iadd, 1) := by decide +kernel
theorem dX9_rides_140 : decode cX9_rides 140 = .ok (.iload_n 2, 1) := by decide +kernel
theorem dX9_rides_141 : decode cX9_rides 141 = .ok (.iadd, 1) := by decide +kernel
theorem dX9_rides_142 : decode cX9_rides 142 = .ok (.aload_n 0, 1) := by decide +kernel
theorem dX9_rides_143 : decode cX9_rides 143 = .ok (.getfield 22, 3) := by decide +kernel
theorem dX9_rides_146 : decode cX9_rides 146 = .ok (.iload_n 3, 1) := by decide +kernel
theorem dX9_rides_147 : decode cX9_rides 147 = .ok (.iaload, 1) := by decide +kernel
theorem dX9_rides_148 : decode cX9_rides 148 = .ok (.iastore, 1) := by decide +kernel
theorem dX9_rides_149 : decode cX9_rides 149 = .ok (.aload_n 0, 1) := by decide +kernel
theorem dX9_rides_150 : decode cX9_rides 150 = .ok (.getfield 7, 3) := by decide +kernel
theorem dX9_rides_153 : decode cX9_rides 153 = .ok (.iload_n 1, 1) := by decide +kernel
theorem dX9_rides_154 : decode cX9_rides 154 = .ok (.iconst 4, 1) := by decide +kernel
theorem dX9_rides_155 : decode cX9_rides 155 = .ok (.iadd, 1) := by decide +kernel
theorem dX9_rides_156 : decode cX9_rides 156 = .ok (.iload_n 2, 1) := by decide +kernel
theorem dX9_rides_157 : decode cX9_rides 157 = .ok (.iadd, 1) := by decide +kernel
theorem dX9_rides_158 : decode cX9_rides 158 = .ok (.iload 6, 2) := by decide +kernel
theorem dX9_rides_160 : decode cX9_rides 160 = .ok (.iastore, 1) := by decide +kernel
theorem dX9_rides_161 : decode cX9_rides 161 = .ok (.return_, 1) := by decide +kernel
theorem dX9_ridesAsOneDoes_0 : decode cX9_ridesAsOneDoes 0 = .ok (.aload_n 0, 1) := by decide +kernel
theorem dX9_ridesAsOneDoes_1 : decode cX9_ridesAsOneDoes 1 = .ok (.iload_n 3, 1) := by decide +kernel
theorem dX9_ridesAsOneDoes_2 : decode cX9_ridesAsOneDoes 2 = .ok (.aload_n 0, 1) := by decide +kernel
theorem dX9_ridesAsOneDoes_3 : decode cX9_ridesAsOneDoes 3 = .ok (.iload_n 1, 1) := by decide +kernel
theorem dX9_ridesAsOneDoes_4 : decode cX9_ridesAsOneDoes 4 = .ok (.iload_n 2, 1) := by decide +kernel
theorem dX9_ridesAsOneDoes_5 : decode cX9_ridesAsOneDoes 5 = .ok (.iload_n 3, 1) := by decide +kernel
theorem dX9_ridesAsOneDoes_6 : decode cX9_ridesAsOneDoes 6 = .ok (.invokevirtual 182, 3) := by decide +kernel
theorem dX9_ridesAsOneDoes_9 : decode cX9_ridesAsOneDoes 9 = .ok (.invokevirtual 185, 3) := by decide +kernel
theorem dX9_ridesAsOneDoes_12 : decode cX9_ridesAsOneDoes 12 = .ok (.istore 4, 2) := by decide +kernel
theorem dX9_ridesAsOneDoes_14 : decode cX9_ridesAsOneDoes 14 = .ok (.aload_n 0, 1) := by decide +kernel
theorem dX9_ridesAsOneDoes_15 : decode cX9_ridesAsOneDoes 15 = .ok (.iload_n 1, 1) := by decide +kernel
theorem dX9_ridesAsOneDoes_16 : decode cX9_ridesAsOneDoes 16 = .ok (.iload_n 2, 1) := by decide +kernel
theorem dX9_ridesAsOneDoes_17 : decode cX9_ridesAsOneDoes 17 = .ok (.iload_n 3, 1) := by decide +kernel
theorem dX9_ridesAsOneDoes_18 : decode cX9_ridesAsOneDoes 18 = .ok (.iload 4, 2) := by decide +kernel
theorem dX9_ridesAsOneDoes_20 : decode cX9_ridesAsOneDoes 20 = .ok (.invokevirtual 189, 3) := by decide +kernel
theorem dX9_ridesAsOneDoes_23 : decode cX9_ridesAsOneDoes 23 = .ok (.iload 4, 2) := by decide +kernel
theorem dX9_ridesAsOneDoes_25 : decode cX9_ridesAsOneDoes 25 = .ok (.ireturn, 1) := by decide +kernel
theorem dX9_soonestIn_0 : decode cX9_soonestIn 0 = .ok (.iconst 0, 1) := by decide +kernel
theorem dX9_soonestIn_1 : decode cX9_soonestIn 1 = .ok (.istore_n 3, 1) := by decide +kernel
theorem dX9_soonestIn_2 : decode cX9_soonestIn 2 = .ok (.iconst 1, 1) := by decide +kernel
theorem dX9_soonestIn_3 : decode cX9_soonestIn 3 = .ok (.istore 4, 2) := by decide +kernel
theorem dX9_soonestIn_5 : decode cX9_soonestIn 5 = .ok (.iload 4, 2) := by decide +kernel
theorem dX9_soonestIn_7 : decode cX9_soonestIn 7 = .ok (.aload_n 0, 1) := by decide +kernel
theorem dX9_soonestIn_8 : decode cX9_soonestIn 8 = .ok (.getfield 96, 3) := by decide +kernel
theorem dX9_soonestIn_11 : decode cX9_soonestIn 11 = .ok (.if_icmp .ge 34, 3) := by decide +kernel
theorem dX9_soonestIn_14 : decode cX9_soonestIn 14 = .ok (.aload_n 0, 1) := by decide +kernel
theorem dX9_soonestIn_15 : decode cX9_soonestIn 15 = .ok (.iload_n 1, 1) := by decide +kernel
theorem dX9_soonestIn_16 : decode cX9_soonestIn 16 = .ok (.iload 4, 2) := by decide +kernel
theorem dX9_soonestIn_18 : decode cX9_soonestIn 18 = .ok (.iload_n 2, 1) := by decide +kernel
theorem dX9_soonestIn_19 : decode cX9_soonestIn 19 = .ok (.invokevirtual 182, 3) := by decide +kernel
theorem dX9_soonestIn_22 : decode cX9_soonestIn 22 = .ok (.aload_n 0, 1) := by decide +kernel
theorem dX9_soonestIn_23 : decode cX9_soonestIn 23 = .ok (.iload_n 1, 1) := by decide +kernel
theorem dX9_soonestIn_24 : decode cX9_soonestIn 24 = .ok (.iload_n 3, 1) := by decide +kernel
theorem dX9_soonestIn_25 : decode cX9_soonestIn 25 = .ok (.iload_n 2, 1) := by decide +kernel
theorem dX9_soonestIn_26 : decode cX9_soonestIn 26 = .ok (.invokevirtual 182, 3) := by decide +kernel
theorem dX9_soonestIn_29 : decode cX9_soonestIn 29 = .ok (.if_icmp .ge 8, 3) := by decide +kernel
theorem dX9_soonestIn_32 : decode cX9_soonestIn 32 = .ok (.iload 4, 2) := by decide +kernel
theorem dX9_soonestIn_34 : decode cX9_soonestIn 34 = .ok (.goto 4, 3) := by decide +kernel
theorem dX9_soonestIn_37 : decode cX9_soonestIn 37 = .ok (.iload_n 3, 1) := by decide +kernel
theorem dX9_soonestIn_38 : decode cX9_soonestIn 38 = .ok (.istore_n 3, 1) := by decide +kernel
theorem dX9_soonestIn_39 : decode cX9_soonestIn 39 = .ok (.iinc 4 1, 3) := by decide +kernel
theorem dX9_soonestIn_42 : decode cX9_soonestIn 42 = .ok (.goto (-37), 3) := by decide +kernel
theorem dX9_soonestIn_45 : decode cX9_soonestIn 45 = .ok (.iload_n 3, 1) := by decide +kernel
theorem dX9_soonestIn_46 : decode cX9_soonestIn 46 = .ok (.ireturn, 1) := by decide +kernel
theorem dX9_minds_0 : decode cX9_minds 0 = .ok (.aload_n 0, 1) := by decide +kernel
theorem dX9_minds_1 : decode cX9_minds 1 = .ok (.getfield 108, 3) := by decide +kernel
theorem dX9_minds_4 : decode cX9_minds 4 = .ok (.bipush 8, 2) := by decide +kernel
theorem dX9_minds_6 : decode cX9_minds 6 = .ok (.if_icmp .ne 49, 3) := by decide +kernel
theorem dX9_minds_9 : decode cX9_minds 9 = .ok (.iconst 0, 1) := by decide +kernel
theorem dX9_minds_10 : decode cX9_minds 10 = .ok (.istore_n 1, 1) := by decide +kernel
theorem dX9_minds_11 : decode cX9_minds 11 = .ok (.iload_n 1, 1) := by decide +kernel
theorem dX9_minds_12 : decode cX9_minds 12 = .ok (.sipush 133, 3) := by decide +kernel
theorem dX9_minds_15 : decode cX9_minds 15 = .ok (.if_icmp .ge 30, 3) := by decide +kernel
theorem dX9_minds_18 : decode cX9_minds 18 = .ok (.aload_n 0, 1) := by decide +kernel
theorem dX9_minds_19 : decode cX9_minds 19 = .ok (.getfield 7, 3) := by decide +kernel
theorem dX9_minds_22 : decode cX9_minds 22 = .ok (.bipush 76, 2) := by decide +kernel
theorem dX9_minds_24 : decode cX9_minds 24 = .ok (.iload_n 1, 1) := by decide +kernel
theorem dX9_minds_25 : decode cX9_minds 25 = .ok (.iadd, 1) := by decide +kernel
theorem dX9_minds_26 : decode cX9_minds 26 = .ok (.aload_n 0, 1) := by decide +kernel
theorem dX9_minds_27 : decode cX9_minds 27 = .ok (.getfield 7, 3) := by decide +kernel
theorem dX9_minds_30 : decode cX9_minds 30 = .ok (.bipush 76, 2) := by decide +kernel
theorem dX9_minds_32 : decode cX9_minds 32 = .ok (.iload_n 1, 1) := by decide +kernel
theorem dX9_minds_33 : decode cX9_minds 33 = .ok (.iadd, 1) := by decide +kernel
theorem dX9_minds_34 : decode cX9_minds 34 = .ok (.bipush 19, 2) := by decide +kernel
theorem dX9_minds_36 : decode cX9_minds 36 = .ok (.iadd, 1) := by decide +kernel
theorem dX9_minds_37 : decode cX9_minds 37 = .ok (.iaload, 1) := by decide +kernel
theorem dX9_minds_38 : decode cX9_minds 38 = .ok (.iastore, 1) := by decide +kernel
theorem dX9_minds_39 : decode cX9_minds 39 = .ok (.iinc 1 1, 3) := by decide +kernel
theorem dX9_minds_42 : decode cX9_minds 42 = .ok (.goto (-31), 3) := by decide +kernel
theorem dX9_minds_45 : decode cX9_minds 45 = .ok (.aload_n 0, 1) := by decide +kernel
theorem dX9_minds_46 : decode cX9_minds 46 = .ok (.dup, 1) := by decide +kernel
theorem dX9_minds_47 : decode cX9_minds 47 = .ok (.getfield 108, 3) := by decide +kernel
theorem dX9_minds_50 : decode cX9_minds 50 = .ok (.iconst 1, 1) := by decide +kernel
theorem dX9_minds_51 : decode cX9_minds 51 = .ok (.isub, 1) := by decide +kernel
theorem dX9_minds_52 : decode cX9_minds 52 = .ok (.putfield 108, 3) := by decide +kernel
theorem dX9_minds_55 : decode cX9_minds 55 = .ok (.aload_n 0, 1) := by decide +kernel
theorem dX9_minds_56 : decode cX9_minds 56 = .ok (.iconst 0, 1) := by decide +kernel
theorem dX9_minds_57 : decode cX9_minds 57 = .ok (.bipush 76, 2) := by decide +kernel
theorem dX9_minds_59 : decode cX9_minds 59 = .ok (.bipush 19, 2) := by decide +kernel
theorem dX9_minds_61 : decode cX9_minds 61 = .ok (.aload_n 0, 1) := by decide +kernel
theorem dX9_minds_62 : decode cX9_minds 62 = .ok (.getfield 108, 3) := by decide +kernel
theorem dX9_minds_65 : decode cX9_minds 65 = .ok (.imul, 1) := by decide +kernel
theorem dX9_minds_66 : decode cX9_minds 66 = .ok (.iadd, 1) := by decide +kernel
theorem dX9_minds_67 : decode cX9_minds 67 = .ok (.invokevirtual 193, 3) := by decide +kernel
theorem dX9_minds_70 : decode cX9_minds 70 = .ok (.aload_n 0, 1) := by decide +kernel
theorem dX9_minds_71 : decode cX9_minds 71 = .ok (.dup, 1) := by decide +kernel
theorem dX9_minds_72 : decode cX9_minds 72 = .ok (.getfield 108, 3) := by decide +kernel
theorem dX9_minds_75 : decode cX9_minds 75 = .ok (.iconst 1, 1) := by decide +kernel
theorem dX9_minds_76 : decode cX9_minds 76 = .ok (.iadd, 1) := by decide +kernel
theorem dX9_minds_77 : decode cX9_minds 77 = .ok (.putfield 108, 3) := by decide +kernel
theorem dX9_minds_80 : decode cX9_minds 80 = .ok (.return_, 1) := by decide +kernel
theorem dX9_take_0 : decode cX9_take 0 = .ok (.aload_n 0, 1) := by decide +kernel
theorem dX9_take_1 : decode cX9_take 1 = .ok (.iload_n 1, 1) := by decide +kernel
theorem dX9_take_2 : decode cX9_take 2 = .ok (.invokevirtual 166, 3) := by decide +kernel
theorem dX9_take_5 : decode cX9_take 5 = .ok (.ifCond .eq 11, 3) := by decide +kernel
theorem dX9_take_8 : decode cX9_take 8 = .ok (.aload_n 0, 1) := by decide +kernel
theorem dX9_take_9 : decode cX9_take 9 = .ok (.iload_n 2, 1) := by decide +kernel
theorem dX9_take_10 : decode cX9_take 10 = .ok (.invokevirtual 169, 3) := by decide +kernel
theorem dX9_take_13 : decode cX9_take 13 = .ok (.ifCond .ne 5, 3) := by decide +kernel
theorem dX9_take_16 : decode cX9_take 16 = .ok (.iconst (-1), 1) := by decide +kernel
theorem dX9_take_17 : decode cX9_take 17 = .ok (.ireturn, 1) := by decide +kernel
theorem dX9_take_18 : decode cX9_take 18 = .ok (.aload_n 0, 1) := by decide +kernel
theorem dX9_take_19 : decode cX9_take 19 = .ok (.getfield 7, 3) := by decide +kernel
theorem dX9_take_22 : decode cX9_take 22 = .ok (.bipush 10, 2) := by decide +kernel
theorem dX9_take_24 : decode cX9_take 24 = .ok (.iaload, 1) := by decide +kernel
theorem dX9_take_25 : decode cX9_take 25 = .ok (.iload_n 2, 1) := by decide +kernel
theorem dX9_take_26 : decode cX9_take 26 = .ok (.invokestatic 197, 3) := by decide +kernel
theorem dX9_take_29 : decode cX9_take 29 = .ok (.ifCond .eq 6, 3) := by decide +kernel
theorem dX9_take_32 : decode cX9_take 32 = .ok (.bipush (-2), 2) := by decide +kernel
theorem dX9_take_34 : decode cX9_take 34 = .ok (.ireturn, 1) := by decide +kernel
theorem dX9_take_35 : decode cX9_take 35 = .ok (.aload_n 0, 1) := by decide +kernel
theorem dX9_take_36 : decode cX9_take 36 = .ok (.invokevirtual 200, 3) := by decide +kernel
theorem dX9_take_39 : decode cX9_take 39 = .ok (.aload_n 0, 1) := by decide +kernel
theorem dX9_take_40 : decode cX9_take 40 = .ok (.iconst 0, 1) := by decide +kernel
theorem dX9_take_41 : decode cX9_take 41 = .ok (.iload_n 1, 1) := by decide +kernel
theorem dX9_take_42 : decode cX9_take 42 = .ok (.iload_n 2, 1) := by decide +kernel
theorem dX9_take_43 : decode cX9_take 43 = .ok (.invokevirtual 203, 3) := by decide +kernel
theorem dX9_take_46 : decode cX9_take 46 = .ok (.pop, 1) := by decide +kernel
theorem dX9_take_47 : decode cX9_take 47 = .ok (.aload_n 0, 1) := by decide +kernel
theorem dX9_take_48 : decode cX9_take 48 = .ok (.getfield 7, 3) := by decide +kernel
theorem dX9_take_51 : decode cX9_take 51 = .ok (.bipush 11, 2) := by decide +kernel
theorem dX9_take_53 : decode cX9_take 53 = .ok (.iload_n 2, 1) := by decide +kernel
theorem dX9_take_54 : decode cX9_take 54 = .ok (.iadd, 1) := by decide +kernel
theorem dX9_take_55 : decode cX9_take 55 = .ok (.iaload, 1) := by decide +kernel
theorem dX9_take_56 : decode cX9_take 56 = .ok (.ireturn, 1) := by decide +kernel
theorem dX9_sends_0 : decode cX9_sends 0 = .ok (.aload_n 0, 1) := by decide +kernel
theorem dX9_sends_1 : decode cX9_sends 1 = .ok (.getfield 7, 3) := by decide +kernel
theorem dX9_sends_4 : decode cX9_sends 4 = .ok (.iload_n 1, 1) := by decide +kernel
theorem dX9_sends_5 : decode cX9_sends 5 = .ok (.iconst 4, 1) := by decide +kernel
theorem dX9_sends_6 : decode cX9_sends 6 = .ok (.iadd, 1) := by decide +kernel
theorem dX9_sends_7 : decode cX9_sends 7 = .ok (.iload_n 2, 1) := by decide +kernel
theorem dX9_sends_8 : decode cX9_sends 8 = .ok (.iadd, 1) := by decide +kernel
theorem dX9_sends_9 : decode cX9_sends 9 = .ok (.aload_n 0, 1) := by decide +kernel
theorem dX9_sends_10 : decode cX9_sends 10 = .ok (.iload_n 1, 1) := by decide +kernel
theorem dX9_sends_11 : decode cX9_sends 11 = .ok (.iload_n 2, 1) := by decide +kernel
theorem dX9_sends_12 : decode cX9_sends 12 = .ok (.invokevirtual 172, 3) := by decide +kernel
theorem dX9_sends_15 : decode cX9_sends 15 = .ok (.aload_n 0, 1) := by decide +kernel
theorem dX9_sends_16 : decode cX9_sends 16 = .ok (.aload_n 0, 1) := by decide +kernel
theorem dX9_sends_17 : decode cX9_sends 17 = .ok (.getfield 7, 3) := by decide +kernel
theorem dX9_sends_20 : decode cX9_sends 20 = .ok (.iload_n 1, 1) := by decide +kernel
theorem dX9_sends_21 : decode cX9_sends 21 = .ok (.iconst 1, 1) := by decide +kernel
theorem dX9_sends_22 : decode cX9_sends 22 = .ok (.iadd, 1) := by decide +kernel
theorem dX9_sends_23 : decode cX9_sends 23 = .ok (.iload_n 2, 1) := by decide +kernel
theorem dX9_sends_24 : decode cX9_sends 24 = .ok (.iadd, 1) := by decide +kernel
theorem dX9_sends_25 : decode cX9_sends 25 = .ok (.iaload, 1) := by decide +kernel
theorem dX9_sends_26 : decode cX9_sends 26 = .ok (.iload_n 3, 1) := by decide +kernel
theorem dX9_sends_27 : decode cX9_sends 27 = .ok (.invokevirtual 162, 3) := by decide +kernel
theorem dX9_sends_30 : decode cX9_sends 30 = .ok (.iadd, 1) := by decide +kernel
theorem dX9_sends_31 : decode cX9_sends 31 = .ok (.iastore, 1) := by decide +kernel
theorem dX9_sends_32 : decode cX9_sends 32 = .ok (.aload_n 0, 1) := by decide +kernel
theorem dX9_sends_33 : decode cX9_sends 33 = .ok (.getfield 7, 3) := by decide +kernel
theorem dX9_sends_36 : decode cX9_sends 36 = .ok (.iload_n 1, 1) := by decide +kernel
theorem dX9_sends_37 : decode cX9_sends 37 = .ok (.iconst 1, 1) := by decide +kernel
theorem dX9_sends_38 : decode cX9_sends 38 = .ok (.iadd, 1) := by decide +kernel
theorem dX9_sends_39 : decode cX9_sends 39 = .ok (.iload_n 2, 1) := by decide +kernel
theorem dX9_sends_40 : decode cX9_sends 40 = .ok (.iadd, 1) := by decide +kernel
theorem dX9_sends_41 : decode cX9_sends 41 = .ok (.iload_n 3, 1) := by decide +kernel
theorem dX9_sends_42 : decode cX9_sends 42 = .ok (.iastore, 1) := by decide +kernel
theorem dX9_sends_43 : decode cX9_sends 43 = .ok (.return_, 1) := by decide +kernel
theorem dX9_send_0 : decode cX9_send 0 = .ok (.aload_n 0, 1) := by decide +kernel
theorem dX9_send_1 : decode cX9_send 1 = .ok (.iload_n 1, 1) := by decide +kernel
theorem dX9_send_2 : decode cX9_send 2 = .ok (.invokevirtual 166, 3) := by decide +kernel
theorem dX9_send_5 : decode cX9_send 5 = .ok (.ifCond .eq 11, 3) := by decide +kernel
theorem dX9_send_8 : decode cX9_send 8 = .ok (.aload_n 0, 1) := by decide +kernel
theorem dX9_send_9 : decode cX9_send 9 = .ok (.iload_n 2, 1) := by decide +kernel
theorem dX9_send_10 : decode cX9_send 10 = .ok (.invokevirtual 158, 3) := by decide +kernel
theorem dX9_send_13 : decode cX9_send 13 = .ok (.ifCond .ne 5, 3) := by decide +kernel
theorem dX9_send_16 : decode cX9_send 16 = .ok (.iconst (-1), 1) := by decide +kernel
theorem dX9_send_17 : decode cX9_send 17 = .ok (.ireturn, 1) := by decide +kernel
theorem dX9_send_18 : decode cX9_send 18 = .ok (.aload_n 0, 1) := by decide +kernel
theorem dX9_send_19 : decode cX9_send 19 = .ok (.invokevirtual 200, 3) := by decide +kernel
theorem dX9_send_22 : decode cX9_send 22 = .ok (.aload_n 0, 1) := by decide +kernel
theorem dX9_send_23 : decode cX9_send 23 = .ok (.iconst 0, 1) := by decide +kernel
theorem dX9_send_24 : decode cX9_send 24 = .ok (.iload_n 1, 1) := by decide +kernel
theorem dX9_send_25 : decode cX9_send 25 = .ok (.iload_n 2, 1) := by decide +kernel
theorem dX9_send_26 : decode cX9_send 26 = .ok (.invokevirtual 206, 3) := by decide +kernel
theorem dX9_send_29 : decode cX9_send 29 = .ok (.aload_n 0, 1) := by decide +kernel
theorem dX9_send_30 : decode cX9_send 30 = .ok (.getfield 7, 3) := by decide +kernel
theorem dX9_send_33 : decode cX9_send 33 = .ok (.iconst 4, 1) := by decide +kernel
theorem dX9_send_34 : decode cX9_send 34 = .ok (.iload_n 1, 1) := by decide +kernel
theorem dX9_send_35 : decode cX9_send 35 = .ok (.iadd, 1) := by decide +kernel
theorem dX9_send_36 : decode cX9_send 36 = .ok (.iaload, 1) := by decide +kernel
theorem dX9_send_37 : decode cX9_send 37 = .ok (.ireturn, 1) := by decide +kernel
theorem dX9_pass_0 : decode cX9_pass 0 = .ok (.iload_n 1, 1) := by decide +kernel
theorem dX9_pass_1 : decode cX9_pass 1 = .ok (.i2l, 1) := by decide +kernel
theorem dX9_pass_2 : decode cX9_pass 2 = .ok (.lconst 1, 1) := by decide +kernel
theorem dX9_pass_3 : decode cX9_pass 3 = .ok (.ldc2_w 209, 3) := by decide +kernel
theorem dX9_pass_6 : decode cX9_pass 6 = .ok (.invokestatic 92, 3) := by decide +kernel
theorem dX9_pass_9 : decode cX9_pass 9 = .ok (.ifCond .ne 5, 3) := by decide +kernel
theorem dX9_pass_12 : decode cX9_pass 12 = .ok (.iconst (-1), 1) := by decide +kernel
theorem dX9_pass_13 : decode cX9_pass 13 = .ok (.ireturn, 1) := by decide +kernel
theorem dX9_pass_14 : decode cX9_pass 14 = .ok (.aload_n 0, 1) := by decide +kernel
theorem dX9_pass_15 : decode cX9_pass 15 = .ok (.invokevirtual 200, 3) := by decide +kernel
theorem dX9_pass_18 : decode cX9_pass 18 = .ok (.aload_n 0, 1) := by decide +kernel
theorem dX9_pass_19 : decode cX9_pass 19 = .ok (.getfield 7, 3) := by decide +kernel
theorem dX9_pass_22 : decode cX9_pass 22 = .ok (.iconst 0, 1) := by decide +kernel
theorem dX9_pass_23 : decode cX9_pass 23 = .ok (.dup2, 1) := by decide +kernel
theorem dX9_pass_24 : decode cX9_pass 24 = .ok (.iaload, 1) := by decide +kernel
theorem dX9_pass_25 : decode cX9_pass 25 = .ok (.iload_n 1, 1) := by decide +kernel
theorem dX9_pass_26 : decode cX9_pass 26 = .ok (.iadd, 1) := by decide +kernel
theorem dX9_pass_27 : decode cX9_pass 27 = .ok (.iastore, 1) := by decide +kernel
theorem dX9_pass_28 : decode cX9_pass 28 = .ok (.aload_n 0, 1) := by decide +kernel
theorem dX9_pass_29 : decode cX9_pass 29 = .ok (.getfield 7, 3) := by decide +kernel
theorem dX9_pass_32 : decode cX9_pass 32 = .ok (.iconst 0, 1) := by decide +kernel
theorem dX9_pass_33 : decode cX9_pass 33 = .ok (.iaload, 1) := by decide +kernel
theorem dX9_pass_34 : decode cX9_pass 34 = .ok (.ireturn, 1) := by decide +kernel
theorem dX9_undo_0 : decode cX9_undo 0 = .ok (.aload_n 0, 1) := by decide +kernel
theorem dX9_undo_1 : decode cX9_undo 1 = .ok (.getfield 108, 3) := by decide +kernel
theorem dX9_undo_4 : decode cX9_undo 4 = .ok (.ifCond .ne 6, 3) := by decide +kernel
theorem dX9_undo_7 : decode cX9_undo 7 = .ok (.bipush (-2), 2) := by decide +kernel
theorem dX9_undo_9 : decode cX9_undo 9 = .ok (.ireturn, 1) := by decide +kernel
theorem dX9_undo_10 : decode cX9_undo 10 = .ok (.aload_n 0, 1) := by decide +kernel
theorem dX9_undo_11 : decode cX9_undo 11 = .ok (.dup, 1) := by decide +kernel
theorem dX9_undo_12 : decode cX9_undo 12 = .ok (.getfield 108, 3) := by decide +kernel
theorem dX9_undo_15 : decode cX9_undo 15 = .ok (.iconst 1, 1) := by decide +kernel
theorem dX9_undo_16 : decode cX9_undo 16 = .ok (.isub, 1) := by decide +kernel
theorem dX9_undo_17 : decode cX9_undo 17 = .ok (.putfield 108, 3) := by decide +kernel
theorem dX9_undo_20 : decode cX9_undo 20 = .ok (.aload_n 0, 1) := by decide +kernel
theorem dX9_undo_21 : decode cX9_undo 21 = .ok (.bipush 76, 2) := by decide +kernel
theorem dX9_undo_23 : decode cX9_undo 23 = .ok (.bipush 19, 2) := by decide +kernel
theorem dX9_undo_25 : decode cX9_undo 25 = .ok (.aload_n 0, 1) := by decide +kernel
theorem dX9_undo_26 : decode cX9_undo 26 = .ok (.getfield 108, 3) := by decide +kernel
theorem dX9_undo_29 : decode cX9_undo 29 = .ok (.imul, 1) := by decide +kernel
theorem dX9_undo_30 : decode cX9_undo 30 = .ok (.iadd, 1) := by decide +kernel
theorem dX9_undo_31 : decode cX9_undo 31 = .ok (.iconst 0, 1) := by decide +kernel
theorem dX9_undo_32 : decode cX9_undo 32 = .ok (.invokevirtual 193, 3) := by decide +kernel
theorem dX9_undo_35 : decode cX9_undo 35 = .ok (.aload_n 0, 1) := by decide +kernel
theorem dX9_undo_36 : decode cX9_undo 36 = .ok (.getfield 108, 3) := by decide +kernel
theorem dX9_undo_39 : decode cX9_undo 39 = .ok (.ireturn, 1) := by decide +kernel
theorem dX9_tries_0 : decode cX9_tries 0 = .ok (.aload_n 0, 1) := by decide +kernel
theorem dX9_tries_1 : decode cX9_tries 1 = .ok (.iconst 0, 1) := by decide +kernel
theorem dX9_tries_2 : decode cX9_tries 2 = .ok (.bipush 19, 2) := by decide +kernel
theorem dX9_tries_4 : decode cX9_tries 4 = .ok (.invokevirtual 193, 3) := by decide +kernel
theorem dX9_tries_7 : decode cX9_tries 7 = .ok (.return_, 1) := by decide +kernel
theorem dX9_ride_0 : decode cX9_ride 0 = .ok (.aload_n 0, 1) := by decide +kernel
theorem dX9_ride_1 : decode cX9_ride 1 = .ok (.iload_n 1, 1) := by decide +kernel
theorem dX9_ride_2 : decode cX9_ride 2 = .ok (.invokevirtual 166, 3) := by decide +kernel
theorem dX9_ride_5 : decode cX9_ride 5 = .ok (.ifCond .eq 11, 3) := by decide +kernel
theorem dX9_ride_8 : decode cX9_ride 8 = .ok (.aload_n 0, 1) := by decide +kernel
theorem dX9_ride_9 : decode cX9_ride 9 = .ok (.iload_n 2, 1) := by decide +kernel
theorem dX9_ride_10 : decode cX9_ride 10 = .ok (.invokevirtual 169, 3) := by decide +kernel
theorem dX9_ride_13 : decode cX9_ride 13 = .ok (.ifCond .ne 5, 3) := by decide +kernel
theorem dX9_ride_16 : decode cX9_ride 16 = .ok (.iconst (-1), 1) := by decide +kernel
theorem dX9_ride_17 : decode cX9_ride 17 = .ok (.ireturn, 1) := by decide +kernel
theorem dX9_ride_18 : decode cX9_ride 18 = .ok (.aload_n 0, 1) := by decide +kernel
theorem dX9_ride_19 : decode cX9_ride 19 = .ok (.iconst 0, 1) := by decide +kernel
theorem dX9_ride_20 : decode cX9_ride 20 = .ok (.iload_n 1, 1) := by decide +kernel
theorem dX9_ride_21 : decode cX9_ride 21 = .ok (.iload_n 2, 1) := by decide +kernel
theorem dX9_ride_22 : decode cX9_ride 22 = .ok (.invokevirtual 182, 3) := by decide +kernel
theorem dX9_ride_25 : decode cX9_ride 25 = .ok (.istore 4, 2) := by decide +kernel
theorem dX9_ride_27 : decode cX9_ride 27 = .ok (.iload_n 3, 1) := by decide +kernel
theorem dX9_ride_28 : decode cX9_ride 28 = .ok (.tableswitch 75 0 3 #[32, 40, 43, 59], 32) := by decide +kernel
theorem dX9_ride_60 : decode cX9_ride 60 = .ok (.aload_n 0, 1) := by decide +kernel
theorem dX9_ride_61 : decode cX9_ride 61 = .ok (.iconst 0, 1) := by decide +kernel
theorem dX9_ride_62 : decode cX9_ride 62 = .ok (.iload_n 1, 1) := by decide +kernel
theorem dX9_ride_63 : decode cX9_ride 63 = .ok (.iload_n 2, 1) := by decide +kernel
theorem dX9_ride_64 : decode cX9_ride 64 = .ok (.invokevirtual 178, 3) := by decide +kernel
theorem dX9_ride_67 : decode cX9_ride 67 = .ok (.ireturn, 1) := by decide +kernel
theorem dX9_ride_68 : decode cX9_ride 68 = .ok (.iload 4, 2) := by decide +kernel
theorem dX9_ride_70 : decode cX9_ride 70 = .ok (.ireturn, 1) := by decide +kernel
theorem dX9_ride_71 : decode cX9_ride 71 = .ok (.aload_n 0, 1) := by decide +kernel
theorem dX9_ride_72 : decode cX9_ride 72 = .ok (.iload_n 2, 1) := by decide +kernel
theorem dX9_ride_73 : decode cX9_ride 73 = .ok (.iload 4, 2) := by decide +kernel
theorem dX9_ride_75 : decode cX9_ride 75 = .ok (.invokevirtual 185, 3) := by decide +kernel
theorem dX9_ride_78 : decode cX9_ride 78 = .ok (.ifCond .eq 7, 3) := by decide +kernel
theorem dX9_ride_81 : decode cX9_ride 81 = .ok (.iconst 1, 1) := by decide +kernel
theorem dX9_ride_82 : decode cX9_ride 82 = .ok (.goto 4, 3) := by decide +kernel
theorem dX9_ride_85 : decode cX9_ride 85 = .ok (.iconst 0, 1) := by decide +kernel
theorem dX9_ride_86 : decode cX9_ride 86 = .ok (.ireturn, 1) := by decide +kernel
theorem dX9_ride_87 : decode cX9_ride 87 = .ok (.aload_n 0, 1) := by decide +kernel
theorem dX9_ride_88 : decode cX9_ride 88 = .ok (.iconst 0, 1) := by decide +kernel
theorem dX9_ride_89 : decode cX9_ride 89 = .ok (.iload_n 1, 1) := by decide +kernel
theorem dX9_ride_90 : decode cX9_ride 90 = .ok (.iload_n 2, 1) := by decide +kernel
theorem dX9_ride_91 : decode cX9_ride 91 = .ok (.invokevirtual 175, 3) := by decide +kernel
theorem dX9_ride_94 : decode cX9_ride 94 = .ok (.ifCond .eq 7, 3) := by decide +kernel
theorem dX9_ride_97 : decode cX9_ride 97 = .ok (.iconst 1, 1) := by decide +kernel
theorem dX9_ride_98 : decode cX9_ride 98 = .ok (.goto 4, 3) := by decide +kernel
theorem dX9_ride_101 : decode cX9_ride 101 = .ok (.iconst 0, 1) := by decide +kernel
theorem dX9_ride_102 : decode cX9_ride 102 = .ok (.ireturn, 1) := by decide +kernel
theorem dX9_ride_103 : decode cX9_ride 103 = .ok (.iconst (-1), 1) := by decide +kernel
theorem dX9_ride_104 : decode cX9_ride 104 = .ok (.ireturn, 1) := by decide +kernel
theorem dX9_soonest_0 : decode cX9_soonest 0 = .ok (.aload_n 0, 1) := by decide +kernel
theorem dX9_soonest_1 : decode cX9_soonest 1 = .ok (.iload_n 1, 1) := by decide +kernel
theorem dX9_soonest_2 : decode cX9_soonest 2 = .ok (.invokevirtual 169, 3) := by decide +kernel
theorem dX9_soonest_5 : decode cX9_soonest 5 = .ok (.ifCond .eq 12, 3) := by decide +kernel
theorem dX9_soonest_8 : decode cX9_soonest 8 = .ok (.aload_n 0, 1) := by decide +kernel
theorem dX9_soonest_9 : decode cX9_soonest 9 = .ok (.iconst 0, 1) := by decide +kernel
theorem dX9_soonest_10 : decode cX9_soonest 10 = .ok (.iload_n 1, 1) := by decide +kernel
theorem dX9_soonest_11 : decode cX9_soonest 11 = .ok (.invokevirtual 211, 3) := by decide +kernel
theorem dX9_soonest_14 : decode cX9_soonest 14 = .ok (.goto 4, 3) := by decide +kernel
theorem dX9_soonest_17 : decode cX9_soonest 17 = .ok (.iconst (-1), 1) := by decide +kernel
theorem dX9_soonest_18 : decode cX9_soonest 18 = .ok (.ireturn, 1) := by decide +kernel
theorem dX9_rest_0 : decode cX9_rest 0 = .ok (.iconst 1, 1) := by decide +kernel
theorem dX9_rest_1 : decode cX9_rest 1 = .ok (.aload_n 0, 1) := by decide +kernel
theorem dX9_rest_2 : decode cX9_rest 2 = .ok (.getfield 99, 3) := by decide +kernel
theorem dX9_rest_5 : decode cX9_rest 5 = .ok (.ishl, 1) := by decide +kernel
theorem dX9_rest_6 : decode cX9_rest 6 = .ok (.iconst 1, 1) := by decide +kernel
theorem dX9_rest_7 : decode cX9_rest 7 = .ok (.isub, 1) := by decide +kernel
theorem dX9_rest_8 : decode cX9_rest 8 = .ok (.aload_n 0, 1) := by decide +kernel
theorem dX9_rest_9 : decode cX9_rest 9 = .ok (.getfield 7, 3) := by decide +kernel
theorem dX9_rest_12 : decode cX9_rest 12 = .ok (.bipush 10, 2) := by decide +kernel
theorem dX9_rest_14 : decode cX9_rest 14 = .ok (.iaload, 1) := by decide +kernel
theorem dX9_rest_15 : decode cX9_rest 15 = .ok (.iconst (-1), 1) := by decide +kernel
theorem dX9_rest_16 : decode cX9_rest 16 = .ok (.ixor, 1) := by decide +kernel
theorem dX9_rest_17 : decode cX9_rest 17 = .ok (.iand, 1) := by decide +kernel
theorem dX9_rest_18 : decode cX9_rest 18 = .ok (.ireturn, 1) := by decide +kernel
theorem dX9_ordersRest_0 : decode cX9_ordersRest 0 = .ok (.aload_n 0, 1) := by decide +kernel
theorem dX9_ordersRest_1 : decode cX9_ordersRest 1 = .ok (.invokevirtual 214, 3) := by decide +kernel
theorem dX9_ordersRest_4 : decode cX9_ordersRest 4 = .ok (.istore_n 1, 1) := by decide +kernel
theorem dX9_ordersRest_5 : decode cX9_ordersRest 5 = .ok (.iload_n 1, 1) := by decide +kernel
theorem dX9_ordersRest_6 : decode cX9_ordersRest 6 = .ok (.invokestatic 217, 3) := by decide +kernel
theorem dX9_ordersRest_9 : decode cX9_ordersRest 9 = .ok (.istore_n 2, 1) := by decide +kernel
theorem dX9_ordersRest_10 : decode cX9_ordersRest 10 = .ok (.ldc 220, 2) := by decide +kernel
theorem dX9_ordersRest_12 : decode cX9_ordersRest 12 = .ok (.istore_n 3, 1) := by decide +kernel
theorem dX9_ordersRest_13 : decode cX9_ordersRest 13 = .ok (.iconst 0, 1) := by decide +kernel
theorem dX9_ordersRest_14 : decode cX9_ordersRest 14 = .ok (.istore 4, 2) := by decide +kernel
theorem dX9_ordersRest_16 : decode cX9_ordersRest 16 = .ok (.aload_n 0, 1) := by decide +kernel
theorem dX9_ordersRest_17 : decode cX9_ordersRest 17 = .ok (.iconst 0, 1) := by decide +kernel
theorem dX9_ordersRest_18 : decode cX9_ordersRest 18 = .ok (.sipush 228, 3) := by decide +kernel
theorem dX9_ordersRest_21 : decode cX9_ordersRest 21 = .ok (.invokevirtual 193, 3) := by decide +kernel
theorem dX9_ordersRest_24 : decode cX9_ordersRest 24 = .ok (.aload_n 0, 1) := by decide +kernel
theorem dX9_ordersRest_25 : decode cX9_ordersRest 25 = .ok (.getfield 49, 3) := by decide +kernel
theorem dX9_ordersRest_28 : decode cX9_ordersRest 28 = .ok (.iconst 0, 1) := by decide +kernel
theorem dX9_ordersRest_29 : decode cX9_ordersRest 29 = .ok (.iconst (-1), 1) := by decide +kernel
theorem dX9_ordersRest_30 : decode cX9_ordersRest 30 = .ok (.iastore, 1) := by decide +kernel
theorem dX9_ordersRest_31 : decode cX9_ordersRest 31 = .ok (.aload_n 0, 1) := by decide +kernel
theorem dX9_ordersRest_32 : decode cX9_ordersRest 32 = .ok (.getfield 52, 3) := by decide +kernel
theorem dX9_ordersRest_35 : decode cX9_ordersRest 35 = .ok (.iconst 0, 1) := by decide +kernel
theorem dX9_ordersRest_36 : decode cX9_ordersRest 36 = .ok (.iconst 0, 1) := by decide +kernel
theorem dX9_ordersRest_37 : decode cX9_ordersRest 37 = .ok (.iastore, 1) := by decide +kernel
theorem dX9_ordersRest_38 : decode cX9_ordersRest 38 = .ok (.iload 4, 2) := by decide +kernel
theorem dX9_ordersRest_40 : decode cX9_ordersRest 40 = .ok (.ifCond .lt 238, 3) := by decide +kernel
theorem dX9_ordersRest_43 : decode cX9_ordersRest 43 = .ok (.sipush 228, 3) := by decide +kernel
theorem dX9_ordersRest_46 : decode cX9_ordersRest 46 = .ok (.bipush 19, 2) := by decide +kernel
theorem dX9_ordersRest_48 : decode cX9_ordersRest 48 = .ok (.iload 4, 2) := by decide +kernel
theorem dX9_ordersRest_50 : decode cX9_ordersRest 50 = .ok (.imul, 1) := by decide +kernel
theorem dX9_ordersRest_51 : decode cX9_ordersRest 51 = .ok (.iadd, 1) := by decide +kernel
theorem dX9_ordersRest_52 : decode cX9_ordersRest 52 = .ok (.istore 5, 2) := by decide +kernel
theorem dX9_ordersRest_54 : decode cX9_ordersRest 54 = .ok (.aload_n 0, 1) := by decide +kernel
theorem dX9_ordersRest_55 : decode cX9_ordersRest 55 = .ok (.getfield 49, 3) := by decide +kernel
theorem dX9_ordersRest_58 : decode cX9_ordersRest 58 = .ok (.iload 4, 2) := by decide +kernel
theorem dX9_ordersRest_60 : decode cX9_ordersRest 60 = .ok (.iaload, 1) := by decide +kernel
theorem dX9_ordersRest_61 : decode cX9_ordersRest 61 = .ok (.iconst 1, 1) := by decide +kernel
theorem dX9_ordersRest_62 : decode cX9_ordersRest 62 = .ok (.iadd, 1) := by decide +kernel
theorem dX9_ordersRest_63 : decode cX9_ordersRest 63 = .ok (.istore 6, 2) := by decide +kernel
theorem dX9_ordersRest_65 : decode cX9_ordersRest 65 = .ok (.iload 6, 2) := by decide +kernel
theorem dX9_ordersRest_67 : decode cX9_ordersRest 67 = .ok (.aload_n 0, 1) := by decide +kernel
theorem dX9_ordersRest_68 : decode cX9_ordersRest 68 = .ok (.getfield 99, 3) := by decide +kernel
theorem dX9_ordersRest_71 : decode cX9_ordersRest 71 = .ok (.if_icmp .ge 36, 3) := by decide +kernel
theorem dX9_ordersRest_74 : decode cX9_ordersRest 74 = .ok (.iload_n 1, 1) := by decide +kernel
theorem dX9_ordersRest_75 : decode cX9_ordersRest 75 = .ok (.iload 6, 2) := by decide +kernel
theorem dX9_ordersRest_77 : decode cX9_ordersRest 77 = .ok (.invokestatic 197, 3) := by decide +kernel
theorem dX9_ordersRest_80 : decode cX9_ordersRest 80 = .ok (.ifCond .eq 21, 3) := by decide +kernel
theorem dX9_ordersRest_83 : decode cX9_ordersRest 83 = .ok (.aload_n 0, 1) := by decide +kernel
theorem dX9_ordersRest_84 : decode cX9_ordersRest 84 = .ok (.getfield 7, 3) := by decide +kernel
theorem dX9_ordersRest_87 : decode cX9_ordersRest 87 = .ok (.iload 5, 2) := by decide +kernel
theorem dX9_ordersRest_89 : decode cX9_ordersRest 89 = .ok (.bipush 10, 2) := by decide +kernel
theorem dX9_ordersRest_91 : decode cX9_ordersRest 91 = .ok (.iadd, 1) := by decide +kernel
theorem dX9_ordersRest_92 : decode cX9_ordersRest 92 = .ok (.iaload, 1) := by decide +kernel
theorem dX9_ordersRest_93 : decode cX9_ordersRest 93 = .ok (.iload 6, 2) := by decide +kernel
theorem dX9_ordersRest_95 : decode cX9_ordersRest 95 = .ok (.invokestatic 197, 3) := by decide +kernel
theorem dX9_ordersRest_98 : decode cX9_ordersRest 98 = .ok (.ifCond .eq 9, 3) := by decide +kernel
theorem dX9_ordersRest_101 : decode cX9_ordersRest 101 = .ok (.iinc 6 1, 3) := by decide +kernel
theorem dX9_ordersRest_104 : decode cX9_ordersRest 104 = .ok (.goto (-39), 3) := by decide +kernel
theorem dX9_ordersRest_107 : decode cX9_ordersRest 107 = .ok (.iload 4, 2) := by decide +kernel
theorem dX9_ordersRest_109 : decode cX9_ordersRest 109 = .ok (.iload_n 2, 1) := by decide +kernel
theorem dX9_ordersRest_110 : decode cX9_ordersRest 110 = .ok (.if_icmp .eq 23, 3) := by decide +kernel
theorem dX9_ordersRest_113 : decode cX9_ordersRest 113 = .ok (.iload 6, 2) := by decide +kernel
theorem dX9_ordersRest_115 : decode cX9_ordersRest 115 = .ok (.aload_n 0, 1) := by decide +kernel
theorem dX9_ordersRest_116 : decode cX9_ordersRest 116 = .ok (.getfield 99, 3) := by decide +kernel
theorem dX9_ordersRest_119 : decode cX9_ordersRest 119 = .ok (.if_icmp .eq 14, 3) := by decide +kernel
theorem dX9_ordersRest_122 : decode cX9_ordersRest 122 = .ok (.aload_n 0, 1) := by decide +kernel
theorem dX9_ordersRest_123 : decode cX9_ordersRest 123 = .ok (.getfield 52, 3) := by decide +kernel
theorem dX9_ordersRest_126 : decode cX9_ordersRest 126 = .ok (.iload 4, 2) := by decide +kernel
theorem dX9_ordersRest_128 : decode cX9_ordersRest 128 = .ok (.iaload, 1) := by decide +kernel
theorem dX9_ordersRest_129 : decode cX9_ordersRest 129 = .ok (.iload_n 3, 1) := by decide +kernel
theorem dX9_ordersRest_130 : decode cX9_ordersRest 130 = .ok (.if_icmp .lt 63, 3) := by decide +kernel
theorem dX9_ordersRest_133 : decode cX9_ordersRest 133 = .ok (.iload 4, 2) := by decide +kernel
theorem dX9_ordersRest_135 : decode cX9_ordersRest 135 = .ok (.iload_n 2, 1) := by decide +kernel
theorem dX9_ordersRest_136 : decode cX9_ordersRest 136 = .ok (.if_icmp .ne 51, 3) := by decide +kernel
theorem dX9_ordersRest_139 : decode cX9_ordersRest 139 = .ok (.aload_n 0, 1) := by decide +kernel
theorem dX9_ordersRest_140 : decode cX9_ordersRest 140 = .ok (.getfield 52, 3) := by decide +kernel
theorem dX9_ordersRest_143 : decode cX9_ordersRest 143 = .ok (.iload 4, 2) := by decide +kernel
theorem dX9_ordersRest_145 : decode cX9_ordersRest 145 = .ok (.iaload, 1) := by decide +kernel
theorem dX9_ordersRest_146 : decode cX9_ordersRest 146 = .ok (.iload_n 3, 1) := by decide +kernel
theorem dX9_ordersRest_147 : decode cX9_ordersRest 147 = .ok (.if_icmp .ge 40, 3) := by decide +kernel
theorem dX9_ordersRest_150 : decode cX9_ordersRest 150 = .ok (.aload_n 0, 1) := by decide +kernel
theorem dX9_ordersRest_151 : decode cX9_ordersRest 151 = .ok (.getfield 52, 3) := by decide +kernel
theorem dX9_ordersRest_154 : decode cX9_ordersRest 154 = .ok (.iload 4, 2) := by decide +kernel
theorem dX9_ordersRest_156 : decode cX9_ordersRest 156 = .ok (.iaload, 1) := by decide +kernel
theorem dX9_ordersRest_157 : decode cX9_ordersRest 157 = .ok (.istore_n 3, 1) := by decide +kernel
theorem dX9_ordersRest_158 : decode cX9_ordersRest 158 = .ok (.iconst 0, 1) := by decide +kernel
theorem dX9_ordersRest_159 : decode cX9_ordersRest 159 = .ok (.istore 7, 2) := by decide +kernel
theorem dX9_ordersRest_161 : decode cX9_ordersRest 161 = .ok (.iload 7, 2) := by decide +kernel
theorem dX9_ordersRest_163 : decode cX9_ordersRest 163 = .ok (.iload_n 2, 1) := by decide +kernel
theorem dX9_ordersRest_164 : decode cX9_ordersRest 164 = .ok (.if_icmp .ge 23, 3) := by decide +kernel
theorem dX9_ordersRest_167 : decode cX9_ordersRest 167 = .ok (.aload_n 0, 1) := by decide +kernel
theorem dX9_ordersRest_168 : decode cX9_ordersRest 168 = .ok (.getfield 55, 3) := by decide +kernel
theorem dX9_ordersRest_171 : decode cX9_ordersRest 171 = .ok (.iload 7, 2) := by decide +kernel
theorem dX9_ordersRest_173 : decode cX9_ordersRest 173 = .ok (.aload_n 0, 1) := by decide +kernel
theorem dX9_ordersRest_174 : decode cX9_ordersRest 174 = .ok (.getfield 49, 3) := by decide +kernel
theorem dX9_ordersRest_177 : decode cX9_ordersRest 177 = .ok (.iload 7, 2) := by decide +kernel
theorem dX9_ordersRest_179 : decode cX9_ordersRest 179 = .ok (.iaload, 1) := by decide +kernel
theorem dX9_ordersRest_180 : decode cX9_ordersRest 180 = .ok (.iastore, 1) := by decide +kernel
theorem dX9_ordersRest_181 : decode cX9_ordersRest 181 = .ok (.iinc 7 1, 3) := by decide +kernel
theorem dX9_ordersRest_184 : decode cX9_ordersRest 184 = .ok (.goto (-23), 3) := by decide +kernel
theorem dX9_ordersRest_187 : decode cX9_ordersRest 187 = .ok (.iinc 4 (-1), 3) := by decide +kernel
theorem dX9_ordersRest_190 : decode cX9_ordersRest 190 = .ok (.goto 85, 3) := by decide +kernel
theorem dX9_ordersRest_193 : decode cX9_ordersRest 193 = .ok (.aload_n 0, 1) := by decide +kernel
theorem dX9_ordersRest_194 : decode cX9_ordersRest 194 = .ok (.getfield 49, 3) := by decide +kernel
theorem dX9_ordersRest_197 : decode cX9_ordersRest 197 = .ok (.iload 4, 2) := by decide +kernel
theorem dX9_ordersRest_199 : decode cX9_ordersRest 199 = .ok (.iload 6, 2) := by decide +kernel
theorem dX9_ordersRest_201 : decode cX9_ordersRest 201 = .ok (.iastore, 1) := by decide +kernel
theorem dX9_ordersRest_202 : decode cX9_ordersRest 202 = .ok (.aload_n 0, 1) := by decide +kernel
theorem dX9_ordersRest_203 : decode cX9_ordersRest 203 = .ok (.iload 5, 2) := by decide +kernel
theorem dX9_ordersRest_205 : decode cX9_ordersRest 205 = .ok (.iload 5, 2) := by decide +kernel
theorem dX9_ordersRest_207 : decode cX9_ordersRest 207 = .ok (.bipush 19, 2) := by decide +kernel
theorem dX9_ordersRest_209 : decode cX9_ordersRest 209 = .ok (.iadd, 1) := by decide +kernel
theorem dX9_ordersRest_210 : decode cX9_ordersRest 210 = .ok (.invokevirtual 193, 3) := by decide +kernel
theorem dX9_ordersRest_213 : decode cX9_ordersRest 213 = .ok (.aload_n 0, 1) := by decide +kernel
theorem dX9_ordersRest_214 : decode cX9_ordersRest 214 = .ok (.iload 5, 2) := by decide +kernel
theorem dX9_ordersRest_216 : decode cX9_ordersRest 216 = .ok (.bipush 19, 2) := by decide +kernel
theorem dX9_ordersRest_218 : decode cX9_ordersRest 218 = .ok (.iadd, 1) := by decide +kernel
theorem dX9_ordersRest_219 : decode cX9_ordersRest 219 = .ok (.aload_n 0, 1) := by decide +kernel
theorem dX9_ordersRest_220 : decode cX9_ordersRest 220 = .ok (.iload 5, 2) := by decide +kernel
theorem dX9_ordersRest_222 : decode cX9_ordersRest 222 = .ok (.bipush 19, 2) := by decide +kernel
theorem dX9_ordersRest_224 : decode cX9_ordersRest 224 = .ok (.iadd, 1) := by decide +kernel
theorem dX9_ordersRest_225 : decode cX9_ordersRest 225 = .ok (.iload 6, 2) := by decide +kernel
theorem dX9_ordersRest_227 : decode cX9_ordersRest 227 = .ok (.invokevirtual 211, 3) := by decide +kernel
theorem dX9_ordersRest_230 : decode cX9_ordersRest 230 = .ok (.iload 6, 2) := by decide +kernel
theorem dX9_ordersRest_232 : decode cX9_ordersRest 232 = .ok (.invokevirtual 203, 3) := by decide +kernel
theorem dX9_ordersRest_235 : decode cX9_ordersRest 235 = .ok (.istore 7, 2) := by decide +kernel
theorem dX9_ordersRest_237 : decode cX9_ordersRest 237 = .ok (.aload_n 0, 1) := by decide +kernel
theorem dX9_ordersRest_238 : decode cX9_ordersRest 238 = .ok (.getfield 52, 3) := by decide +kernel
theorem dX9_ordersRest_241 : decode cX9_ordersRest 241 = .ok (.iload 4, 2) := by decide +kernel
theorem dX9_ordersRest_243 : decode cX9_ordersRest 243 = .ok (.iconst 1, 1) := by decide +kernel
theorem dX9_ordersRest_244 : decode cX9_ordersRest 244 = .ok (.iadd, 1) := by decide +kernel
theorem dX9_ordersRest_245 : decode cX9_ordersRest 245 = .ok (.aload_n 0, 1) := by decide +kernel
theorem dX9_ordersRest_246 : decode cX9_ordersRest 246 = .ok (.getfield 52, 3) := by decide +kernel
theorem dX9_ordersRest_249 : decode cX9_ordersRest 249 = .ok (.iload 4, 2) := by decide +kernel
theorem dX9_ordersRest_251 : decode cX9_ordersRest 251 = .ok (.iaload, 1) := by decide +kernel
theorem dX9_ordersRest_252 : decode cX9_ordersRest 252 = .ok (.iload 7, 2) := by decide +kernel
theorem dX9_ordersRest_254 : decode cX9_ordersRest 254 = .ok (.ifCond .eq 7, 3) := by decide +kernel
theorem dX9_ordersRest_257 : decode cX9_ordersRest 257 = .ok (.iconst 1, 1) := by decide +kernel
theorem dX9_ordersRest_258 : decode cX9_ordersRest 258 = .ok (.goto 4, 3) := by decide +kernel
theorem dX9_ordersRest_261 : decode cX9_ordersRest 261 = .ok (.iconst 0, 1) := by decide +kernel
theorem dX9_ordersRest_262 : decode cX9_ordersRest 262 = .ok (.iadd, 1) := by decide +kernel
theorem dX9_ordersRest_263 : decode cX9_ordersRest 263 = .ok (.iastore, 1) := by decide +kernel
theorem dX9_ordersRest_264 : decode cX9_ordersRest 264 = .ok (.iinc 4 1, 3) := by decide +kernel
theorem dX9_ordersRest_267 : decode cX9_ordersRest 267 = .ok (.aload_n 0, 1) := by decide +kernel
theorem dX9_ordersRest_268 : decode cX9_ordersRest 268 = .ok (.getfield 49, 3) := by decide +kernel
theorem dX9_ordersRest_271 : decode cX9_ordersRest 271 = .ok (.iload 4, 2) := by decide +kernel
theorem dX9_ordersRest_273 : decode cX9_ordersRest 273 = .ok (.iconst (-1), 1) := by decide +kernel
theorem dX9_ordersRest_274 : decode cX9_ordersRest 274 = .ok (.iastore, 1) := by decide +kernel
theorem dX9_ordersRest_275 : decode cX9_ordersRest 275 = .ok (.goto (-237), 3) := by decide +kernel
theorem dX9_ordersRest_278 : decode cX9_ordersRest 278 = .ok (.iload_n 3, 1) := by decide +kernel
theorem dX9_ordersRest_279 : decode cX9_ordersRest 279 = .ok (.ireturn, 1) := by decide +kernel
theorem dX9_order_0 : decode cX9_order 0 = .ok (.iload_n 1, 1) := by decide +kernel
theorem dX9_order_1 : decode cX9_order 1 = .ok (.i2l, 1) := by decide +kernel
theorem dX9_order_2 : decode cX9_order 2 = .ok (.lconst 0, 1) := by decide +kernel
theorem dX9_order_3 : decode cX9_order 3 = .ok (.ldc2_w 221, 3) := by decide +kernel
theorem dX9_order_6 : decode cX9_order 6 = .ok (.invokestatic 92, 3) := by decide +kernel
theorem dX9_order_9 : decode cX9_order 9 = .ok (.ifCond .ne 5, 3) := by decide +kernel
theorem dX9_order_12 : decode cX9_order 12 = .ok (.iconst (-1), 1) := by decide +kernel
theorem dX9_order_13 : decode cX9_order 13 = .ok (.ireturn, 1) := by decide +kernel
theorem dX9_order_14 : decode cX9_order 14 = .ok (.aload_n 0, 1) := by decide +kernel
theorem dX9_order_15 : decode cX9_order 15 = .ok (.invokevirtual 223, 3) := by decide +kernel
theorem dX9_order_18 : decode cX9_order 18 = .ok (.istore_n 2, 1) := by decide +kernel
theorem dX9_order_19 : decode cX9_order 19 = .ok (.iload_n 1, 1) := by decide +kernel
theorem dX9_order_20 : decode cX9_order 20 = .ok (.ifCond .ne 7, 3) := by decide +kernel
theorem dX9_order_23 : decode cX9_order 23 = .ok (.iload_n 2, 1) := by decide +kernel
theorem dX9_order_24 : decode cX9_order 24 = .ok (.goto 27, 3) := by decide +kernel
theorem dX9_order_27 : decode cX9_order 27 = .ok (.iload_n 1, 1) := by decide +kernel
theorem dX9_order_28 : decode cX9_order 28 = .ok (.aload_n 0, 1) := by decide +kernel
theorem dX9_order_29 : decode cX9_order 29 = .ok (.invokevirtual 214, 3) := by decide +kernel
theorem dX9_order_32 : decode cX9_order 32 = .ok (.invokestatic 217, 3) := by decide +kernel
theorem dX9_order_35 : decode cX9_order 35 = .ok (.if_icmp .gt 14, 3) := by decide +kernel
theorem dX9_order_38 : decode cX9_order 38 = .ok (.aload_n 0, 1) := by decide +kernel
theorem dX9_order_39 : decode cX9_order 39 = .ok (.getfield 55, 3) := by decide +kernel
theorem dX9_order_42 : decode cX9_order 42 = .ok (.iload_n 1, 1) := by decide +kernel
theorem dX9_order_43 : decode cX9_order 43 = .ok (.iconst 1, 1) := by decide +kernel
theorem dX9_order_44 : decode cX9_order 44 = .ok (.isub, 1) := by decide +kernel
theorem dX9_order_45 : decode cX9_order 45 = .ok (.iaload, 1) := by decide +kernel
theorem dX9_order_46 : decode cX9_order 46 = .ok (.goto 5, 3) := by decide +kernel
theorem dX9_order_49 : decode cX9_order 49 = .ok (.bipush (-4), 2) := by decide +kernel
theorem dX9_order_51 : decode cX9_order 51 = .ok (.ireturn, 1) := by decide +kernel
theorem dX9_waiting_0 : decode cX9_waiting 0 = .ok (.aload_n 0, 1) := by decide +kernel
theorem dX9_waiting_1 : decode cX9_waiting 1 = .ok (.iload_n 1, 1) := by decide +kernel
theorem dX9_waiting_2 : decode cX9_waiting 2 = .ok (.invokevirtual 166, 3) := by decide +kernel
theorem dX9_waiting_5 : decode cX9_waiting 5 = .ok (.ifCond .eq 13, 3) := by decide +kernel
theorem dX9_waiting_8 : decode cX9_waiting 8 = .ok (.iload_n 2, 1) := by decide +kernel
theorem dX9_waiting_9 : decode cX9_waiting 9 = .ok (.i2l, 1) := by decide +kernel
theorem dX9_waiting_10 : decode cX9_waiting 10 = .ok (.lconst 0, 1) := by decide +kernel
theorem dX9_waiting_11 : decode cX9_waiting 11 = .ok (.lconst 1, 1) := by decide +kernel
theorem dX9_waiting_12 : decode cX9_waiting 12 = .ok (.invokestatic 92, 3) := by decide +kernel
theorem dX9_waiting_15 : decode cX9_waiting 15 = .ok (.ifCond .ne 5, 3) := by decide +kernel
theorem dX9_waiting_18 : decode cX9_waiting 18 = .ok (.iconst (-1), 1) := by decide +kernel
theorem dX9_waiting_19 : decode cX9_waiting 19 = .ok (.ireturn, 1) := by decide +kernel
theorem dX9_waiting_20 : decode cX9_waiting 20 = .ok (.iconst 0, 1) := by decide +kernel
theorem dX9_waiting_21 : decode cX9_waiting 21 = .ok (.istore_n 3, 1) := by decide +kernel
theorem dX9_waiting_22 : decode cX9_waiting 22 = .ok (.ldc 220, 2) := by decide +kernel
theorem dX9_waiting_24 : decode cX9_waiting 24 = .ok (.istore 4, 2) := by decide +kernel
theorem dX9_waiting_26 : decode cX9_waiting 26 = .ok (.iconst 0, 1) := by decide +kernel
theorem dX9_waiting_27 : decode cX9_waiting 27 = .ok (.istore 5, 2) := by decide +kernel
theorem dX9_waiting_29 : decode cX9_waiting 29 = .ok (.iload 5, 2) := by decide +kernel
theorem dX9_waiting_31 : decode cX9_waiting 31 = .ok (.aload_n 0, 1) := by decide +kernel
theorem dX9_waiting_32 : decode cX9_waiting 32 = .ok (.invokevirtual 88, 3) := by decide +kernel
theorem dX9_waiting_35 : decode cX9_waiting 35 = .ok (.if_icmp .ge 103, 3) := by decide +kernel
theorem dX9_waiting_38 : decode cX9_waiting 38 = .ok (.aload_n 0, 1) := by decide +kernel
theorem dX9_waiting_39 : decode cX9_waiting 39 = .ok (.invokevirtual 226, 3) := by decide +kernel
theorem dX9_waiting_42 : decode cX9_waiting 42 = .ok (.aload_n 0, 1) := by decide +kernel
theorem dX9_waiting_43 : decode cX9_waiting 43 = .ok (.bipush 19, 2) := by decide +kernel
theorem dX9_waiting_45 : decode cX9_waiting 45 = .ok (.iload_n 1, 1) := by decide +kernel
theorem dX9_waiting_46 : decode cX9_waiting 46 = .ok (.iload 5, 2) := by decide +kernel
theorem dX9_waiting_48 : decode cX9_waiting 48 = .ok (.invokevirtual 206, 3) := by decide +kernel
theorem dX9_waiting_51 : decode cX9_waiting 51 = .ok (.iconst 0, 1) := by decide +kernel
theorem dX9_waiting_52 : decode cX9_waiting 52 = .ok (.istore 6, 2) := by decide +kernel
theorem dX9_waiting_54 : decode cX9_waiting 54 = .ok (.iconst 0, 1) := by decide +kernel
theorem dX9_waiting_55 : decode cX9_waiting 55 = .ok (.istore 7, 2) := by decide +kernel
theorem dX9_waiting_57 : decode cX9_waiting 57 = .ok (.iload 7, 2) := by decide +kernel
theorem dX9_waiting_59 : decode cX9_waiting 59 = .ok (.aload_n 0, 1) := by decide +kernel
theorem dX9_waiting_60 : decode cX9_waiting 60 = .ok (.getfield 99, 3) := by decide +kernel
theorem dX9_waiting_63 : decode cX9_waiting 63 = .ok (.if_icmp .ge 39, 3) := by decide +kernel
theorem dX9_waiting_66 : decode cX9_waiting 66 = .ok (.iload 6, 2) := by decide +kernel
theorem dX9_waiting_68 : decode cX9_waiting 68 = .ok (.aload_n 0, 1) := by decide +kernel
theorem dX9_waiting_69 : decode cX9_waiting 69 = .ok (.invokevirtual 214, 3) := by decide +kernel
theorem dX9_waiting_72 : decode cX9_waiting 72 = .ok (.iload 7, 2) := by decide +kernel
theorem dX9_waiting_74 : decode cX9_waiting 74 = .ok (.invokestatic 197, 3) := by decide +kernel
theorem dX9_waiting_77 : decode cX9_waiting 77 = .ok (.ifCond .eq 15, 3) := by decide +kernel
theorem dX9_waiting_80 : decode cX9_waiting 80 = .ok (.aload_n 0, 1) := by decide +kernel
theorem dX9_waiting_81 : decode cX9_waiting 81 = .ok (.bipush 19, 2) := by decide +kernel
theorem dX9_waiting_83 : decode cX9_waiting 83 = .ok (.iload_n 1, 1) := by decide +kernel
theorem dX9_waiting_84 : decode cX9_waiting 84 = .ok (.iload 7, 2) := by decide +kernel
theorem dX9_waiting_86 : decode cX9_waiting 86 = .ok (.invokevirtual 182, 3) := by decide +kernel
theorem dX9_waiting_89 : decode cX9_waiting 89 = .ok (.goto 4, 3) := by decide +kernel
theorem dX9_waiting_92 : decode cX9_waiting 92 = .ok (.iconst 0, 1) := by decide +kernel
theorem dX9_waiting_93 : decode cX9_waiting 93 = .ok (.iadd, 1) := by decide +kernel
theorem dX9_waiting_94 : decode cX9_waiting 94 = .ok (.istore 6, 2) := by decide +kernel
theorem dX9_waiting_96 : decode cX9_waiting 96 = .ok (.iinc 7 1, 3) := by decide +kernel
theorem dX9_waiting_99 : decode cX9_waiting 99 = .ok (.goto (-42), 3) := by decide +kernel
theorem dX9_waiting_102 : decode cX9_waiting 102 = .ok (.iload 6, 2) := by decide +kernel
theorem dX9_waiting_104 : decode cX9_waiting 104 = .ok (.iload 4, 2) := by decide +kernel
theorem dX9_waiting_106 : decode cX9_waiting 106 = .ok (.if_icmp .ge 8, 3) := by decide +kernel
theorem dX9_waiting_109 : decode cX9_waiting 109 = .ok (.iload 5, 2) := by decide +kernel
theorem dX9_waiting_111 : decode cX9_waiting 111 = .ok (.goto 4, 3) := by decide +kernel
theorem dX9_waiting_114 : decode cX9_waiting 114 = .ok (.iload_n 3, 1) := by decide +kernel
theorem dX9_waiting_115 : decode cX9_waiting 115 = .ok (.istore_n 3, 1) := by decide +kernel
theorem dX9_waiting_116 : decode cX9_waiting 116 = .ok (.iload 6, 2) := by decide +kernel
theorem dX9_waiting_118 : decode cX9_waiting 118 = .ok (.iload 4, 2) := by decide +kernel
theorem dX9_waiting_120 : decode cX9_waiting 120 = .ok (.if_icmp .ge 8, 3) := by decide +kernel
theorem dX9_waiting_123 : decode cX9_waiting 123 = .ok (.iload 6, 2) := by decide +kernel
theorem dX9_waiting_125 : decode cX9_waiting 125 = .ok (.goto 5, 3) := by decide +kernel
theorem dX9_waiting_128 : decode cX9_waiting 128 = .ok (.iload 4, 2) := by decide +kernel
theorem dX9_waiting_130 : decode cX9_waiting 130 = .ok (.istore 4, 2) := by decide +kernel
theorem dX9_waiting_132 : decode cX9_waiting 132 = .ok (.iinc 5 1, 3) := by decide +kernel
theorem dX9_waiting_135 : decode cX9_waiting 135 = .ok (.goto (-106), 3) := by decide +kernel
theorem dX9_waiting_138 : decode cX9_waiting 138 = .ok (.iload_n 2, 1) := by decide +kernel
theorem dX9_waiting_139 : decode cX9_waiting 139 = .ok (.ifCond .ne 7, 3) := by decide +kernel
theorem dX9_waiting_142 : decode cX9_waiting 142 = .ok (.iload_n 3, 1) := by decide +kernel
theorem dX9_waiting_143 : decode cX9_waiting 143 = .ok (.goto 5, 3) := by decide +kernel
theorem dX9_waiting_146 : decode cX9_waiting 146 = .ok (.iload 4, 2) := by decide +kernel
theorem dX9_waiting_148 : decode cX9_waiting 148 = .ok (.ireturn, 1) := by decide +kernel
theorem dX9_laysDay_0 : decode cX9_laysDay 0 = .ok (.iconst 0, 1) := by decide +kernel
theorem dX9_laysDay_1 : decode cX9_laysDay 1 = .ok (.istore_n 2, 1) := by decide +kernel
theorem dX9_laysDay_2 : decode cX9_laysDay 2 = .ok (.iload_n 2, 1) := by decide +kernel
theorem dX9_laysDay_3 : decode cX9_laysDay 3 = .ok (.iconst 3, 1) := by decide +kernel
theorem dX9_laysDay_4 : decode cX9_laysDay 4 = .ok (.if_icmp .ge 75, 3) := by decide +kernel
theorem dX9_laysDay_7 : decode cX9_laysDay 7 = .ok (.aload_n 0, 1) := by decide +kernel
theorem dX9_laysDay_8 : decode cX9_laysDay 8 = .ok (.getfield 58, 3) := by decide +kernel
theorem dX9_laysDay_11 : decode cX9_laysDay 11 = .ok (.bipush 6, 2) := by decide +kernel
theorem dX9_laysDay_13 : decode cX9_laysDay 13 = .ok (.iload_n 1, 1) := by decide +kernel
theorem dX9_laysDay_14 : decode cX9_laysDay 14 = .ok (.imul, 1) := by decide +kernel
theorem dX9_laysDay_15 : decode cX9_laysDay 15 = .ok (.iload_n 2, 1) := by decide +kernel
theorem dX9_laysDay_16 : decode cX9_laysDay 16 = .ok (.iadd, 1) := by decide +kernel
theorem dX9_laysDay_17 : decode cX9_laysDay 17 = .ok (.iload_n 2, 1) := by decide +kernel
theorem dX9_laysDay_18 : decode cX9_laysDay 18 = .ok (.aload_n 0, 1) := by decide +kernel
theorem dX9_laysDay_19 : decode cX9_laysDay 19 = .ok (.getfield 96, 3) := by decide +kernel
theorem dX9_laysDay_22 : decode cX9_laysDay 22 = .ok (.if_icmp .ge 15, 3) := by decide +kernel
theorem dX9_laysDay_25 : decode cX9_laysDay 25 = .ok (.aload_n 0, 1) := by decide +kernel
theorem dX9_laysDay_26 : decode cX9_laysDay 26 = .ok (.getfield 7, 3) := by decide +kernel
theorem dX9_laysDay_29 : decode cX9_laysDay 29 = .ok (.bipush 20, 2) := by decide +kernel
theorem dX9_laysDay_31 : decode cX9_laysDay 31 = .ok (.iload_n 2, 1) := by decide +kernel
theorem dX9_laysDay_32 : decode cX9_laysDay 32 = .ok (.iadd, 1) := by decide +kernel
theorem dX9_laysDay_33 : decode cX9_laysDay 33 = .ok (.iaload, 1) := by decide +kernel
theorem dX9_laysDay_34 : decode cX9_laysDay 34 = .ok (.goto 4, 3) := by decide +kernel
theorem dX9_laysDay_37 : decode cX9_laysDay 37 = .ok (.iconst 0, 1) := by decide +kernel
theorem dX9_laysDay_38 : decode cX9_laysDay 38 = .ok (.iastore, 1) := by decide +kernel
theorem dX9_laysDay_39 : decode cX9_laysDay 39 = .ok (.aload_n 0, 1) := by decide +kernel
theorem dX9_laysDay_40 : decode cX9_laysDay 40 = .ok (.getfield 58, 3) := by decide +kernel
theorem dX9_laysDay_43 : decode cX9_laysDay 43 = .ok (.bipush 6, 2) := by decide +kernel
theorem dX9_laysDay_45 : decode cX9_laysDay 45 = .ok (.iload_n 1, 1) := by decide +kernel
theorem dX9_laysDay_46 : decode cX9_laysDay 46 = .ok (.imul, 1) := by decide +kernel
theorem dX9_laysDay_47 : decode cX9_laysDay 47 = .ok (.iconst 3, 1) := by decide +kernel
theorem dX9_laysDay_48 : decode cX9_laysDay 48 = .ok (.iadd, 1) := by decide +kernel
theorem dX9_laysDay_49 : decode cX9_laysDay 49 = .ok (.iload_n 2, 1) := by decide +kernel
theorem dX9_laysDay_50 : decode cX9_laysDay 50 = .ok (.iadd, 1) := by decide +kernel
theorem dX9_laysDay_51 : decode cX9_laysDay 51 = .ok (.iload_n 2, 1) := by decide +kernel
theorem dX9_laysDay_52 : decode cX9_laysDay 52 = .ok (.aload_n 0, 1) := by decide +kernel
theorem dX9_laysDay_53 : decode cX9_laysDay 53 = .ok (.getfield 96, 3) := by decide +kernel
theorem dX9_laysDay_56 : decode cX9_laysDay 56 = .ok (.if_icmp .ge 15, 3) := by decide +kernel
theorem dX9_laysDay_59 : decode cX9_laysDay 59 = .ok (.aload_n 0, 1) := by decide +kernel
theorem dX9_laysDay_60 : decode cX9_laysDay 60 = .ok (.getfield 7, 3) := by decide +kernel
theorem dX9_laysDay_63 : decode cX9_laysDay 63 = .ok (.bipush 26, 2) := by decide +kernel
theorem dX9_laysDay_65 : decode cX9_laysDay 65 = .ok (.iload_n 2, 1) := by decide +kernel
theorem dX9_laysDay_66 : decode cX9_laysDay 66 = .ok (.iadd, 1) := by decide +kernel
theorem dX9_laysDay_67 : decode cX9_laysDay 67 = .ok (.iaload, 1) := by decide +kernel
theorem dX9_laysDay_68 : decode cX9_laysDay 68 = .ok (.goto 4, 3) := by decide +kernel
theorem dX9_laysDay_71 : decode cX9_laysDay 71 = .ok (.iconst 0, 1) := by decide +kernel
theorem dX9_laysDay_72 : decode cX9_laysDay 72 = .ok (.iastore, 1) := by decide +kernel
theorem dX9_laysDay_73 : decode cX9_laysDay 73 = .ok (.iinc 2 1, 3) := by decide +kernel
theorem dX9_laysDay_76 : decode cX9_laysDay 76 = .ok (.goto (-74), 3) := by decide +kernel
theorem dX9_laysDay_79 : decode cX9_laysDay 79 = .ok (.return_, 1) := by decide +kernel
theorem dX9_areLike_0 : decode cX9_areLike 0 = .ok (.iconst 1, 1) := by decide +kernel
theorem dX9_areLike_1 : decode cX9_areLike 1 = .ok (.istore_n 3, 1) := by decide +kernel
theorem dX9_areLike_2 : decode cX9_areLike 2 = .ok (.iconst 0, 1) := by decide +kernel
theorem dX9_areLike_3 : decode cX9_areLike 3 = .ok (.istore 4, 2) := by decide +kernel
theorem dX9_areLike_5 : decode cX9_areLike 5 = .ok (.iload 4, 2) := by decide +kernel
theorem dX9_areLike_7 : decode cX9_areLike 7 = .ok (.bipush 6, 2) := by decide +kernel
theorem dX9_areLike_9 : decode cX9_areLike 9 = .ok (.if_icmp .ge 46, 3) := by decide +kernel
theorem dX9_areLike_12 : decode cX9_areLike 12 = .ok (.iload_n 3, 1) := by decide +kernel
theorem dX9_areLike_13 : decode cX9_areLike 13 = .ok (.ifCond .eq 34, 3) := by decide +kernel
theorem dX9_areLike_16 : decode cX9_areLike 16 = .ok (.aload_n 0, 1) := by decide +kernel
theorem dX9_areLike_17 : decode cX9_areLike 17 = .ok (.getfield 58, 3) := by decide +kernel
theorem dX9_areLike_20 : decode cX9_areLike 20 = .ok (.bipush 6, 2) := by decide +kernel
theorem dX9_areLike_22 : decode cX9_areLike 22 = .ok (.iload_n 1, 1) := by decide +kernel
theorem dX9_areLike_23 : decode cX9_areLike 23 = .ok (.imul, 1) := by decide +kernel
theorem dX9_areLike_24 : decode cX9_areLike 24 = .ok (.iload 4, 2) := by decide +kernel
theorem dX9_areLike_26 : decode cX9_areLike 26 = .ok (.iadd, 1) := by decide +kernel
theorem dX9_areLike_27 : decode cX9_areLike 27 = .ok (.iaload, 1) := by decide +kernel
theorem dX9_areLike_28 : decode cX9_areLike 28 = .ok (.aload_n 0, 1) := by decide +kernel
theorem dX9_areLike_29 : decode cX9_areLike 29 = .ok (.getfield 58, 3) := by decide +kernel
theorem dX9_areLike_32 : decode cX9_areLike 32 = .ok (.bipush 6, 2) := by decide +kernel
theorem dX9_areLike_34 : decode cX9_areLike 34 = .ok (.iload_n 2, 1) := by decide +kernel
theorem dX9_areLike_35 : decode cX9_areLike 35 = .ok (.imul, 1) := by decide +kernel
theorem dX9_areLike_36 : decode cX9_areLike 36 = .ok (.iload 4, 2) := by decide +kernel
theorem dX9_areLike_38 : decode cX9_areLike 38 = .ok (.iadd, 1) := by decide +kernel
theorem dX9_areLike_39 : decode cX9_areLike 39 = .ok (.iaload, 1) := by decide +kernel
theorem dX9_areLike_40 : decode cX9_areLike 40 = .ok (.if_icmp .ne 7, 3) := by decide +kernel
theorem dX9_areLike_43 : decode cX9_areLike 43 = .ok (.iconst 1, 1) := by decide +kernel
theorem dX9_areLike_44 : decode cX9_areLike 44 = .ok (.goto 4, 3) := by decide +kernel
theorem dX9_areLike_47 : decode cX9_areLike 47 = .ok (.iconst 0, 1) := by decide +kernel
theorem dX9_areLike_48 : decode cX9_areLike 48 = .ok (.istore_n 3, 1) := by decide +kernel
theorem dX9_areLike_49 : decode cX9_areLike 49 = .ok (.iinc 4 1, 3) := by decide +kernel
theorem dX9_areLike_52 : decode cX9_areLike 52 = .ok (.goto (-47), 3) := by decide +kernel
theorem dX9_areLike_55 : decode cX9_areLike 55 = .ok (.iload_n 3, 1) := by decide +kernel
theorem dX9_areLike_56 : decode cX9_areLike 56 = .ok (.ireturn, 1) := by decide +kernel
theorem dX9_round_0 : decode cX9_round 0 = .ok (.iload_n 1, 1) := by decide +kernel
theorem dX9_round_1 : decode cX9_round 1 = .ok (.i2l, 1) := by decide +kernel
theorem dX9_round_2 : decode cX9_round 2 = .ok (.lconst 0, 1) := by decide +kernel
theorem dX9_round_3 : decode cX9_round 3 = .ok (.lconst 1, 1) := by decide +kernel
theorem dX9_round_4 : decode cX9_round 4 = .ok (.invokestatic 92, 3) := by decide +kernel
theorem dX9_round_7 : decode cX9_round 7 = .ok (.ifCond .ne 5, 3) := by decide +kernel
theorem dX9_round_10 : decode cX9_round 10 = .ok (.iconst (-1), 1) := by decide +kernel
theorem dX9_round_11 : decode cX9_round 11 = .ok (.ireturn, 1) := by decide +kernel
theorem dX9_round_12 : decode cX9_round 12 = .ok (.aload_n 0, 1) := by decide +kernel
theorem dX9_round_13 : decode cX9_round 13 = .ok (.invokevirtual 226, 3) := by decide +kernel
theorem dX9_round_16 : decode cX9_round 16 = .ok (.aload_n 0, 1) := by decide +kernel
theorem dX9_round_17 : decode cX9_round 17 = .ok (.iconst 0, 1) := by decide +kernel
theorem dX9_round_18 : decode cX9_round 18 = .ok (.invokevirtual 229, 3) := by decide +kernel
theorem dX9_round_21 : decode cX9_round 21 = .ok (.iconst 1, 1) := by decide +kernel
theorem dX9_round_22 : decode cX9_round 22 = .ok (.istore_n 2, 1) := by decide +kernel
theorem dX9_round_23 : decode cX9_round 23 = .ok (.iload_n 2, 1) := by decide +kernel
theorem dX9_round_24 : decode cX9_round 24 = .ok (.bipush 40, 2) := by decide +kernel
theorem dX9_round_26 : decode cX9_round 26 = .ok (.if_icmp .gt 111, 3) := by decide +kernel
theorem dX9_round_29 : decode cX9_round 29 = .ok (.aload_n 0, 1) := by decide +kernel
theorem dX9_round_30 : decode cX9_round 30 = .ok (.getfield 7, 3) := by decide +kernel
theorem dX9_round_33 : decode cX9_round 33 = .ok (.bipush 19, 2) := by decide +kernel
theorem dX9_round_35 : decode cX9_round 35 = .ok (.iconst 0, 1) := by decide +kernel
theorem dX9_round_36 : decode cX9_round 36 = .ok (.iastore, 1) := by decide +kernel
theorem dX9_round_37 : decode cX9_round 37 = .ok (.iconst 0, 1) := by decide +kernel
theorem dX9_round_38 : decode cX9_round 38 = .ok (.istore_n 3, 1) := by decide +kernel
theorem dX9_round_39 : decode cX9_round 39 = .ok (.iload_n 3, 1) := by decide +kernel
theorem dX9_round_40 : decode cX9_round 40 = .ok (.aload_n 0, 1) := by decide +kernel
theorem dX9_round_41 : decode cX9_round 41 = .ok (.getfield 96, 3) := by decide +kernel
theorem dX9_round_44 : decode cX9_round 44 = .ok (.if_icmp .ge 19, 3) := by decide +kernel
theorem dX9_round_47 : decode cX9_round 47 = .ok (.aload_n 0, 1) := by decide +kernel
theorem dX9_round_48 : decode cX9_round 48 = .ok (.getfield 7, 3) := by decide +kernel
theorem dX9_round_51 : decode cX9_round 51 = .ok (.bipush 23, 2) := by decide +kernel
theorem dX9_round_53 : decode cX9_round 53 = .ok (.iload_n 3, 1) := by decide +kernel
theorem dX9_round_54 : decode cX9_round 54 = .ok (.iadd, 1) := by decide +kernel
theorem dX9_round_55 : decode cX9_round 55 = .ok (.iconst 0, 1) := by decide +kernel
theorem dX9_round_56 : decode cX9_round 56 = .ok (.iastore, 1) := by decide +kernel
theorem dX9_round_57 : decode cX9_round 57 = .ok (.iinc 3 1, 3) := by decide +kernel
theorem dX9_round_60 : decode cX9_round 60 = .ok (.goto (-21), 3) := by decide +kernel
theorem dX9_round_63 : decode cX9_round 63 = .ok (.iconst 0, 1) := by decide +kernel
theorem dX9_round_64 : decode cX9_round 64 = .ok (.istore_n 3, 1) := by decide +kernel
theorem dX9_round_65 : decode cX9_round 65 = .ok (.iload_n 3, 1) := by decide +kernel
theorem dX9_round_66 : decode cX9_round 66 = .ok (.aload_n 0, 1) := by decide +kernel
theorem dX9_round_67 : decode cX9_round 67 = .ok (.getfield 99, 3) := by decide +kernel
theorem dX9_round_70 : decode cX9_round 70 = .ok (.if_icmp .ge 24, 3) := by decide +kernel
theorem dX9_round_73 : decode cX9_round 73 = .ok (.aload_n 0, 1) := by decide +kernel
theorem dX9_round_74 : decode cX9_round 74 = .ok (.bipush 19, 2) := by decide +kernel
theorem dX9_round_76 : decode cX9_round 76 = .ok (.aload_n 0, 1) := by decide +kernel
theorem dX9_round_77 : decode cX9_round 77 = .ok (.bipush 19, 2) := by decide +kernel
theorem dX9_round_79 : decode cX9_round 79 = .ok (.iload_n 3, 1) := by decide +kernel
theorem dX9_round_80 : decode cX9_round 80 = .ok (.invokevirtual 211, 3) := by decide +kernel
theorem dX9_round_83 : decode cX9_round 83 = .ok (.iload_n 3, 1) := by decide +kernel
theorem dX9_round_84 : decode cX9_round 84 = .ok (.invokevirtual 203, 3) := by decide +kernel
theorem dX9_round_87 : decode cX9_round 87 = .ok (.pop, 1) := by decide +kernel
theorem dX9_round_88 : decode cX9_round 88 = .ok (.iinc 3 1, 3) := by decide +kernel
theorem dX9_round_91 : decode cX9_round 91 = .ok (.goto (-26), 3) := by decide +kernel
theorem dX9_round_94 : decode cX9_round 94 = .ok (.aload_n 0, 1) := by decide +kernel
theorem dX9_round_95 : decode cX9_round 95 = .ok (.iload_n 2, 1) := by decide +kernel
theorem dX9_round_96 : decode cX9_round 96 = .ok (.invokevirtual 229, 3) := by decide +kernel
theorem dX9_round_99 : decode cX9_round 99 = .ok (.iconst 0, 1) := by decide +kernel
theorem dX9_round_100 : decode cX9_round 100 = .ok (.istore_n 3, 1) := by decide +kernel
theorem dX9_round_101 : decode cX9_round 101 = .ok (.iload_n 3, 1) := by decide +kernel
theorem dX9_round_102 : decode cX9_round 102 = .ok (.iload_n 2, 1) := by decide +kernel
theorem dX9_round_103 : decode cX9_round 103 = .ok (.if_icmp .ge 28, 3) := by decide +kernel
theorem dX9_round_106 : decode cX9_round 106 = .ok (.aload_n 0, 1) := by decide +kernel
theorem dX9_round_107 : decode cX9_round 107 = .ok (.iload_n 3, 1) := by decide +kernel
theorem dX9_round_108 : decode cX9_round 108 = .ok (.iload_n 2, 1) := by decide +kernel
theorem dX9_round_109 : decode cX9_round 109 = .ok (.invokevirtual 233, 3) := by decide +kernel
theorem dX9_round_112 : decode cX9_round 112 = .ok (.ifCond .eq 13, 3) := by decide +kernel
theorem dX9_round_115 : decode cX9_round 115 = .ok (.iload_n 1, 1) := by decide +kernel
theorem dX9_round_116 : decode cX9_round 116 = .ok (.ifCond .ne 7, 3) := by decide +kernel
theorem dX9_round_119 : decode cX9_round 119 = .ok (.iload_n 2, 1) := by decide +kernel
theorem dX9_round_120 : decode cX9_round 120 = .ok (.goto 4, 3) := by decide +kernel
theorem dX9_round_123 : decode cX9_round 123 = .ok (.iload_n 3, 1) := by decide +kernel
theorem dX9_round_124 : decode cX9_round 124 = .ok (.ireturn, 1) := by decide +kernel
theorem dX9_round_125 : decode cX9_round 125 = .ok (.iinc 3 1, 3) := by decide +kernel
theorem dX9_round_128 : decode cX9_round 128 = .ok (.goto (-27), 3) := by decide +kernel
theorem dX9_round_131 : decode cX9_round 131 = .ok (.iinc 2 1, 3) := by decide +kernel
theorem dX9_round_134 : decode cX9_round 134 = .ok (.goto (-111), 3) := by decide +kernel
theorem dX9_round_137 : decode cX9_round 137 = .ok (.bipush (-4), 2) := by decide +kernel
theorem dX9_round_139 : decode cX9_round 139 = .ok (.ireturn, 1) := by decide +kernel
theorem dX9_weepBy_0 : decode cX9_weepBy 0 = .ok (.aload_n 0, 1) := by decide +kernel
theorem dX9_weepBy_1 : decode cX9_weepBy 1 = .ok (.invokevirtual 226, 3) := by decide +kernel
theorem dX9_weepBy_4 : decode cX9_weepBy 4 = .ok (.iconst 0, 1) := by decide +kernel
theorem dX9_weepBy_5 : decode cX9_weepBy 5 = .ok (.istore 4, 2) := by decide +kernel
theorem dX9_weepBy_7 : decode cX9_weepBy 7 = .ok (.iload_n 3, 1) := by decide +kernel
theorem dX9_weepBy_8 : decode cX9_weepBy 8 = .ok (.ifCond .eq 30, 3) := by decide +kernel
theorem dX9_weepBy_11 : decode cX9_weepBy 11 = .ok (.iload 4, 2) := by decide +kernel
theorem dX9_weepBy_13 : decode cX9_weepBy 13 = .ok (.aload_n 0, 1) := by decide +kernel
theorem dX9_weepBy_14 : decode cX9_weepBy 14 = .ok (.bipush 19, 2) := by decide +kernel
theorem dX9_weepBy_16 : decode cX9_weepBy 16 = .ok (.aload_n 0, 1) := by decide +kernel
theorem dX9_weepBy_17 : decode cX9_weepBy 17 = .ok (.bipush 19, 2) := by decide +kernel
theorem dX9_weepBy_19 : decode cX9_weepBy 19 = .ok (.iload_n 2, 1) := by decide +kernel
theorem dX9_weepBy_20 : decode cX9_weepBy 20 = .ok (.invokevirtual 211, 3) := by decide +kernel
theorem dX9_weepBy_23 : decode cX9_weepBy 23 = .ok (.iload_n 2, 1) := by decide +kernel
theorem dX9_weepBy_24 : decode cX9_weepBy 24 = .ok (.invokevirtual 203, 3) := by decide +kernel
theorem dX9_weepBy_27 : decode cX9_weepBy 27 = .ok (.ifCond .eq 7, 3) := by decide +kernel
theorem dX9_weepBy_30 : decode cX9_weepBy 30 = .ok (.iconst 1, 1) := by decide +kernel
theorem dX9_weepBy_31 : decode cX9_weepBy 31 = .ok (.goto 4, 3) := by decide +kernel
theorem dX9_weepBy_34 : decode cX9_weepBy 34 = .ok (.iconst 0, 1) := by decide +kernel
theorem dX9_weepBy_35 : decode cX9_weepBy 35 = .ok (.iadd, 1) := by decide +kernel
theorem dX9_weepBy_36 : decode cX9_weepBy 36 = .ok (.istore 4, 2) := by decide +kernel
theorem dX9_weepBy_38 : decode cX9_weepBy 38 = .ok (.iconst 0, 1) := by decide +kernel
theorem dX9_weepBy_39 : decode cX9_weepBy 39 = .ok (.istore 5, 2) := by decide +kernel
theorem dX9_weepBy_41 : decode cX9_weepBy 41 = .ok (.iload 5, 2) := by decide +kernel
theorem dX9_weepBy_43 : decode cX9_weepBy 43 = .ok (.aload_n 0, 1) := by decide +kernel
theorem dX9_weepBy_44 : decode cX9_weepBy 44 = .ok (.getfield 99, 3) := by decide +kernel
theorem dX9_weepBy_47 : decode cX9_weepBy 47 = .ok (.if_icmp .ge 53, 3) := by decide +kernel
theorem dX9_weepBy_50 : decode cX9_weepBy 50 = .ok (.iload_n 1, 1) := by decide +kernel
theorem dX9_weepBy_51 : decode cX9_weepBy 51 = .ok (.iload 5, 2) := by decide +kernel
theorem dX9_weepBy_53 : decode cX9_weepBy 53 = .ok (.invokestatic 197, 3) := by decide +kernel
theorem dX9_weepBy_56 : decode cX9_weepBy 56 = .ok (.ifCond .eq 38, 3) := by decide +kernel
theorem dX9_weepBy_59 : decode cX9_weepBy 59 = .ok (.iload 5, 2) := by decide +kernel
theorem dX9_weepBy_61 : decode cX9_weepBy 61 = .ok (.iload_n 2, 1) := by decide +kernel
theorem dX9_weepBy_62 : decode cX9_weepBy 62 = .ok (.if_icmp .eq 32, 3) := by decide +kernel
theorem dX9_weepBy_65 : decode cX9_weepBy 65 = .ok (.iload 4, 2) := by decide +kernel
theorem dX9_weepBy_67 : decode cX9_weepBy 67 = .ok (.aload_n 0, 1) := by decide +kernel
theorem dX9_weepBy_68 : decode cX9_weepBy 68 = .ok (.bipush 19, 2) := by decide +kernel
theorem dX9_weepBy_70 : decode cX9_weepBy 70 = .ok (.aload_n 0, 1) := by decide +kernel
theorem dX9_weepBy_71 : decode cX9_weepBy 71 = .ok (.bipush 19, 2) := by decide +kernel
theorem dX9_weepBy_73 : decode cX9_weepBy 73 = .ok (.iload 5, 2) := by decide +kernel
theorem dX9_weepBy_75 : decode cX9_weepBy 75 = .ok (.invokevirtual 211, 3) := by decide +kernel
theorem dX9_weepBy_78 : decode cX9_weepBy 78 = .ok (.iload 5, 2) := by decide +kernel
theorem dX9_weepBy_80 : decode cX9_weepBy 80 = .ok (.invokevirtual 203, 3) := by decide +kernel
theorem dX9_weepBy_83 : decode cX9_weepBy 83 = .ok (.ifCond .eq 7, 3) := by decide +kernel
theorem dX9_weepBy_86 : decode cX9_weepBy 86 = .ok (.iconst 1, 1) := by decide +kernel
theorem dX9_weepBy_87 : decode cX9_weepBy 87 = .ok (.goto 4, 3) := by decide +kernel
theorem dX9_weepBy_90 : decode cX9_weepBy 90 = .ok (.iconst 0, 1) := by decide +kernel
theorem dX9_weepBy_91 : decode cX9_weepBy 91 = .ok (.iadd, 1) := by decide +kernel
theorem dX9_weepBy_92 : decode cX9_weepBy 92 = .ok (.istore 4, 2) := by decide +kernel
theorem dX9_weepBy_94 : decode cX9_weepBy 94 = .ok (.iinc 5 1, 3) := by decide +kernel
theorem dX9_weepBy_97 : decode cX9_weepBy 97 = .ok (.goto (-56), 3) := by decide +kernel
theorem dX9_weepBy_100 : decode cX9_weepBy 100 = .ok (.iload_n 3, 1) := by decide +kernel
theorem dX9_weepBy_101 : decode cX9_weepBy 101 = .ok (.ifCond .ne 30, 3) := by decide +kernel
theorem dX9_weepBy_104 : decode cX9_weepBy 104 = .ok (.iload 4, 2) := by decide +kernel
theorem dX9_weepBy_106 : decode cX9_weepBy 106 = .ok (.aload_n 0, 1) := by decide +kernel
theorem dX9_weepBy_107 : decode cX9_weepBy 107 = .ok (.bipush 19, 2) := by decide +kernel
theorem dX9_weepBy_109 : decode cX9_weepBy 109 = .ok (.aload_n 0, 1) := by decide +kernel
theorem dX9_weepBy_110 : decode cX9_weepBy 110 = .ok (.bipush 19, 2) := by decide +kernel
theorem dX9_weepBy_112 : decode cX9_weepBy 112 = .ok (.iload_n 2, 1) := by decide +kernel
theorem dX9_weepBy_113 : decode cX9_weepBy 113 = .ok (.invokevirtual 211, 3) := by decide +kernel
theorem dX9_weepBy_116 : decode cX9_weepBy 116 = .ok (.iload_n 2, 1) := by decide +kernel
theorem dX9_weepBy_117 : decode cX9_weepBy 117 = .ok (.invokevirtual 203, 3) := by decide +kernel
theorem dX9_weepBy_120 : decode cX9_weepBy 120 = .ok (.ifCond .eq 7, 3) := by decide +kernel
theorem dX9_weepBy_123 : decode cX9_weepBy 123 = .ok (.iconst 1, 1) := by decide +kernel
theorem dX9_weepBy_124 : decode cX9_weepBy 124 = .ok (.goto 4, 3) := by decide +kernel
theorem dX9_weepBy_127 : decode cX9_weepBy 127 = .ok (.iconst 0, 1) := by decide +kernel
theorem dX9_weepBy_128 : decode cX9_weepBy 128 = .ok (.iadd, 1) := by decide +kernel
theorem dX9_weepBy_129 : decode cX9_weepBy 129 = .ok (.istore 4, 2) := by decide +kernel
theorem dX9_weepBy_131 : decode cX9_weepBy 131 = .ok (.iload 4, 2) := by decide +kernel
theorem dX9_weepBy_133 : decode cX9_weepBy 133 = .ok (.ireturn, 1) := by decide +kernel
theorem dX9_mends_0 : decode cX9_mends 0 = .ok (.aload_n 0, 1) := by decide +kernel
theorem dX9_mends_1 : decode cX9_mends 1 = .ok (.iload_n 1, 1) := by decide +kernel
theorem dX9_mends_2 : decode cX9_mends 2 = .ok (.invokevirtual 169, 3) := by decide +kernel
theorem dX9_mends_5 : decode cX9_mends 5 = .ok (.ifCond .ne 5, 3) := by decide +kernel
theorem dX9_mends_8 : decode cX9_mends 8 = .ok (.iconst (-1), 1) := by decide +kernel
theorem dX9_mends_9 : decode cX9_mends 9 = .ok (.ireturn, 1) := by decide +kernel
theorem dX9_mends_10 : decode cX9_mends 10 = .ok (.aload_n 0, 1) := by decide +kernel
theorem dX9_mends_11 : decode cX9_mends 11 = .ok (.getfield 7, 3) := by decide +kernel
theorem dX9_mends_14 : decode cX9_mends 14 = .ok (.bipush 10, 2) := by decide +kernel
theorem dX9_mends_16 : decode cX9_mends 16 = .ok (.iaload, 1) := by decide +kernel
theorem dX9_mends_17 : decode cX9_mends 17 = .ok (.iload_n 1, 1) := by decide +kernel
theorem dX9_mends_18 : decode cX9_mends 18 = .ok (.invokestatic 197, 3) := by decide +kernel
theorem dX9_mends_21 : decode cX9_mends 21 = .ok (.ifCond .ne 13, 3) := by decide +kernel
theorem dX9_mends_24 : decode cX9_mends 24 = .ok (.aload_n 0, 1) := by decide +kernel
theorem dX9_mends_25 : decode cX9_mends 25 = .ok (.getfield 16, 3) := by decide +kernel
theorem dX9_mends_28 : decode cX9_mends 28 = .ok (.iload_n 1, 1) := by decide +kernel
theorem dX9_mends_29 : decode cX9_mends 29 = .ok (.iaload, 1) := by decide +kernel
theorem dX9_mends_30 : decode cX9_mends 30 = .ok (.iconst 3, 1) := by decide +kernel
theorem dX9_mends_31 : decode cX9_mends 31 = .ok (.if_icmp .eq 6, 3) := by decide +kernel
theorem dX9_mends_34 : decode cX9_mends 34 = .ok (.bipush (-2), 2) := by decide +kernel
theorem dX9_mends_36 : decode cX9_mends 36 = .ok (.ireturn, 1) := by decide +kernel
theorem dX9_mends_37 : decode cX9_mends 37 = .ok (.aload_n 0, 1) := by decide +kernel
theorem dX9_mends_38 : decode cX9_mends 38 = .ok (.aload_n 0, 1) := by decide +kernel
theorem dX9_mends_39 : decode cX9_mends 39 = .ok (.invokevirtual 214, 3) := by decide +kernel
theorem dX9_mends_42 : decode cX9_mends 42 = .ok (.iload_n 1, 1) := by decide +kernel
theorem dX9_mends_43 : decode cX9_mends 43 = .ok (.iconst 0, 1) := by decide +kernel
theorem dX9_mends_44 : decode cX9_mends 44 = .ok (.invokevirtual 236, 3) := by decide +kernel
theorem dX9_mends_47 : decode cX9_mends 47 = .ok (.aload_n 0, 1) := by decide +kernel
theorem dX9_mends_48 : decode cX9_mends 48 = .ok (.aload_n 0, 1) := by decide +kernel
theorem dX9_mends_49 : decode cX9_mends 49 = .ok (.invokevirtual 214, 3) := by decide +kernel
theorem dX9_mends_52 : decode cX9_mends 52 = .ok (.iload_n 1, 1) := by decide +kernel
theorem dX9_mends_53 : decode cX9_mends 53 = .ok (.iconst 1, 1) := by decide +kernel
theorem dX9_mends_54 : decode cX9_mends 54 = .ok (.invokevirtual 236, 3) := by decide +kernel
theorem dX9_mends_57 : decode cX9_mends 57 = .ok (.isub, 1) := by decide +kernel
theorem dX9_mends_58 : decode cX9_mends 58 = .ok (.bipush 10, 2) := by decide +kernel
theorem dX9_mends_60 : decode cX9_mends 60 = .ok (.iadd, 1) := by decide +kernel
theorem dX9_mends_61 : decode cX9_mends 61 = .ok (.ireturn, 1) := by decide +kernel
theorem dX9_rivals_0 : decode cX9_rivals 0 = .ok (.aload_n 0, 1) := by decide +kernel
theorem dX9_rivals_1 : decode cX9_rivals 1 = .ok (.iload_n 1, 1) := by decide +kernel
theorem dX9_rivals_2 : decode cX9_rivals 2 = .ok (.invokevirtual 166, 3) := by decide +kernel
theorem dX9_rivals_5 : decode cX9_rivals 5 = .ok (.ifCond .eq 39, 3) := by decide +kernel
theorem dX9_rivals_8 : decode cX9_rivals 8 = .ok (.aload_n 0, 1) := by decide +kernel
theorem dX9_rivals_9 : decode cX9_rivals 9 = .ok (.iload_n 2, 1) := by decide +kernel
theorem dX9_rivals_10 : decode cX9_rivals 10 = .ok (.invokevirtual 166, 3) := by decide +kernel
theorem dX9_rivals_13 : decode cX9_rivals 13 = .ok (.ifCond .eq 31, 3) := by decide +kernel
theorem dX9_rivals_16 : decode cX9_rivals 16 = .ok (.iload_n 1, 1) := by decide +kernel
theorem dX9_rivals_17 : decode cX9_rivals 17 = .ok (.iload_n 2, 1) := by decide +kernel
theorem dX9_rivals_18 : decode cX9_rivals 18 = .ok (.if_icmp .eq 26, 3) := by decide +kernel
theorem dX9_rivals_21 : decode cX9_rivals 21 = .ok (.iload_n 3, 1) := by decide +kernel
theorem dX9_rivals_22 : decode cX9_rivals 22 = .ok (.i2l, 1) := by decide +kernel
theorem dX9_rivals_23 : decode cX9_rivals 23 = .ok (.lconst 1, 1) := by decide +kernel
theorem dX9_rivals_24 : decode cX9_rivals 24 = .ok (.ldc2_w 240, 3) := by decide +kernel
theorem dX9_rivals_27 : decode cX9_rivals 27 = .ok (.invokestatic 92, 3) := by decide +kernel
theorem dX9_rivals_30 : decode cX9_rivals 30 = .ok (.ifCond .eq 14, 3) := by decide +kernel
theorem dX9_rivals_33 : decode cX9_rivals 33 = .ok (.iload 4, 2) := by decide +kernel
theorem dX9_rivals_35 : decode cX9_rivals 35 = .ok (.i2l, 1) := by decide +kernel
theorem dX9_rivals_36 : decode cX9_rivals 36 = .ok (.lconst 0, 1) := by decide +kernel
theorem dX9_rivals_37 : decode cX9_rivals 37 = .ok (.lconst 1, 1) := by decide +kernel
theorem dX9_rivals_38 : decode cX9_rivals 38 = .ok (.invokestatic 92, 3) := by decide +kernel
theorem dX9_rivals_41 : decode cX9_rivals 41 = .ok (.ifCond .ne 5, 3) := by decide +kernel
theorem dX9_rivals_44 : decode cX9_rivals 44 = .ok (.iconst (-1), 1) := by decide +kernel
theorem dX9_rivals_45 : decode cX9_rivals 45 = .ok (.ireturn, 1) := by decide +kernel
theorem dX9_rivals_46 : decode cX9_rivals 46 = .ok (.iload_n 3, 1) := by decide +kernel
theorem dX9_rivals_47 : decode cX9_rivals 47 = .ok (.aload_n 0, 1) := by decide +kernel
theorem dX9_rivals_48 : decode cX9_rivals 48 = .ok (.invokevirtual 214, 3) := by decide +kernel
theorem dX9_rivals_51 : decode cX9_rivals 51 = .ok (.invokestatic 217, 3) := by decide +kernel
theorem dX9_rivals_54 : decode cX9_rivals 54 = .ok (.if_icmp .ge 7, 3) := by decide +kernel
theorem dX9_rivals_57 : decode cX9_rivals 57 = .ok (.iload_n 3, 1) := by decide +kernel
theorem dX9_rivals_58 : decode cX9_rivals 58 = .ok (.goto 10, 3) := by decide +kernel
theorem dX9_rivals_61 : decode cX9_rivals 61 = .ok (.aload_n 0, 1) := by decide +kernel
theorem dX9_rivals_62 : decode cX9_rivals 62 = .ok (.invokevirtual 214, 3) := by decide +kernel
theorem dX9_rivals_65 : decode cX9_rivals 65 = .ok (.invokestatic 217, 3) := by decide +kernel
theorem dX9_rivals_68 : decode cX9_rivals 68 = .ok (.istore 5, 2) := by decide +kernel
theorem dX9_rivals_70 : decode cX9_rivals 70 = .ok (.iconst 1, 1) := by decide +kernel
theorem dX9_rivals_71 : decode cX9_rivals 71 = .ok (.istore 6, 2) := by decide +kernel
theorem dX9_rivals_73 : decode cX9_rivals 73 = .ok (.iconst 0, 1) := by decide +kernel
theorem dX9_rivals_74 : decode cX9_rivals 74 = .ok (.istore 7, 2) := by decide +kernel
theorem dX9_rivals_76 : decode cX9_rivals 76 = .ok (.iload 7, 2) := by decide +kernel
theorem dX9_rivals_78 : decode cX9_rivals 78 = .ok (.iload 5, 2) := by decide +kernel
theorem dX9_rivals_80 : decode cX9_rivals 80 = .ok (.if_icmp .ge 18, 3) := by decide +kernel
theorem dX9_rivals_83 : decode cX9_rivals 83 = .ok (.iload 6, 2) := by decide +kernel
theorem dX9_rivals_85 : decode cX9_rivals 85 = .ok (.aload_n 0, 1) := by decide +kernel
theorem dX9_rivals_86 : decode cX9_rivals 86 = .ok (.getfield 99, 3) := by decide +kernel
theorem dX9_rivals_89 : decode cX9_rivals 89 = .ok (.imul, 1) := by decide +kernel
theorem dX9_rivals_90 : decode cX9_rivals 90 = .ok (.istore 6, 2) := by decide +kernel
theorem dX9_rivals_92 : decode cX9_rivals 92 = .ok (.iinc 7 1, 3) := by decide +kernel
theorem dX9_rivals_95 : decode cX9_rivals 95 = .ok (.goto (-19), 3) := by decide +kernel
theorem dX9_rivals_98 : decode cX9_rivals 98 = .ok (.iconst 0, 1) := by decide +kernel
theorem dX9_rivals_99 : decode cX9_rivals 99 = .ok (.istore 7, 2) := by decide +kernel
theorem dX9_rivals_101 : decode cX9_rivals 101 = .ok (.iload 7, 2) := by decide +kernel
theorem dX9_rivals_103 : decode cX9_rivals 103 = .ok (.iload 6, 2) := by decide +kernel
theorem dX9_rivals_105 : decode cX9_rivals 105 = .ok (.if_icmp .ge 161, 3) := by decide +kernel
theorem dX9_rivals_108 : decode cX9_rivals 108 = .ok (.aload_n 0, 1) := by decide +kernel
theorem dX9_rivals_109 : decode cX9_rivals 109 = .ok (.invokevirtual 226, 3) := by decide +kernel
theorem dX9_rivals_112 : decode cX9_rivals 112 = .ok (.iconst 0, 1) := by decide +kernel
theorem dX9_rivals_113 : decode cX9_rivals 113 = .ok (.istore 8, 2) := by decide +kernel
theorem dX9_rivals_115 : decode cX9_rivals 115 = .ok (.iconst 1, 1) := by decide +kernel
theorem dX9_rivals_116 : decode cX9_rivals 116 = .ok (.istore 9, 2) := by decide +kernel
theorem dX9_rivals_118 : decode cX9_rivals 118 = .ok (.iload 6, 2) := by decide +kernel
theorem dX9_rivals_120 : decode cX9_rivals 120 = .ok (.istore 10, 2) := by decide +kernel
theorem dX9_rivals_122 : decode cX9_rivals 122 = .ok (.iconst 0, 1) := by decide +kernel
theorem dX9_rivals_123 : decode cX9_rivals 123 = .ok (.istore 11, 2) := by decide +kernel
theorem dX9_rivals_125 : decode cX9_rivals 125 = .ok (.iload 11, 2) := by decide +kernel
theorem dX9_rivals_127 : decode cX9_rivals 127 = .ok (.iload 5, 2) := by decide +kernel
theorem dX9_rivals_129 : decode cX9_rivals 129 = .ok (.if_icmp .ge 112, 3) := by decide +kernel
theorem dX9_rivals_132 : decode cX9_rivals 132 = .ok (.iload 9, 2) := by decide +kernel
theorem dX9_rivals_134 : decode cX9_rivals 134 = .ok (.ifCond .eq 107, 3) := by decide +kernel
theorem dX9_rivals_137 : decode cX9_rivals 137 = .ok (.iload 10, 2) := by decide +kernel
theorem dX9_rivals_139 : decode cX9_rivals 139 = .ok (.aload_n 0, 1) := by decide +kernel
theorem dX9_rivals_140 : decode cX9_rivals 140 = .ok (.getfield 99, 3) := by decide +kernel
theorem dX9_rivals_143 : decode cX9_rivals 143 = .ok (.idiv, 1) := by decide +kernel
theorem dX9_rivals_144 : decode cX9_rivals 144 = .ok (.istore 10, 2) := by decide +kernel
theorem dX9_rivals_146 : decode cX9_rivals 146 = .ok (.iload 7, 2) := by decide +kernel
theorem dX9_rivals_148 : decode cX9_rivals 148 = .ok (.iload 10, 2) := by decide +kernel
theorem dX9_rivals_150 : decode cX9_rivals 150 = .ok (.idiv, 1) := by decide +kernel
theorem dX9_rivals_151 : decode cX9_rivals 151 = .ok (.aload_n 0, 1) := by decide +kernel
theorem dX9_rivals_152 : decode cX9_rivals 152 = .ok (.getfield 99, 3) := by decide +kernel
theorem dX9_rivals_155 : decode cX9_rivals 155 = .ok (.irem, 1) := by decide +kernel
theorem dX9_rivals_156 : decode cX9_rivals 156 = .ok (.istore 12, 2) := by decide +kernel
theorem dX9_rivals_158 : decode cX9_rivals 158 = .ok (.aload_n 0, 1) := by decide +kernel
theorem dX9_rivals_159 : decode cX9_rivals 159 = .ok (.getfield 7, 3) := by decide +kernel
theorem dX9_rivals_162 : decode cX9_rivals 162 = .ok (.bipush 29, 2) := by decide +kernel
theorem dX9_rivals_164 : decode cX9_rivals 164 = .ok (.iaload, 1) := by decide +kernel
theorem dX9_rivals_165 : decode cX9_rivals 165 = .ok (.iload 12, 2) := by decide +kernel
theorem dX9_rivals_167 : decode cX9_rivals 167 = .ok (.invokestatic 197, 3) := by decide +kernel
theorem dX9_rivals_170 : decode cX9_rivals 170 = .ok (.ifCond .ne 7, 3) := by decide +kernel
theorem dX9_rivals_173 : decode cX9_rivals 173 = .ok (.iconst 1, 1) := by decide +kernel
theorem dX9_rivals_174 : decode cX9_rivals 174 = .ok (.goto 4, 3) := by decide +kernel
theorem dX9_rivals_177 : decode cX9_rivals 177 = .ok (.iconst 0, 1) := by decide +kernel
theorem dX9_rivals_178 : decode cX9_rivals 178 = .ok (.istore 9, 2) := by decide +kernel
theorem dX9_rivals_180 : decode cX9_rivals 180 = .ok (.iload 9, 2) := by decide +kernel
theorem dX9_rivals_182 : decode cX9_rivals 182 = .ok (.ifCond .eq 53, 3) := by decide +kernel
theorem dX9_rivals_185 : decode cX9_rivals 185 = .ok (.aload_n 0, 1) := by decide +kernel
theorem dX9_rivals_186 : decode cX9_rivals 186 = .ok (.bipush 19, 2) := by decide +kernel
theorem dX9_rivals_188 : decode cX9_rivals 188 = .ok (.iload 11, 2) := by decide +kernel
theorem dX9_rivals_190 : decode cX9_rivals 190 = .ok (.iconst 2, 1) := by decide +kernel
theorem dX9_rivals_191 : decode cX9_rivals 191 = .ok (.irem, 1) := by decide +kernel
theorem dX9_rivals_192 : decode cX9_rivals 192 = .ok (.ifCond .ne 7, 3) := by decide +kernel
theorem dX9_rivals_195 : decode cX9_rivals 195 = .ok (.iload_n 1, 1) := by decide +kernel
theorem dX9_rivals_196 : decode cX9_rivals 196 = .ok (.goto 4, 3) := by decide +kernel
theorem dX9_rivals_199 : decode cX9_rivals 199 = .ok (.iload_n 2, 1) := by decide +kernel
theorem dX9_rivals_200 : decode cX9_rivals 200 = .ok (.iload 12, 2) := by decide +kernel
theorem dX9_rivals_202 : decode cX9_rivals 202 = .ok (.invokevirtual 203, 3) := by decide +kernel
theorem dX9_rivals_205 : decode cX9_rivals 205 = .ok (.ifCond .eq 7, 3) := by decide +kernel
theorem dX9_rivals_208 : decode cX9_rivals 208 = .ok (.iconst 1, 1) := by decide +kernel
theorem dX9_rivals_209 : decode cX9_rivals 209 = .ok (.goto 4, 3) := by decide +kernel
theorem dX9_rivals_212 : decode cX9_rivals 212 = .ok (.iconst 0, 1) := by decide +kernel
theorem dX9_rivals_213 : decode cX9_rivals 213 = .ok (.istore 13, 2) := by decide +kernel
theorem dX9_rivals_215 : decode cX9_rivals 215 = .ok (.iload 8, 2) := by decide +kernel
theorem dX9_rivals_217 : decode cX9_rivals 217 = .ok (.iload 11, 2) := by decide +kernel
theorem dX9_rivals_219 : decode cX9_rivals 219 = .ok (.iconst 2, 1) := by decide +kernel
theorem dX9_rivals_220 : decode cX9_rivals 220 = .ok (.irem, 1) := by decide +kernel
theorem dX9_rivals_221 : decode cX9_rivals 221 = .ok (.ifCond .ne 8, 3) := by decide +kernel
theorem dX9_rivals_224 : decode cX9_rivals 224 = .ok (.iload 13, 2) := by decide +kernel
theorem dX9_rivals_226 : decode cX9_rivals 226 = .ok (.goto 6, 3) := by decide +kernel
theorem dX9_rivals_229 : decode cX9_rivals 229 = .ok (.iload 13, 2) := by decide +kernel
theorem dX9_rivals_231 : decode cX9_rivals 231 = .ok (.ineg, 1) := by decide +kernel
theorem dX9_rivals_232 : decode cX9_rivals 232 = .ok (.iadd, 1) := by decide +kernel
theorem dX9_rivals_233 : decode cX9_rivals 233 = .ok (.istore 8, 2) := by decide +kernel
theorem dX9_rivals_235 : decode cX9_rivals 235 = .ok (.iinc 11 1, 3) := by decide +kernel
theorem dX9_rivals_238 : decode cX9_rivals 238 = .ok (.goto (-113), 3) := by decide +kernel
theorem dX9_rivals_241 : decode cX9_rivals 241 = .ok (.aload_n 0, 1) := by decide +kernel
theorem dX9_rivals_242 : decode cX9_rivals 242 = .ok (.getfield 61, 3) := by decide +kernel
theorem dX9_rivals_245 : decode cX9_rivals 245 = .ok (.iload 7, 2) := by decide +kernel
theorem dX9_rivals_247 : decode cX9_rivals 247 = .ok (.iload 9, 2) := by decide +kernel
theorem dX9_rivals_249 : decode cX9_rivals 249 = .ok (.ifCond .eq 8, 3) := by decide +kernel
theorem dX9_rivals_252 : decode cX9_rivals 252 = .ok (.iload 8, 2) := by decide +kernel
theorem dX9_rivals_254 : decode cX9_rivals 254 = .ok (.goto 5, 3) := by decide +kernel
theorem dX9_rivals_257 : decode cX9_rivals 257 = .ok (.ldc 220, 2) := by decide +kernel
theorem dX9_rivals_259 : decode cX9_rivals 259 = .ok (.iastore, 1) := by decide +kernel
theorem dX9_rivals_260 : decode cX9_rivals 260 = .ok (.iinc 7 1, 3) := by decide +kernel
theorem dX9_rivals_263 : decode cX9_rivals 263 = .ok (.goto (-162), 3) := by decide +kernel
theorem dX9_rivals_266 : decode cX9_rivals 266 = .ok (.bipush (-4), 2) := by decide +kernel
theorem dX9_rivals_268 : decode cX9_rivals 268 = .ok (.istore 7, 2) := by decide +kernel
theorem dX9_rivals_270 : decode cX9_rivals 270 = .ok (.iload 6, 2) := by decide +kernel
theorem dX9_rivals_272 : decode cX9_rivals 272 = .ok (.istore 8, 2) := by decide +kernel
theorem dX9_rivals_274 : decode cX9_rivals 274 = .ok (.iload 5, 2) := by decide +kernel
theorem dX9_rivals_276 : decode cX9_rivals 276 = .ok (.iconst 1, 1) := by decide +kernel
theorem dX9_rivals_277 : decode cX9_rivals 277 = .ok (.isub, 1) := by decide +kernel
theorem dX9_rivals_278 : decode cX9_rivals 278 = .ok (.istore 9, 2) := by decide +kernel
theorem dX9_rivals_280 : decode cX9_rivals 280 = .ok (.iload 9, 2) := by decide +kernel
theorem dX9_rivals_282 : decode cX9_rivals 282 = .ok (.ifCond .lt 155, 3) := by decide +kernel
theorem dX9_rivals_285 : decode cX9_rivals 285 = .ok (.iload 8, 2) := by decide +kernel
theorem dX9_rivals_287 : decode cX9_rivals 287 = .ok (.aload_n 0, 1) := by decide +kernel
theorem dX9_rivals_288 : decode cX9_rivals 288 = .ok (.getfield 99, 3) := by decide +kernel
theorem dX9_rivals_291 : decode cX9_rivals 291 = .ok (.idiv, 1) := by decide +kernel
theorem dX9_rivals_292 : decode cX9_rivals 292 = .ok (.istore 8, 2) := by decide +kernel
theorem dX9_rivals_294 : decode cX9_rivals 294 = .ok (.iconst 0, 1) := by decide +kernel
theorem dX9_rivals_295 : decode cX9_rivals 295 = .ok (.istore 10, 2) := by decide +kernel
theorem dX9_rivals_297 : decode cX9_rivals 297 = .ok (.iload 10, 2) := by decide +kernel
theorem dX9_rivals_299 : decode cX9_rivals 299 = .ok (.iload 8, 2) := by decide +kernel
theorem dX9_rivals_301 : decode cX9_rivals 301 = .ok (.if_icmp .ge 130, 3) := by decide +kernel
theorem dX9_rivals_304 : decode cX9_rivals 304 = .ok (.ldc 220, 2) := by decide +kernel
theorem dX9_rivals_306 : decode cX9_rivals 306 = .ok (.istore 11, 2) := by decide +kernel
theorem dX9_rivals_308 : decode cX9_rivals 308 = .ok (.iconst 0, 1) := by decide +kernel
theorem dX9_rivals_309 : decode cX9_rivals 309 = .ok (.istore 12, 2) := by decide +kernel
theorem dX9_rivals_311 : decode cX9_rivals 311 = .ok (.iload 12, 2) := by decide +kernel
theorem dX9_rivals_313 : decode cX9_rivals 313 = .ok (.aload_n 0, 1) := by decide +kernel
theorem dX9_rivals_314 : decode cX9_rivals 314 = .ok (.getfield 99, 3) := by decide +kernel
theorem dX9_rivals_317 : decode cX9_rivals 317 = .ok (.if_icmp .ge 99, 3) := by decide +kernel
theorem dX9_rivals_320 : decode cX9_rivals 320 = .ok (.aload_n 0, 1) := by decide +kernel
theorem dX9_rivals_321 : decode cX9_rivals 321 = .ok (.getfield 61, 3) := by decide +kernel
theorem dX9_rivals_324 : decode cX9_rivals 324 = .ok (.aload_n 0, 1) := by decide +kernel
theorem dX9_rivals_325 : decode cX9_rivals 325 = .ok (.getfield 99, 3) := by decide +kernel
theorem dX9_rivals_328 : decode cX9_rivals 328 = .ok (.iload 10, 2) := by decide +kernel
theorem dX9_rivals_330 : decode cX9_rivals 330 = .ok (.imul, 1) := by decide +kernel
theorem dX9_rivals_331 : decode cX9_rivals 331 = .ok (.iload 12, 2) := by decide +kernel
theorem dX9_rivals_333 : decode cX9_rivals 333 = .ok (.iadd, 1) := by decide +kernel
theorem dX9_rivals_334 : decode cX9_rivals 334 = .ok (.iaload, 1) := by decide +kernel
theorem dX9_rivals_335 : decode cX9_rivals 335 = .ok (.istore 13, 2) := by decide +kernel
theorem dX9_rivals_337 : decode cX9_rivals 337 = .ok (.iload 13, 2) := by decide +kernel
theorem dX9_rivals_339 : decode cX9_rivals 339 = .ok (.ldc 220, 2) := by decide +kernel
theorem dX9_rivals_341 : decode cX9_rivals 341 = .ok (.if_icmp .eq 38, 3) := by decide +kernel
theorem dX9_rivals_344 : decode cX9_rivals 344 = .ok (.iload 11, 2) := by decide +kernel
theorem dX9_rivals_346 : decode cX9_rivals 346 = .ok (.ldc 220, 2) := by decide +kernel
theorem dX9_rivals_348 : decode cX9_rivals 348 = .ok (.if_icmp .eq 27, 3) := by decide +kernel
theorem dX9_rivals_351 : decode cX9_rivals 351 = .ok (.iload 9, 2) := by decide +kernel
theorem dX9_rivals_353 : decode cX9_rivals 353 = .ok (.iconst 2, 1) := by decide +kernel
theorem dX9_rivals_354 : decode cX9_rivals 354 = .ok (.irem, 1) := by decide +kernel
theorem dX9_rivals_355 : decode cX9_rivals 355 = .ok (.ifCond .ne 13, 3) := by decide +kernel
theorem dX9_rivals_358 : decode cX9_rivals 358 = .ok (.iload 13, 2) := by decide +kernel
theorem dX9_rivals_360 : decode cX9_rivals 360 = .ok (.iload 11, 2) := by decide +kernel
theorem dX9_rivals_362 : decode cX9_rivals 362 = .ok (.if_icmp .ge 17, 3) := by decide +kernel
theorem dX9_rivals_365 : decode cX9_rivals 365 = .ok (.goto 10, 3) := by decide +kernel
theorem dX9_rivals_368 : decode cX9_rivals 368 = .ok (.iload 13, 2) := by decide +kernel
theorem dX9_rivals_370 : decode cX9_rivals 370 = .ok (.iload 11, 2) := by decide +kernel
theorem dX9_rivals_372 : decode cX9_rivals 372 = .ok (.if_icmp .le 7, 3) := by decide +kernel
theorem dX9_rivals_375 : decode cX9_rivals 375 = .ok (.iconst 1, 1) := by decide +kernel
theorem dX9_rivals_376 : decode cX9_rivals 376 = .ok (.goto 4, 3) := by decide +kernel
theorem dX9_rivals_379 : decode cX9_rivals 379 = .ok (.iconst 0, 1) := by decide +kernel
theorem dX9_rivals_380 : decode cX9_rivals 380 = .ok (.istore 14, 2) := by decide +kernel
theorem dX9_rivals_382 : decode cX9_rivals 382 = .ok (.iload 14, 2) := by decide +kernel
theorem dX9_rivals_384 : decode cX9_rivals 384 = .ok (.ifCond .eq 8, 3) := by decide +kernel
theorem dX9_rivals_387 : decode cX9_rivals 387 = .ok (.iload 12, 2) := by decide +kernel
theorem dX9_rivals_389 : decode cX9_rivals 389 = .ok (.goto 5, 3) := by decide +kernel
theorem dX9_rivals_392 : decode cX9_rivals 392 = .ok (.iload 7, 2) := by decide +kernel
theorem dX9_rivals_394 : decode cX9_rivals 394 = .ok (.istore 7, 2) := by decide +kernel
theorem dX9_rivals_396 : decode cX9_rivals 396 = .ok (.iload 14, 2) := by decide +kernel
theorem dX9_rivals_398 : decode cX9_rivals 398 = .ok (.ifCond .eq 8, 3) := by decide +kernel
theorem dX9_rivals_401 : decode cX9_rivals 401 = .ok (.iload 13, 2) := by decide +kernel
theorem dX9_rivals_403 : decode cX9_rivals 403 = .ok (.goto 5, 3) := by decide +kernel
theorem dX9_rivals_406 : decode cX9_rivals 406 = .ok (.iload 11, 2) := by decide +kernel
theorem dX9_rivals_408 : decode cX9_rivals 408 = .ok (.istore 11, 2) := by decide +kernel
theorem dX9_rivals_410 : decode cX9_rivals 410 = .ok (.iinc 12 1, 3) := by decide +kernel
theorem dX9_rivals_413 : decode cX9_rivals 413 = .ok (.goto (-102), 3) := by decide +kernel
theorem dX9_rivals_416 : decode cX9_rivals 416 = .ok (.aload_n 0, 1) := by decide +kernel
theorem dX9_rivals_417 : decode cX9_rivals 417 = .ok (.getfield 61, 3) := by decide +kernel
theorem dX9_rivals_420 : decode cX9_rivals 420 = .ok (.iload 10, 2) := by decide +kernel
theorem dX9_rivals_422 : decode cX9_rivals 422 = .ok (.iload 11, 2) := by decide +kernel
theorem dX9_rivals_424 : decode cX9_rivals 424 = .ok (.iastore, 1) := by decide +kernel
theorem dX9_rivals_425 : decode cX9_rivals 425 = .ok (.iinc 10 1, 3) := by decide +kernel
theorem dX9_rivals_428 : decode cX9_rivals 428 = .ok (.goto (-131), 3) := by decide +kernel
theorem dX9_rivals_431 : decode cX9_rivals 431 = .ok (.iinc 9 (-1), 3) := by decide +kernel
theorem dX9_rivals_434 : decode cX9_rivals 434 = .ok (.goto (-154), 3) := by decide +kernel
theorem dX9_rivals_437 : decode cX9_rivals 437 = .ok (.iload 4, 2) := by decide +kernel
theorem dX9_rivals_439 : decode cX9_rivals 439 = .ok (.ifCond .ne 15, 3) := by decide +kernel
theorem dX9_rivals_442 : decode cX9_rivals 442 = .ok (.aload_n 0, 1) := by decide +kernel
theorem dX9_rivals_443 : decode cX9_rivals 443 = .ok (.getfield 61, 3) := by decide +kernel
theorem dX9_rivals_446 : decode cX9_rivals 446 = .ok (.iconst 0, 1) := by decide +kernel
theorem dX9_rivals_447 : decode cX9_rivals 447 = .ok (.iaload, 1) := by decide +kernel
theorem dX9_rivals_448 : decode cX9_rivals 448 = .ok (.bipush 10, 2) := by decide +kernel
theorem dX9_rivals_450 : decode cX9_rivals 450 = .ok (.iadd, 1) := by decide +kernel
theorem dX9_rivals_451 : decode cX9_rivals 451 = .ok (.goto 5, 3) := by decide +kernel
theorem dX9_rivals_454 : decode cX9_rivals 454 = .ok (.iload 7, 2) := by decide +kernel
theorem dX9_rivals_456 : decode cX9_rivals 456 = .ok (.ireturn, 1) := by decide +kernel
theorem dX9_see_0 : decode cX9_see 0 = .ok (.aload_n 0, 1) := by decide +kernel
theorem dX9_see_1 : decode cX9_see 1 = .ok (.iload_n 1, 1) := by decide +kernel
theorem dX9_see_2 : decode cX9_see 2 = .ok (.invokevirtual 166, 3) := by decide +kernel
theorem dX9_see_5 : decode cX9_see 5 = .ok (.ifCond .eq 23, 3) := by decide +kernel
theorem dX9_see_8 : decode cX9_see 8 = .ok (.aload_n 0, 1) := by decide +kernel
theorem dX9_see_9 : decode cX9_see 9 = .ok (.iload_n 2, 1) := by decide +kernel
theorem dX9_see_10 : decode cX9_see 10 = .ok (.invokevirtual 169, 3) := by decide +kernel
theorem dX9_see_13 : decode cX9_see 13 = .ok (.ifCond .eq 15, 3) := by decide +kernel
theorem dX9_see_16 : decode cX9_see 16 = .ok (.iload_n 3, 1) := by decide +kernel
theorem dX9_see_17 : decode cX9_see 17 = .ok (.i2l, 1) := by decide +kernel
theorem dX9_see_18 : decode cX9_see 18 = .ok (.lconst 0, 1) := by decide +kernel
theorem dX9_see_19 : decode cX9_see 19 = .ok (.ldc2_w 242, 3) := by decide +kernel
theorem dX9_see_22 : decode cX9_see 22 = .ok (.invokestatic 92, 3) := by decide +kernel
theorem dX9_see_25 : decode cX9_see 25 = .ok (.ifCond .ne 5, 3) := by decide +kernel
theorem dX9_see_28 : decode cX9_see 28 = .ok (.iconst (-1), 1) := by decide +kernel
theorem dX9_see_29 : decode cX9_see 29 = .ok (.ireturn, 1) := by decide +kernel
theorem dX9_see_30 : decode cX9_see 30 = .ok (.aload_n 0, 1) := by decide +kernel
theorem dX9_see_31 : decode cX9_see 31 = .ok (.getfield 114, 3) := by decide +kernel
theorem dX9_see_34 : decode cX9_see 34 = .ok (.bipush 6, 2) := by decide +kernel
theorem dX9_see_36 : decode cX9_see 36 = .ok (.if_icmp .ne 6, 3) := by decide +kernel
theorem dX9_see_39 : decode cX9_see 39 = .ok (.bipush (-3), 2) := by decide +kernel
theorem dX9_see_41 : decode cX9_see 41 = .ok (.ireturn, 1) := by decide +kernel
theorem dX9_see_42 : decode cX9_see 42 = .ok (.aload_n 0, 1) := by decide +kernel
theorem dX9_see_43 : decode cX9_see 43 = .ok (.getfield 31, 3) := by decide +kernel
theorem dX9_see_46 : decode cX9_see 46 = .ok (.aload_n 0, 1) := by decide +kernel
theorem dX9_see_47 : decode cX9_see 47 = .ok (.getfield 114, 3) := by decide +kernel
theorem dX9_see_50 : decode cX9_see 50 = .ok (.iload_n 1, 1) := by decide +kernel
theorem dX9_see_51 : decode cX9_see 51 = .ok (.iastore, 1) := by decide +kernel
theorem dX9_see_52 : decode cX9_see 52 = .ok (.aload_n 0, 1) := by decide +kernel
theorem dX9_see_53 : decode cX9_see 53 = .ok (.getfield 34, 3) := by decide +kernel
theorem dX9_see_56 : decode cX9_see 56 = .ok (.aload_n 0, 1) := by decide +kernel
theorem dX9_see_57 : decode cX9_see 57 = .ok (.getfield 114, 3) := by decide +kernel
theorem dX9_see_60 : decode cX9_see 60 = .ok (.iload_n 2, 1) := by decide +kernel
theorem dX9_see_61 : decode cX9_see 61 = .ok (.iastore, 1) := by decide +kernel
theorem dX9_see_62 : decode cX9_see 62 = .ok (.aload_n 0, 1) := by decide +kernel
theorem dX9_see_63 : decode cX9_see 63 = .ok (.getfield 37, 3) := by decide +kernel
theorem dX9_see_66 : decode cX9_see 66 = .ok (.aload_n 0, 1) := by decide +kernel
theorem dX9_see_67 : decode cX9_see 67 = .ok (.getfield 114, 3) := by decide +kernel
theorem dX9_see_70 : decode cX9_see 70 = .ok (.iload_n 3, 1) := by decide +kernel
theorem dX9_see_71 : decode cX9_see 71 = .ok (.iastore, 1) := by decide +kernel
theorem dX9_see_72 : decode cX9_see 72 = .ok (.aload_n 0, 1) := by decide +kernel
theorem dX9_see_73 : decode cX9_see 73 = .ok (.dup, 1) := by decide +kernel
theorem dX9_see_74 : decode cX9_see 74 = .ok (.getfield 114, 3) := by decide +kernel
theorem dX9_see_77 : decode cX9_see 77 = .ok (.iconst 1, 1) := by decide +kernel
theorem dX9_see_78 : decode cX9_see 78 = .ok (.iadd, 1) := by decide +kernel
theorem dX9_see_79 : decode cX9_see 79 = .ok (.putfield 114, 3) := by decide +kernel
theorem dX9_see_82 : decode cX9_see 82 = .ok (.aload_n 0, 1) := by decide +kernel
theorem dX9_see_83 : decode cX9_see 83 = .ok (.getfield 114, 3) := by decide +kernel
theorem dX9_see_86 : decode cX9_see 86 = .ok (.ireturn, 1) := by decide +kernel
theorem dX9_forget_0 : decode cX9_forget 0 = .ok (.aload_n 0, 1) := by decide +kernel
theorem dX9_forget_1 : decode cX9_forget 1 = .ok (.getfield 114, 3) := by decide +kernel
theorem dX9_forget_4 : decode cX9_forget 4 = .ok (.istore_n 1, 1) := by decide +kernel
theorem dX9_forget_5 : decode cX9_forget 5 = .ok (.aload_n 0, 1) := by decide +kernel
theorem dX9_forget_6 : decode cX9_forget 6 = .ok (.iconst 0, 1) := by decide +kernel
theorem dX9_forget_7 : decode cX9_forget 7 = .ok (.putfield 114, 3) := by decide +kernel
theorem dX9_forget_10 : decode cX9_forget 10 = .ok (.iload_n 1, 1) := by decide +kernel
theorem dX9_forget_11 : decode cX9_forget 11 = .ok (.ireturn, 1) := by decide +kernel
theorem dX9_isSeen_0 : decode cX9_isSeen 0 = .ok (.iconst 1, 1) := by decide +kernel
theorem dX9_isSeen_1 : decode cX9_isSeen 1 = .ok (.istore_n 2, 1) := by decide +kernel
theorem dX9_isSeen_2 : decode cX9_isSeen 2 = .ok (.iconst 0, 1) := by decide +kernel
theorem dX9_isSeen_3 : decode cX9_isSeen 3 = .ok (.istore_n 3, 1) := by decide +kernel
theorem dX9_isSeen_4 : decode cX9_isSeen 4 = .ok (.iload_n 3, 1) := by decide +kernel
theorem dX9_isSeen_5 : decode cX9_isSeen 5 = .ok (.aload_n 0, 1) := by decide +kernel
theorem dX9_isSeen_6 : decode cX9_isSeen 6 = .ok (.getfield 114, 3) := by decide +kernel
theorem dX9_isSeen_9 : decode cX9_isSeen 9 = .ok (.if_icmp .ge 51, 3) := by decide +kernel
theorem dX9_isSeen_12 : decode cX9_isSeen 12 = .ok (.iload_n 2, 1) := by decide +kernel
theorem dX9_isSeen_13 : decode cX9_isSeen 13 = .ok (.ifCond .eq 39, 3) := by decide +kernel
theorem dX9_isSeen_16 : decode cX9_isSeen 16 = .ok (.aload_n 0, 1) := by decide +kernel
theorem dX9_isSeen_17 : decode cX9_isSeen 17 = .ok (.getfield 31, 3) := by decide +kernel
theorem dX9_isSeen_20 : decode cX9_isSeen 20 = .ok (.iload_n 3, 1) := by decide +kernel
theorem dX9_isSeen_21 : decode cX9_isSeen 21 = .ok (.iaload, 1) := by decide +kernel
theorem dX9_isSeen_22 : decode cX9_isSeen 22 = .ok (.iload_n 1, 1) := by decide +kernel
theorem dX9_isSeen_23 : decode cX9_isSeen 23 = .ok (.if_icmp .ne 25, 3) := by decide +kernel
theorem dX9_isSeen_26 : decode cX9_isSeen 26 = .ok (.aload_n 0, 1) := by decide +kernel
theorem dX9_isSeen_27 : decode cX9_isSeen 27 = .ok (.bipush 19, 2) := by decide +kernel
theorem dX9_isSeen_29 : decode cX9_isSeen 29 = .ok (.iload_n 1, 1) := by decide +kernel
theorem dX9_isSeen_30 : decode cX9_isSeen 30 = .ok (.aload_n 0, 1) := by decide +kernel
theorem dX9_isSeen_31 : decode cX9_isSeen 31 = .ok (.getfield 34, 3) := by decide +kernel
theorem dX9_isSeen_34 : decode cX9_isSeen 34 = .ok (.iload_n 3, 1) := by decide +kernel
theorem dX9_isSeen_35 : decode cX9_isSeen 35 = .ok (.iaload, 1) := by decide +kernel
theorem dX9_isSeen_36 : decode cX9_isSeen 36 = .ok (.invokevirtual 178, 3) := by decide +kernel
theorem dX9_isSeen_39 : decode cX9_isSeen 39 = .ok (.aload_n 0, 1) := by decide +kernel
theorem dX9_isSeen_40 : decode cX9_isSeen 40 = .ok (.getfield 37, 3) := by decide +kernel
theorem dX9_isSeen_43 : decode cX9_isSeen 43 = .ok (.iload_n 3, 1) := by decide +kernel
theorem dX9_isSeen_44 : decode cX9_isSeen 44 = .ok (.iaload, 1) := by decide +kernel
theorem dX9_isSeen_45 : decode cX9_isSeen 45 = .ok (.if_icmp .ne 7, 3) := by decide +kernel
theorem dX9_isSeen_48 : decode cX9_isSeen 48 = .ok (.iconst 1, 1) := by decide +kernel
theorem dX9_isSeen_49 : decode cX9_isSeen 49 = .ok (.goto 4, 3) := by decide +kernel
theorem dX9_isSeen_52 : decode cX9_isSeen 52 = .ok (.iconst 0, 1) := by decide +kernel
theorem dX9_isSeen_53 : decode cX9_isSeen 53 = .ok (.istore_n 2, 1) := by decide +kernel
theorem dX9_isSeen_54 : decode cX9_isSeen 54 = .ok (.iinc 3 1, 3) := by decide +kernel
theorem dX9_isSeen_57 : decode cX9_isSeen 57 = .ok (.goto (-53), 3) := by decide +kernel
theorem dX9_isSeen_60 : decode cX9_isSeen 60 = .ok (.iload_n 2, 1) := by decide +kernel
theorem dX9_isSeen_61 : decode cX9_isSeen 61 = .ok (.ireturn, 1) := by decide +kernel
theorem dX9_wept_0 : decode cX9_wept 0 = .ok (.aload_n 0, 1) := by decide +kernel
theorem dX9_wept_1 : decode cX9_wept 1 = .ok (.iload_n 1, 1) := by decide +kernel
theorem dX9_wept_2 : decode cX9_wept 2 = .ok (.invokevirtual 166, 3) := by decide +kernel
theorem dX9_wept_5 : decode cX9_wept 5 = .ok (.ifCond .eq 13, 3) := by decide +kernel
theorem dX9_wept_8 : decode cX9_wept 8 = .ok (.iload_n 2, 1) := by decide +kernel
theorem dX9_wept_9 : decode cX9_wept 9 = .ok (.i2l, 1) := by decide +kernel
theorem dX9_wept_10 : decode cX9_wept 10 = .ok (.lconst 0, 1) := by decide +kernel
theorem dX9_wept_11 : decode cX9_wept 11 = .ok (.lconst 1, 1) := by decide +kernel
theorem dX9_wept_12 : decode cX9_wept 12 = .ok (.invokestatic 92, 3) := by decide +kernel
theorem dX9_wept_15 : decode cX9_wept 15 = .ok (.ifCond .ne 5, 3) := by decide +kernel
theorem dX9_wept_18 : decode cX9_wept 18 = .ok (.iconst (-1), 1) := by decide +kernel
theorem dX9_wept_19 : decode cX9_wept 19 = .ok (.ireturn, 1) := by decide +kernel
theorem dX9_wept_20 : decode cX9_wept 20 = .ok (.iconst 0, 1) := by decide +kernel
theorem dX9_wept_21 : decode cX9_wept 21 = .ok (.istore_n 3, 1) := by decide +kernel
theorem dX9_wept_22 : decode cX9_wept 22 = .ok (.bipush (-4), 2) := by decide +kernel
theorem dX9_wept_24 : decode cX9_wept 24 = .ok (.istore 4, 2) := by decide +kernel
theorem dX9_wept_26 : decode cX9_wept 26 = .ok (.aload_n 0, 1) := by decide +kernel
theorem dX9_wept_27 : decode cX9_wept 27 = .ok (.invokevirtual 226, 3) := by decide +kernel
theorem dX9_wept_30 : decode cX9_wept 30 = .ok (.aload_n 0, 1) := by decide +kernel
theorem dX9_wept_31 : decode cX9_wept 31 = .ok (.invokevirtual 88, 3) := by decide +kernel
theorem dX9_wept_34 : decode cX9_wept 34 = .ok (.istore 5, 2) := by decide +kernel
theorem dX9_wept_36 : decode cX9_wept 36 = .ok (.iload 5, 2) := by decide +kernel
theorem dX9_wept_38 : decode cX9_wept 38 = .ok (.ifCond .lt 82, 3) := by decide +kernel
theorem dX9_wept_41 : decode cX9_wept 41 = .ok (.aload_n 0, 1) := by decide +kernel
theorem dX9_wept_42 : decode cX9_wept 42 = .ok (.getfield 7, 3) := by decide +kernel
theorem dX9_wept_45 : decode cX9_wept 45 = .ok (.bipush 26, 2) := by decide +kernel
theorem dX9_wept_47 : decode cX9_wept 47 = .ok (.iload_n 1, 1) := by decide +kernel
theorem dX9_wept_48 : decode cX9_wept 48 = .ok (.iadd, 1) := by decide +kernel
theorem dX9_wept_49 : decode cX9_wept 49 = .ok (.iload 5, 2) := by decide +kernel
theorem dX9_wept_51 : decode cX9_wept 51 = .ok (.aload_n 0, 1) := by decide +kernel
theorem dX9_wept_52 : decode cX9_wept 52 = .ok (.invokevirtual 88, 3) := by decide +kernel
theorem dX9_wept_55 : decode cX9_wept 55 = .ok (.if_icmp .ne 8, 3) := by decide +kernel
theorem dX9_wept_58 : decode cX9_wept 58 = .ok (.bipush (-4), 2) := by decide +kernel
theorem dX9_wept_60 : decode cX9_wept 60 = .ok (.goto 5, 3) := by decide +kernel
theorem dX9_wept_63 : decode cX9_wept 63 = .ok (.iload 5, 2) := by decide +kernel
theorem dX9_wept_65 : decode cX9_wept 65 = .ok (.iastore, 1) := by decide +kernel
theorem dX9_wept_66 : decode cX9_wept 66 = .ok (.aload_n 0, 1) := by decide +kernel
theorem dX9_wept_67 : decode cX9_wept 67 = .ok (.iload_n 1, 1) := by decide +kernel
theorem dX9_wept_68 : decode cX9_wept 68 = .ok (.invokevirtual 244, 3) := by decide +kernel
theorem dX9_wept_71 : decode cX9_wept 71 = .ok (.istore 6, 2) := by decide +kernel
theorem dX9_wept_73 : decode cX9_wept 73 = .ok (.iload_n 3, 1) := by decide +kernel
theorem dX9_wept_74 : decode cX9_wept 74 = .ok (.iload 6, 2) := by decide +kernel
theorem dX9_wept_76 : decode cX9_wept 76 = .ok (.ifCond .eq 7, 3) := by decide +kernel
theorem dX9_wept_79 : decode cX9_wept 79 = .ok (.iconst 1, 1) := by decide +kernel
theorem dX9_wept_80 : decode cX9_wept 80 = .ok (.goto 4, 3) := by decide +kernel
theorem dX9_wept_83 : decode cX9_wept 83 = .ok (.iconst 0, 1) := by decide +kernel
theorem dX9_wept_84 : decode cX9_wept 84 = .ok (.iadd, 1) := by decide +kernel
theorem dX9_wept_85 : decode cX9_wept 85 = .ok (.istore_n 3, 1) := by decide +kernel
theorem dX9_wept_86 : decode cX9_wept 86 = .ok (.iload 6, 2) := by decide +kernel
theorem dX9_wept_88 : decode cX9_wept 88 = .ok (.ifCond .eq 22, 3) := by decide +kernel
theorem dX9_wept_91 : decode cX9_wept 91 = .ok (.iload 5, 2) := by decide +kernel
theorem dX9_wept_93 : decode cX9_wept 93 = .ok (.aload_n 0, 1) := by decide +kernel
theorem dX9_wept_94 : decode cX9_wept 94 = .ok (.invokevirtual 88, 3) := by decide +kernel
theorem dX9_wept_97 : decode cX9_wept 97 = .ok (.if_icmp .ne 8, 3) := by decide +kernel
theorem dX9_wept_100 : decode cX9_wept 100 = .ok (.bipush 99, 2) := by decide +kernel
theorem dX9_wept_102 : decode cX9_wept 102 = .ok (.goto 10, 3) := by decide +kernel
theorem dX9_wept_105 : decode cX9_wept 105 = .ok (.iload 5, 2) := by decide +kernel
theorem dX9_wept_107 : decode cX9_wept 107 = .ok (.goto 5, 3) := by decide +kernel
theorem dX9_wept_110 : decode cX9_wept 110 = .ok (.iload 4, 2) := by decide +kernel
theorem dX9_wept_112 : decode cX9_wept 112 = .ok (.istore 4, 2) := by decide +kernel
theorem dX9_wept_114 : decode cX9_wept 114 = .ok (.iinc 5 (-1), 3) := by decide +kernel
theorem dX9_wept_117 : decode cX9_wept 117 = .ok (.goto (-81), 3) := by decide +kernel
theorem dX9_wept_120 : decode cX9_wept 120 = .ok (.iload_n 2, 1) := by decide +kernel
theorem dX9_wept_121 : decode cX9_wept 121 = .ok (.ifCond .ne 7, 3) := by decide +kernel
theorem dX9_wept_124 : decode cX9_wept 124 = .ok (.iload_n 3, 1) := by decide +kernel
theorem dX9_wept_125 : decode cX9_wept 125 = .ok (.goto 5, 3) := by decide +kernel
theorem dX9_wept_128 : decode cX9_wept 128 = .ok (.iload 4, 2) := by decide +kernel
theorem dX9_wept_130 : decode cX9_wept 130 = .ok (.ireturn, 1) := by decide +kernel
theorem dX9_kinds_0 : decode cX9_kinds 0 = .ok (.aload_n 0, 1) := by decide +kernel
theorem dX9_kinds_1 : decode cX9_kinds 1 = .ok (.iload_n 1, 1) := by decide +kernel
theorem dX9_kinds_2 : decode cX9_kinds 2 = .ok (.invokevirtual 166, 3) := by decide +kernel
theorem dX9_kinds_5 : decode cX9_kinds 5 = .ok (.ifCond .ne 5, 3) := by decide +kernel
theorem dX9_kinds_8 : decode cX9_kinds 8 = .ok (.iconst (-1), 1) := by decide +kernel
theorem dX9_kinds_9 : decode cX9_kinds 9 = .ok (.ireturn, 1) := by decide +kernel
theorem dX9_kinds_10 : decode cX9_kinds 10 = .ok (.iconst 0, 1) := by decide +kernel
theorem dX9_kinds_11 : decode cX9_kinds 11 = .ok (.istore_n 2, 1) := by decide +kernel
theorem dX9_kinds_12 : decode cX9_kinds 12 = .ok (.aload_n 0, 1) := by decide +kernel
theorem dX9_kinds_13 : decode cX9_kinds 13 = .ok (.getfield 13, 3) := by decide +kernel
theorem dX9_kinds_16 : decode cX9_kinds 16 = .ok (.iload_n 1, 1) := by decide +kernel
theorem dX9_kinds_17 : decode cX9_kinds 17 = .ok (.iaload, 1) := by decide +kernel
theorem dX9_kinds_18 : decode cX9_kinds 18 = .ok (.istore_n 3, 1) := by decide +kernel
theorem dX9_kinds_19 : decode cX9_kinds 19 = .ok (.aload_n 0, 1) := by decide +kernel
theorem dX9_kinds_20 : decode cX9_kinds 20 = .ok (.invokevirtual 226, 3) := by decide +kernel
theorem dX9_kinds_23 : decode cX9_kinds 23 = .ok (.iconst 0, 1) := by decide +kernel
theorem dX9_kinds_24 : decode cX9_kinds 24 = .ok (.istore 4, 2) := by decide +kernel
theorem dX9_kinds_26 : decode cX9_kinds 26 = .ok (.iload 4, 2) := by decide +kernel
theorem dX9_kinds_28 : decode cX9_kinds 28 = .ok (.iconst 2, 1) := by decide +kernel
theorem dX9_kinds_29 : decode cX9_kinds 29 = .ok (.if_icmp .gt 36, 3) := by decide +kernel
theorem dX9_kinds_32 : decode cX9_kinds 32 = .ok (.aload_n 0, 1) := by decide +kernel
theorem dX9_kinds_33 : decode cX9_kinds 33 = .ok (.getfield 13, 3) := by decide +kernel
theorem dX9_kinds_36 : decode cX9_kinds 36 = .ok (.iload_n 1, 1) := by decide +kernel
theorem dX9_kinds_37 : decode cX9_kinds 37 = .ok (.iload 4, 2) := by decide +kernel
theorem dX9_kinds_39 : decode cX9_kinds 39 = .ok (.iastore, 1) := by decide +kernel
theorem dX9_kinds_40 : decode cX9_kinds 40 = .ok (.iload_n 2, 1) := by decide +kernel
theorem dX9_kinds_41 : decode cX9_kinds 41 = .ok (.aload_n 0, 1) := by decide +kernel
theorem dX9_kinds_42 : decode cX9_kinds 42 = .ok (.iload_n 1, 1) := by decide +kernel
theorem dX9_kinds_43 : decode cX9_kinds 43 = .ok (.invokevirtual 244, 3) := by decide +kernel
theorem dX9_kinds_46 : decode cX9_kinds 46 = .ok (.ifCond .eq 10, 3) := by decide +kernel
theorem dX9_kinds_49 : decode cX9_kinds 49 = .ok (.iconst 1, 1) := by decide +kernel
theorem dX9_kinds_50 : decode cX9_kinds 50 = .ok (.iload 4, 2) := by decide +kernel
theorem dX9_kinds_52 : decode cX9_kinds 52 = .ok (.ishl, 1) := by decide +kernel
theorem dX9_kinds_53 : decode cX9_kinds 53 = .ok (.goto 4, 3) := by decide +kernel
theorem dX9_kinds_56 : decode cX9_kinds 56 = .ok (.iconst 0, 1) := by decide +kernel
theorem dX9_kinds_57 : decode cX9_kinds 57 = .ok (.ior, 1) := by decide +kernel
theorem dX9_kinds_58 : decode cX9_kinds 58 = .ok (.istore_n 2, 1) := by decide +kernel
theorem dX9_kinds_59 : decode cX9_kinds 59 = .ok (.iinc 4 1, 3) := by decide +kernel
theorem dX9_kinds_62 : decode cX9_kinds 62 = .ok (.goto (-36), 3) := by decide +kernel
theorem dX9_kinds_65 : decode cX9_kinds 65 = .ok (.aload_n 0, 1) := by decide +kernel
theorem dX9_kinds_66 : decode cX9_kinds 66 = .ok (.getfield 13, 3) := by decide +kernel
theorem dX9_kinds_69 : decode cX9_kinds 69 = .ok (.iload_n 1, 1) := by decide +kernel
theorem dX9_kinds_70 : decode cX9_kinds 70 = .ok (.iload_n 3, 1) := by decide +kernel
theorem dX9_kinds_71 : decode cX9_kinds 71 = .ok (.iastore, 1) := by decide +kernel
theorem dX9_kinds_72 : decode cX9_kinds 72 = .ok (.iload_n 2, 1) := by decide +kernel
theorem dX9_kinds_73 : decode cX9_kinds 73 = .ok (.ireturn, 1) := by decide +kernel
theorem dX9_tears_0 : decode cX9_tears 0 = .ok (.iload_n 1, 1) := by decide +kernel
theorem dX9_tears_1 : decode cX9_tears 1 = .ok (.i2l, 1) := by decide +kernel
theorem dX9_tears_2 : decode cX9_tears 2 = .ok (.lconst 0, 1) := by decide +kernel
theorem dX9_tears_3 : decode cX9_tears 3 = .ok (.ldc2_w 221, 3) := by decide +kernel
theorem dX9_tears_6 : decode cX9_tears 6 = .ok (.invokestatic 92, 3) := by decide +kernel
theorem dX9_tears_9 : decode cX9_tears 9 = .ok (.ifCond .eq 25, 3) := by decide +kernel
theorem dX9_tears_12 : decode cX9_tears 12 = .ok (.iload_n 2, 1) := by decide +kernel
theorem dX9_tears_13 : decode cX9_tears 13 = .ok (.i2l, 1) := by decide +kernel
theorem dX9_tears_14 : decode cX9_tears 14 = .ok (.lconst 0, 1) := by decide +kernel
theorem dX9_tears_15 : decode cX9_tears 15 = .ok (.ldc2_w 247, 3) := by decide +kernel
theorem dX9_tears_18 : decode cX9_tears 18 = .ok (.invokestatic 92, 3) := by decide +kernel
theorem dX9_tears_21 : decode cX9_tears 21 = .ok (.ifCond .eq 13, 3) := by decide +kernel
theorem dX9_tears_24 : decode cX9_tears 24 = .ok (.iload_n 3, 1) := by decide +kernel
theorem dX9_tears_25 : decode cX9_tears 25 = .ok (.i2l, 1) := by decide +kernel
theorem dX9_tears_26 : decode cX9_tears 26 = .ok (.lconst 0, 1) := by decide +kernel
theorem dX9_tears_27 : decode cX9_tears 27 = .ok (.lconst 1, 1) := by decide +kernel
theorem dX9_tears_28 : decode cX9_tears 28 = .ok (.invokestatic 92, 3) := by decide +kernel
theorem dX9_tears_31 : decode cX9_tears 31 = .ok (.ifCond .ne 5, 3) := by decide +kernel
theorem dX9_tears_34 : decode cX9_tears 34 = .ok (.iconst (-1), 1) := by decide +kernel
theorem dX9_tears_35 : decode cX9_tears 35 = .ok (.ireturn, 1) := by decide +kernel
theorem dX9_tears_36 : decode cX9_tears 36 = .ok (.aload_n 0, 1) := by decide +kernel
theorem dX9_tears_37 : decode cX9_tears 37 = .ok (.invokevirtual 214, 3) := by decide +kernel
theorem dX9_tears_40 : decode cX9_tears 40 = .ok (.istore 4, 2) := by decide +kernel
theorem dX9_tears_42 : decode cX9_tears 42 = .ok (.iload 4, 2) := by decide +kernel
theorem dX9_tears_44 : decode cX9_tears 44 = .ok (.invokestatic 217, 3) := by decide +kernel
theorem dX9_tears_47 : decode cX9_tears 47 = .ok (.istore 5, 2) := by decide +kernel
theorem dX9_tears_49 : decode cX9_tears 49 = .ok (.iconst 0, 1) := by decide +kernel
theorem dX9_tears_50 : decode cX9_tears 50 = .ok (.istore 6, 2) := by decide +kernel
theorem dX9_tears_52 : decode cX9_tears 52 = .ok (.iconst 1, 1) := by decide +kernel
theorem dX9_tears_53 : decode cX9_tears 53 = .ok (.istore 7, 2) := by decide +kernel
theorem dX9_tears_55 : decode cX9_tears 55 = .ok (.iconst 0, 1) := by decide +kernel
theorem dX9_tears_56 : decode cX9_tears 56 = .ok (.istore 8, 2) := by decide +kernel
theorem dX9_tears_58 : decode cX9_tears 58 = .ok (.iload 8, 2) := by decide +kernel
theorem dX9_tears_60 : decode cX9_tears 60 = .ok (.iload 5, 2) := by decide +kernel
theorem dX9_tears_62 : decode cX9_tears 62 = .ok (.if_icmp .ge 16, 3) := by decide +kernel
theorem dX9_tears_65 : decode cX9_tears 65 = .ok (.iload 7, 2) := by decide +kernel
theorem dX9_tears_67 : decode cX9_tears 67 = .ok (.bipush 10, 2) := by decide +kernel
theorem dX9_tears_69 : decode cX9_tears 69 = .ok (.imul, 1) := by decide +kernel
theorem dX9_tears_70 : decode cX9_tears 70 = .ok (.istore 7, 2) := by decide +kernel
theorem dX9_tears_72 : decode cX9_tears 72 = .ok (.iinc 8 1, 3) := by decide +kernel
theorem dX9_tears_75 : decode cX9_tears 75 = .ok (.goto (-17), 3) := by decide +kernel
theorem dX9_tears_78 : decode cX9_tears 78 = .ok (.iconst 0, 1) := by decide +kernel
theorem dX9_tears_79 : decode cX9_tears 79 = .ok (.istore 8, 2) := by decide +kernel
theorem dX9_tears_81 : decode cX9_tears 81 = .ok (.iload 8, 2) := by decide +kernel
theorem dX9_tears_83 : decode cX9_tears 83 = .ok (.iconst 1, 1) := by decide +kernel
theorem dX9_tears_84 : decode cX9_tears 84 = .ok (.iload 5, 2) := by decide +kernel
theorem dX9_tears_86 : decode cX9_tears 86 = .ok (.ishl, 1) := by decide +kernel
theorem dX9_tears_87 : decode cX9_tears 87 = .ok (.if_icmp .ge 146, 3) := by decide +kernel
theorem dX9_tears_90 : decode cX9_tears 90 = .ok (.iconst 1, 1) := by decide +kernel
theorem dX9_tears_91 : decode cX9_tears 91 = .ok (.istore 9, 2) := by decide +kernel
theorem dX9_tears_93 : decode cX9_tears 93 = .ok (.iconst 0, 1) := by decide +kernel
theorem dX9_tears_94 : decode cX9_tears 94 = .ok (.istore 10, 2) := by decide +kernel
theorem dX9_tears_96 : decode cX9_tears 96 = .ok (.iconst 0, 1) := by decide +kernel
theorem dX9_tears_97 : decode cX9_tears 97 = .ok (.istore 11, 2) := by decide +kernel
theorem dX9_tears_99 : decode cX9_tears 99 = .ok (.aload_n 0, 1) := by decide +kernel
theorem dX9_tears_100 : decode cX9_tears 100 = .ok (.invokevirtual 226, 3) := by decide +kernel
theorem dX9_tears_103 : decode cX9_tears 103 = .ok (.iconst 0, 1) := by decide +kernel
theorem dX9_tears_104 : decode cX9_tears 104 = .ok (.istore 12, 2) := by decide +kernel
theorem dX9_tears_106 : decode cX9_tears 106 = .ok (.iload 12, 2) := by decide +kernel
theorem dX9_tears_108 : decode cX9_tears 108 = .ok (.aload_n 0, 1) := by decide +kernel
theorem dX9_tears_109 : decode cX9_tears 109 = .ok (.getfield 99, 3) := by decide +kernel
theorem dX9_tears_112 : decode cX9_tears 112 = .ok (.if_icmp .ge 98, 3) := by decide +kernel
theorem dX9_tears_115 : decode cX9_tears 115 = .ok (.iload 4, 2) := by decide +kernel
theorem dX9_tears_117 : decode cX9_tears 117 = .ok (.iload 12, 2) := by decide +kernel
theorem dX9_tears_119 : decode cX9_tears 119 = .ok (.invokestatic 197, 3) := by decide +kernel
theorem dX9_tears_122 : decode cX9_tears 122 = .ok (.ifCond .eq 82, 3) := by decide +kernel
theorem dX9_tears_125 : decode cX9_tears 125 = .ok (.iload 9, 2) := by decide +kernel
theorem dX9_tears_127 : decode cX9_tears 127 = .ok (.iload 8, 2) := by decide +kernel
theorem dX9_tears_129 : decode cX9_tears 129 = .ok (.iload 11, 2) := by decide +kernel
theorem dX9_tears_131 : decode cX9_tears 131 = .ok (.invokestatic 197, 3) := by decide +kernel
theorem dX9_tears_134 : decode cX9_tears 134 = .ok (.ifCond .eq 7, 3) := by decide +kernel
theorem dX9_tears_137 : decode cX9_tears 137 = .ok (.iload_n 2, 1) := by decide +kernel
theorem dX9_tears_138 : decode cX9_tears 138 = .ok (.goto 7, 3) := by decide +kernel
theorem dX9_tears_141 : decode cX9_tears 141 = .ok (.bipush 10, 2) := by decide +kernel
theorem dX9_tears_143 : decode cX9_tears 143 = .ok (.iload_n 2, 1) := by decide +kernel
theorem dX9_tears_144 : decode cX9_tears 144 = .ok (.isub, 1) := by decide +kernel
theorem dX9_tears_145 : decode cX9_tears 145 = .ok (.imul, 1) := by decide +kernel
theorem dX9_tears_146 : decode cX9_tears 146 = .ok (.istore 9, 2) := by decide +kernel
theorem dX9_tears_148 : decode cX9_tears 148 = .ok (.aload_n 0, 1) := by decide +kernel
theorem dX9_tears_149 : decode cX9_tears 149 = .ok (.bipush 19, 2) := by decide +kernel
theorem dX9_tears_151 : decode cX9_tears 151 = .ok (.aload_n 0, 1) := by decide +kernel
theorem dX9_tears_152 : decode cX9_tears 152 = .ok (.bipush 19, 2) := by decide +kernel
theorem dX9_tears_154 : decode cX9_tears 154 = .ok (.iload 12, 2) := by decide +kernel
theorem dX9_tears_156 : decode cX9_tears 156 = .ok (.invokevirtual 211, 3) := by decide +kernel
theorem dX9_tears_159 : decode cX9_tears 159 = .ok (.iload 12, 2) := by decide +kernel
theorem dX9_tears_161 : decode cX9_tears 161 = .ok (.iload 8, 2) := by decide +kernel
theorem dX9_tears_163 : decode cX9_tears 163 = .ok (.iload 11, 2) := by decide +kernel
theorem dX9_tears_165 : decode cX9_tears 165 = .ok (.invokestatic 197, 3) := by decide +kernel
theorem dX9_tears_168 : decode cX9_tears 168 = .ok (.invokevirtual 189, 3) := by decide +kernel
theorem dX9_tears_171 : decode cX9_tears 171 = .ok (.iload 10, 2) := by decide +kernel
theorem dX9_tears_173 : decode cX9_tears 173 = .ok (.aload_n 0, 1) := by decide +kernel
theorem dX9_tears_174 : decode cX9_tears 174 = .ok (.getfield 7, 3) := by decide +kernel
theorem dX9_tears_177 : decode cX9_tears 177 = .ok (.bipush 30, 2) := by decide +kernel
theorem dX9_tears_179 : decode cX9_tears 179 = .ok (.iload 12, 2) := by decide +kernel
theorem dX9_tears_181 : decode cX9_tears 181 = .ok (.iadd, 1) := by decide +kernel
theorem dX9_tears_182 : decode cX9_tears 182 = .ok (.iaload, 1) := by decide +kernel
theorem dX9_tears_183 : decode cX9_tears 183 = .ok (.aload_n 0, 1) := by decide +kernel
theorem dX9_tears_184 : decode cX9_tears 184 = .ok (.getfield 28, 3) := by decide +kernel
theorem dX9_tears_187 : decode cX9_tears 187 = .ok (.iload 12, 2) := by decide +kernel
theorem dX9_tears_189 : decode cX9_tears 189 = .ok (.iaload, 1) := by decide +kernel
theorem dX9_tears_190 : decode cX9_tears 190 = .ok (.if_icmp .le 7, 3) := by decide +kernel
theorem dX9_tears_193 : decode cX9_tears 193 = .ok (.iconst 1, 1) := by decide +kernel
theorem dX9_tears_194 : decode cX9_tears 194 = .ok (.goto 4, 3) := by decide +kernel
theorem dX9_tears_197 : decode cX9_tears 197 = .ok (.iconst 0, 1) := by decide +kernel
theorem dX9_tears_198 : decode cX9_tears 198 = .ok (.iadd, 1) := by decide +kernel
theorem dX9_tears_199 : decode cX9_tears 199 = .ok (.istore 10, 2) := by decide +kernel
theorem dX9_tears_201 : decode cX9_tears 201 = .ok (.iinc 11 1, 3) := by decide +kernel
theorem dX9_tears_204 : decode cX9_tears 204 = .ok (.iinc 12 1, 3) := by decide +kernel
theorem dX9_tears_207 : decode cX9_tears 207 = .ok (.goto (-101), 3) := by decide +kernel
theorem dX9_tears_210 : decode cX9_tears 210 = .ok (.iload 6, 2) := by decide +kernel
theorem dX9_tears_212 : decode cX9_tears 212 = .ok (.iload 10, 2) := by decide +kernel
theorem dX9_tears_214 : decode cX9_tears 214 = .ok (.iload_n 1, 1) := by decide +kernel
theorem dX9_tears_215 : decode cX9_tears 215 = .ok (.if_icmp .lt 8, 3) := by decide +kernel
theorem dX9_tears_218 : decode cX9_tears 218 = .ok (.iload 9, 2) := by decide +kernel
theorem dX9_tears_220 : decode cX9_tears 220 = .ok (.goto 4, 3) := by decide +kernel
theorem dX9_tears_223 : decode cX9_tears 223 = .ok (.iconst 0, 1) := by decide +kernel
theorem dX9_tears_224 : decode cX9_tears 224 = .ok (.iadd, 1) := by decide +kernel
theorem dX9_tears_225 : decode cX9_tears 225 = .ok (.istore 6, 2) := by decide +kernel
theorem dX9_tears_227 : decode cX9_tears 227 = .ok (.iinc 8 1, 3) := by decide +kernel
theorem dX9_tears_230 : decode cX9_tears 230 = .ok (.goto (-149), 3) := by decide +kernel
theorem dX9_tears_233 : decode cX9_tears 233 = .ok (.iload 6, 2) := by decide +kernel
theorem dX9_tears_235 : decode cX9_tears 235 = .ok (.istore 8, 2) := by decide +kernel
theorem dX9_tears_237 : decode cX9_tears 237 = .ok (.iload 7, 2) := by decide +kernel
theorem dX9_tears_239 : decode cX9_tears 239 = .ok (.istore 9, 2) := by decide +kernel
theorem dX9_tears_241 : decode cX9_tears 241 = .ok (.iload 9, 2) := by decide +kernel
theorem dX9_tears_243 : decode cX9_tears 243 = .ok (.ifCond .eq 21, 3) := by decide +kernel
theorem dX9_tears_246 : decode cX9_tears 246 = .ok (.iload 8, 2) := by decide +kernel
theorem dX9_tears_248 : decode cX9_tears 248 = .ok (.iload 9, 2) := by decide +kernel
theorem dX9_tears_250 : decode cX9_tears 250 = .ok (.irem, 1) := by decide +kernel
theorem dX9_tears_251 : decode cX9_tears 251 = .ok (.istore 10, 2) := by decide +kernel
theorem dX9_tears_253 : decode cX9_tears 253 = .ok (.iload 9, 2) := by decide +kernel
theorem dX9_tears_255 : decode cX9_tears 255 = .ok (.istore 8, 2) := by decide +kernel
theorem dX9_tears_257 : decode cX9_tears 257 = .ok (.iload 10, 2) := by decide +kernel
theorem dX9_tears_259 : decode cX9_tears 259 = .ok (.istore 9, 2) := by decide +kernel
theorem dX9_tears_261 : decode cX9_tears 261 = .ok (.goto (-20), 3) := by decide +kernel
theorem dX9_tears_264 : decode cX9_tears 264 = .ok (.iload_n 3, 1) := by decide +kernel
theorem dX9_tears_265 : decode cX9_tears 265 = .ok (.ifCond .ne 11, 3) := by decide +kernel
theorem dX9_tears_268 : decode cX9_tears 268 = .ok (.iload 6, 2) := by decide +kernel
theorem dX9_tears_270 : decode cX9_tears 270 = .ok (.iload 8, 2) := by decide +kernel
theorem dX9_tears_272 : decode cX9_tears 272 = .ok (.idiv, 1) := by decide +kernel
theorem dX9_tears_273 : decode cX9_tears 273 = .ok (.goto 8, 3) := by decide +kernel
theorem dX9_tears_276 : decode cX9_tears 276 = .ok (.iload 7, 2) := by decide +kernel
theorem dX9_tears_278 : decode cX9_tears 278 = .ok (.iload 8, 2) := by decide +kernel
theorem dX9_tears_280 : decode cX9_tears 280 = .ok (.idiv, 1) := by decide +kernel
theorem dX9_tears_281 : decode cX9_tears 281 = .ok (.ireturn, 1) := by decide +kernel
theorem dX9_year_0 : decode cX9_year 0 = .ok (.iload_n 1, 1) := by decide +kernel
theorem dX9_year_1 : decode cX9_year 1 = .ok (.i2l, 1) := by decide +kernel
theorem dX9_year_2 : decode cX9_year 2 = .ok (.lconst 0, 1) := by decide +kernel
theorem dX9_year_3 : decode cX9_year 3 = .ok (.ldc2_w 249, 3) := by decide +kernel
theorem dX9_year_6 : decode cX9_year 6 = .ok (.invokestatic 92, 3) := by decide +kernel
theorem dX9_year_9 : decode cX9_year 9 = .ok (.ifCond .eq 25, 3) := by decide +kernel
theorem dX9_year_12 : decode cX9_year 12 = .ok (.iload_n 2, 1) := by decide +kernel
theorem dX9_year_13 : decode cX9_year 13 = .ok (.i2l, 1) := by decide +kernel
theorem dX9_year_14 : decode cX9_year 14 = .ok (.lconst 1, 1) := by decide +kernel
theorem dX9_year_15 : decode cX9_year 15 = .ok (.ldc2_w 251, 3) := by decide +kernel
theorem dX9_year_18 : decode cX9_year 18 = .ok (.invokestatic 92, 3) := by decide +kernel
theorem dX9_year_21 : decode cX9_year 21 = .ok (.ifCond .eq 13, 3) := by decide +kernel
theorem dX9_year_24 : decode cX9_year 24 = .ok (.iload_n 3, 1) := by decide +kernel
theorem dX9_year_25 : decode cX9_year 25 = .ok (.i2l, 1) := by decide +kernel
theorem dX9_year_26 : decode cX9_year 26 = .ok (.lconst 0, 1) := by decide +kernel
theorem dX9_year_27 : decode cX9_year 27 = .ok (.lconst 1, 1) := by decide +kernel
theorem dX9_year_28 : decode cX9_year 28 = .ok (.invokestatic 92, 3) := by decide +kernel
theorem dX9_year_31 : decode cX9_year 31 = .ok (.ifCond .ne 5, 3) := by decide +kernel
theorem dX9_year_34 : decode cX9_year 34 = .ok (.iconst (-1), 1) := by decide +kernel
theorem dX9_year_35 : decode cX9_year 35 = .ok (.ireturn, 1) := by decide +kernel
theorem dX9_year_36 : decode cX9_year 36 = .ok (.aload_n 0, 1) := by decide +kernel
theorem dX9_year_37 : decode cX9_year 37 = .ok (.invokevirtual 226, 3) := by decide +kernel
theorem dX9_year_40 : decode cX9_year 40 = .ok (.iconst 0, 1) := by decide +kernel
theorem dX9_year_41 : decode cX9_year 41 = .ok (.istore 4, 2) := by decide +kernel
theorem dX9_year_43 : decode cX9_year 43 = .ok (.iconst 0, 1) := by decide +kernel
theorem dX9_year_44 : decode cX9_year 44 = .ok (.istore 5, 2) := by decide +kernel
theorem dX9_year_46 : decode cX9_year 46 = .ok (.iconst 0, 1) := by decide +kernel
theorem dX9_year_47 : decode cX9_year 47 = .ok (.istore 6, 2) := by decide +kernel
theorem dX9_year_49 : decode cX9_year 49 = .ok (.iload 6, 2) := by decide +kernel
theorem dX9_year_51 : decode cX9_year 51 = .ok (.iload_n 2, 1) := by decide +kernel
theorem dX9_year_52 : decode cX9_year 52 = .ok (.if_icmp .ge 111, 3) := by decide +kernel
theorem dX9_year_55 : decode cX9_year 55 = .ok (.ldc2_w 253, 3) := by decide +kernel
theorem dX9_year_58 : decode cX9_year 58 = .ok (.iload_n 1, 1) := by decide +kernel
theorem dX9_year_59 : decode cX9_year 59 = .ok (.i2l, 1) := by decide +kernel
theorem dX9_year_60 : decode cX9_year 60 = .ok (.lmul, 1) := by decide +kernel
theorem dX9_year_61 : decode cX9_year 61 = .ok (.ldc2_w 255, 3) := by decide +kernel
theorem dX9_year_64 : decode cX9_year 64 = .ok (.iload 6, 2) := by decide +kernel
theorem dX9_year_66 : decode cX9_year 66 = .ok (.i2l, 1) := by decide +kernel
theorem dX9_year_67 : decode cX9_year 67 = .ok (.lmul, 1) := by decide +kernel
theorem dX9_year_68 : decode cX9_year 68 = .ok (.ladd, 1) := by decide +kernel
theorem dX9_year_69 : decode cX9_year 69 = .ok (.lconst 1, 1) := by decide +kernel
theorem dX9_year_70 : decode cX9_year 70 = .ok (.ladd, 1) := by decide +kernel
theorem dX9_year_71 : decode cX9_year 71 = .ok (.lstore 7, 2) := by decide +kernel
theorem dX9_year_73 : decode cX9_year 73 = .ok (.lload 7, 2) := by decide +kernel
theorem dX9_year_75 : decode cX9_year 75 = .ok (.lload 7, 2) := by decide +kernel
theorem dX9_year_77 : decode cX9_year 77 = .ok (.lmul, 1) := by decide +kernel
theorem dX9_year_78 : decode cX9_year 78 = .ok (.ldc2_w 257, 3) := by decide +kernel
theorem dX9_year_81 : decode cX9_year 81 = .ok (.lrem, 1) := by decide +kernel
theorem dX9_year_82 : decode cX9_year 82 = .ok (.l2i, 1) := by decide +kernel
theorem dX9_year_83 : decode cX9_year 83 = .ok (.istore 9, 2) := by decide +kernel
theorem dX9_year_85 : decode cX9_year 85 = .ok (.iload 9, 2) := by decide +kernel
theorem dX9_year_87 : decode cX9_year 87 = .ok (.iconst 4, 1) := by decide +kernel
theorem dX9_year_88 : decode cX9_year 88 = .ok (.idiv, 1) := by decide +kernel
theorem dX9_year_89 : decode cX9_year 89 = .ok (.aload_n 0, 1) := by decide +kernel
theorem dX9_year_90 : decode cX9_year 90 = .ok (.getfield 99, 3) := by decide +kernel
theorem dX9_year_93 : decode cX9_year 93 = .ok (.irem, 1) := by decide +kernel
theorem dX9_year_94 : decode cX9_year 94 = .ok (.istore 10, 2) := by decide +kernel
theorem dX9_year_96 : decode cX9_year 96 = .ok (.iload 4, 2) := by decide +kernel
theorem dX9_year_98 : decode cX9_year 98 = .ok (.aload_n 0, 1) := by decide +kernel
theorem dX9_year_99 : decode cX9_year 99 = .ok (.bipush 19, 2) := by decide +kernel
theorem dX9_year_101 : decode cX9_year 101 = .ok (.iload 9, 2) := by decide +kernel
theorem dX9_year_103 : decode cX9_year 103 = .ok (.aload_n 0, 1) := by decide +kernel
theorem dX9_year_104 : decode cX9_year 104 = .ok (.getfield 96, 3) := by decide +kernel
theorem dX9_year_107 : decode cX9_year 107 = .ok (.irem, 1) := by decide +kernel
theorem dX9_year_108 : decode cX9_year 108 = .ok (.iload 10, 2) := by decide +kernel
theorem dX9_year_110 : decode cX9_year 110 = .ok (.invokevirtual 203, 3) := by decide +kernel
theorem dX9_year_113 : decode cX9_year 113 = .ok (.ifCond .eq 7, 3) := by decide +kernel
theorem dX9_year_116 : decode cX9_year 116 = .ok (.iconst 1, 1) := by decide +kernel
theorem dX9_year_117 : decode cX9_year 117 = .ok (.goto 4, 3) := by decide +kernel
theorem dX9_year_120 : decode cX9_year 120 = .ok (.iconst 0, 1) := by decide +kernel
theorem dX9_year_121 : decode cX9_year 121 = .ok (.iadd, 1) := by decide +kernel
theorem dX9_year_122 : decode cX9_year 122 = .ok (.istore 4, 2) := by decide +kernel
theorem dX9_year_124 : decode cX9_year 124 = .ok (.iload 5, 2) := by decide +kernel
theorem dX9_year_126 : decode cX9_year 126 = .ok (.aload_n 0, 1) := by decide +kernel
theorem dX9_year_127 : decode cX9_year 127 = .ok (.getfield 7, 3) := by decide +kernel
theorem dX9_year_130 : decode cX9_year 130 = .ok (.bipush 30, 2) := by decide +kernel
theorem dX9_year_132 : decode cX9_year 132 = .ok (.iload 10, 2) := by decide +kernel
theorem dX9_year_134 : decode cX9_year 134 = .ok (.iadd, 1) := by decide +kernel
theorem dX9_year_135 : decode cX9_year 135 = .ok (.iaload, 1) := by decide +kernel
theorem dX9_year_136 : decode cX9_year 136 = .ok (.iadd, 1) := by decide +kernel
theorem dX9_year_137 : decode cX9_year 137 = .ok (.istore 5, 2) := by decide +kernel
theorem dX9_year_139 : decode cX9_year 139 = .ok (.aload_n 0, 1) := by decide +kernel
theorem dX9_year_140 : decode cX9_year 140 = .ok (.getfield 7, 3) := by decide +kernel
theorem dX9_year_143 : decode cX9_year 143 = .ok (.bipush 19, 2) := by decide +kernel
theorem dX9_year_145 : decode cX9_year 145 = .ok (.dup2, 1) := by decide +kernel
theorem dX9_year_146 : decode cX9_year 146 = .ok (.iaload, 1) := by decide +kernel
theorem dX9_year_147 : decode cX9_year 147 = .ok (.iload 9, 2) := by decide +kernel
theorem dX9_year_149 : decode cX9_year 149 = .ok (.bipush 64, 2) := by decide +kernel
theorem dX9_year_151 : decode cX9_year 151 = .ok (.idiv, 1) := by decide +kernel
theorem dX9_year_152 : decode cX9_year 152 = .ok (.bipush 8, 2) := by decide +kernel
theorem dX9_year_154 : decode cX9_year 154 = .ok (.irem, 1) := by decide +kernel
theorem dX9_year_155 : decode cX9_year 155 = .ok (.iadd, 1) := by decide +kernel
theorem dX9_year_156 : decode cX9_year 156 = .ok (.iastore, 1) := by decide +kernel
theorem dX9_year_157 : decode cX9_year 157 = .ok (.iinc 6 1, 3) := by decide +kernel
theorem dX9_year_160 : decode cX9_year 160 = .ok (.goto (-111), 3) := by decide +kernel
theorem dX9_year_163 : decode cX9_year 163 = .ok (.iload_n 3, 1) := by decide +kernel
theorem dX9_year_164 : decode cX9_year 164 = .ok (.ifCond .ne 8, 3) := by decide +kernel
theorem dX9_year_167 : decode cX9_year 167 = .ok (.iload 4, 2) := by decide +kernel
theorem dX9_year_169 : decode cX9_year 169 = .ok (.goto 5, 3) := by decide +kernel
theorem dX9_year_172 : decode cX9_year 172 = .ok (.iload 5, 2) := by decide +kernel
theorem dX9_year_174 : decode cX9_year 174 = .ok (.ireturn, 1) := by decide +kernel
theorem dX9_keep_0 : decode cX9_keep 0 = .ok (.aload_n 0, 1) := by decide +kernel
theorem dX9_keep_1 : decode cX9_keep 1 = .ok (.getfield 111, 3) := by decide +kernel
theorem dX9_keep_4 : decode cX9_keep 4 = .ok (.iconst 2, 1) := by decide +kernel
theorem dX9_keep_5 : decode cX9_keep 5 = .ok (.if_icmp .ne 6, 3) := by decide +kernel
theorem dX9_keep_8 : decode cX9_keep 8 = .ok (.bipush (-3), 2) := by decide +kernel
theorem dX9_keep_10 : decode cX9_keep 10 = .ok (.ireturn, 1) := by decide +kernel
theorem dX9_keep_11 : decode cX9_keep 11 = .ok (.aload_n 0, 1) := by decide +kernel
theorem dX9_keep_12 : decode cX9_keep 12 = .ok (.iconst 0, 1) := by decide +kernel
theorem dX9_keep_13 : decode cX9_keep 13 = .ok (.bipush 38, 2) := by decide +kernel
theorem dX9_keep_15 : decode cX9_keep 15 = .ok (.bipush 19, 2) := by decide +kernel
theorem dX9_keep_17 : decode cX9_keep 17 = .ok (.aload_n 0, 1) := by decide +kernel
theorem dX9_keep_18 : decode cX9_keep 18 = .ok (.getfield 111, 3) := by decide +kernel
theorem dX9_keep_21 : decode cX9_keep 21 = .ok (.imul, 1) := by decide +kernel
theorem dX9_keep_22 : decode cX9_keep 22 = .ok (.iadd, 1) := by decide +kernel
theorem dX9_keep_23 : decode cX9_keep 23 = .ok (.invokevirtual 193, 3) := by decide +kernel
theorem dX9_keep_26 : decode cX9_keep 26 = .ok (.aload_n 0, 1) := by decide +kernel
theorem dX9_keep_27 : decode cX9_keep 27 = .ok (.dup, 1) := by decide +kernel
theorem dX9_keep_28 : decode cX9_keep 28 = .ok (.getfield 111, 3) := by decide +kernel
theorem dX9_keep_31 : decode cX9_keep 31 = .ok (.iconst 1, 1) := by decide +kernel
theorem dX9_keep_32 : decode cX9_keep 32 = .ok (.iadd, 1) := by decide +kernel
theorem dX9_keep_33 : decode cX9_keep 33 = .ok (.putfield 111, 3) := by decide +kernel
theorem dX9_keep_36 : decode cX9_keep 36 = .ok (.aload_n 0, 1) := by decide +kernel
theorem dX9_keep_37 : decode cX9_keep 37 = .ok (.getfield 111, 3) := by decide +kernel
theorem dX9_keep_40 : decode cX9_keep 40 = .ok (.ireturn, 1) := by decide +kernel
theorem dX9_back_0 : decode cX9_back 0 = .ok (.aload_n 0, 1) := by decide +kernel
theorem dX9_back_1 : decode cX9_back 1 = .ok (.getfield 111, 3) := by decide +kernel
theorem dX9_back_4 : decode cX9_back 4 = .ok (.ifCond .ne 6, 3) := by decide +kernel
theorem dX9_back_7 : decode cX9_back 7 = .ok (.bipush (-2), 2) := by decide +kernel
theorem dX9_back_9 : decode cX9_back 9 = .ok (.ireturn, 1) := by decide +kernel
theorem dX9_back_10 : decode cX9_back 10 = .ok (.aload_n 0, 1) := by decide +kernel
theorem dX9_back_11 : decode cX9_back 11 = .ok (.dup, 1) := by decide +kernel
theorem dX9_back_12 : decode cX9_back 12 = .ok (.getfield 111, 3) := by decide +kernel
theorem dX9_back_15 : decode cX9_back 15 = .ok (.iconst 1, 1) := by decide +kernel
theorem dX9_back_16 : decode cX9_back 16 = .ok (.isub, 1) := by decide +kernel
theorem dX9_back_17 : decode cX9_back 17 = .ok (.putfield 111, 3) := by decide +kernel
theorem dX9_back_20 : decode cX9_back 20 = .ok (.aload_n 0, 1) := by decide +kernel
theorem dX9_back_21 : decode cX9_back 21 = .ok (.bipush 38, 2) := by decide +kernel
theorem dX9_back_23 : decode cX9_back 23 = .ok (.bipush 19, 2) := by decide +kernel
theorem dX9_back_25 : decode cX9_back 25 = .ok (.aload_n 0, 1) := by decide +kernel
theorem dX9_back_26 : decode cX9_back 26 = .ok (.getfield 111, 3) := by decide +kernel
theorem dX9_back_29 : decode cX9_back 29 = .ok (.imul, 1) := by decide +kernel
theorem dX9_back_30 : decode cX9_back 30 = .ok (.iadd, 1) := by decide +kernel
theorem dX9_back_31 : decode cX9_back 31 = .ok (.iconst 0, 1) := by decide +kernel
theorem dX9_back_32 : decode cX9_back 32 = .ok (.invokevirtual 193, 3) := by decide +kernel
theorem dX9_back_35 : decode cX9_back 35 = .ok (.aload_n 0, 1) := by decide +kernel
theorem dX9_back_36 : decode cX9_back 36 = .ok (.iconst 0, 1) := by decide +kernel
theorem dX9_back_37 : decode cX9_back 37 = .ok (.putfield 108, 3) := by decide +kernel
theorem dX9_back_40 : decode cX9_back 40 = .ok (.aload_n 0, 1) := by decide +kernel
theorem dX9_back_41 : decode cX9_back 41 = .ok (.getfield 111, 3) := by decide +kernel
theorem dX9_back_44 : decode cX9_back 44 = .ok (.ireturn, 1) := by decide +kernel
theorem dX9_count_0 : decode cX9_count 0 = .ok (.iload_n 1, 1) := by decide +kernel
theorem dX9_count_1 : decode cX9_count 1 = .ok (.tableswitch 128 0 10 #[59, 64, 69, 74, 79, 86, 97, 108, 113, 118, 123], 59) := by decide +kernel
theorem dX9_count_60 : decode cX9_count 60 = .ok (.aload_n 0, 1) := by decide +kernel
theorem dX9_count_61 : decode cX9_count 61 = .ok (.invokevirtual 88, 3) := by decide +kernel
theorem dX9_count_64 : decode cX9_count 64 = .ok (.ireturn, 1) := by decide +kernel
theorem dX9_count_65 : decode cX9_count 65 = .ok (.aload_n 0, 1) := by decide +kernel
theorem dX9_count_66 : decode cX9_count 66 = .ok (.getfield 85, 3) := by decide +kernel
theorem dX9_count_69 : decode cX9_count 69 = .ok (.ireturn, 1) := by decide +kernel
theorem dX9_count_70 : decode cX9_count 70 = .ok (.aload_n 0, 1) := by decide +kernel
theorem dX9_count_71 : decode cX9_count 71 = .ok (.getfield 96, 3) := by decide +kernel
theorem dX9_count_74 : decode cX9_count 74 = .ok (.ireturn, 1) := by decide +kernel
theorem dX9_count_75 : decode cX9_count 75 = .ok (.aload_n 0, 1) := by decide +kernel
theorem dX9_count_76 : decode cX9_count 76 = .ok (.getfield 99, 3) := by decide +kernel
theorem dX9_count_79 : decode cX9_count 79 = .ok (.ireturn, 1) := by decide +kernel
theorem dX9_count_80 : decode cX9_count 80 = .ok (.aload_n 0, 1) := by decide +kernel
theorem dX9_count_81 : decode cX9_count 81 = .ok (.getfield 7, 3) := by decide +kernel
theorem dX9_count_84 : decode cX9_count 84 = .ok (.iconst 0, 1) := by decide +kernel
theorem dX9_count_85 : decode cX9_count 85 = .ok (.iaload, 1) := by decide +kernel
theorem dX9_count_86 : decode cX9_count 86 = .ok (.ireturn, 1) := by decide +kernel
theorem dX9_count_87 : decode cX9_count 87 = .ok (.aload_n 0, 1) := by decide +kernel
theorem dX9_count_88 : decode cX9_count 88 = .ok (.getfield 7, 3) := by decide +kernel
theorem dX9_count_91 : decode cX9_count 91 = .ok (.bipush 10, 2) := by decide +kernel
theorem dX9_count_93 : decode cX9_count 93 = .ok (.iaload, 1) := by decide +kernel
theorem dX9_count_94 : decode cX9_count 94 = .ok (.invokestatic 217, 3) := by decide +kernel
theorem dX9_count_97 : decode cX9_count 97 = .ok (.ireturn, 1) := by decide +kernel
theorem dX9_count_98 : decode cX9_count 98 = .ok (.aload_n 0, 1) := by decide +kernel
theorem dX9_count_99 : decode cX9_count 99 = .ok (.getfield 7, 3) := by decide +kernel
theorem dX9_count_102 : decode cX9_count 102 = .ok (.bipush 18, 2) := by decide +kernel
theorem dX9_count_104 : decode cX9_count 104 = .ok (.iaload, 1) := by decide +kernel
theorem dX9_count_105 : decode cX9_count 105 = .ok (.invokestatic 217, 3) := by decide +kernel
theorem dX9_count_108 : decode cX9_count 108 = .ok (.ireturn, 1) := by decide +kernel
theorem dX9_count_109 : decode cX9_count 109 = .ok (.aload_n 0, 1) := by decide +kernel
theorem dX9_count_110 : decode cX9_count 110 = .ok (.getfield 114, 3) := by decide +kernel
theorem dX9_count_113 : decode cX9_count 113 = .ok (.ireturn, 1) := by decide +kernel
theorem dX9_count_114 : decode cX9_count 114 = .ok (.aload_n 0, 1) := by decide +kernel
theorem dX9_count_115 : decode cX9_count 115 = .ok (.getfield 108, 3) := by decide +kernel
theorem dX9_count_118 : decode cX9_count 118 = .ok (.ireturn, 1) := by decide +kernel
theorem dX9_count_119 : decode cX9_count 119 = .ok (.aload_n 0, 1) := by decide +kernel
theorem dX9_count_120 : decode cX9_count 120 = .ok (.getfield 111, 3) := by decide +kernel
theorem dX9_count_123 : decode cX9_count 123 = .ok (.ireturn, 1) := by decide +kernel
theorem dX9_count_124 : decode cX9_count 124 = .ok (.aload_n 0, 1) := by decide +kernel
theorem dX9_count_125 : decode cX9_count 125 = .ok (.getfield 121, 3) := by decide +kernel
theorem dX9_count_128 : decode cX9_count 128 = .ok (.ireturn, 1) := by decide +kernel
theorem dX9_count_129 : decode cX9_count 129 = .ok (.iconst (-1), 1) := by decide +kernel
theorem dX9_count_130 : decode cX9_count 130 = .ok (.ireturn, 1) := by decide +kernel
