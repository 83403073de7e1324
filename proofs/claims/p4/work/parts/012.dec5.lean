theorem dX11_stands_29 : decode cX11_stands 29 = .ok (.ireturn, 1) := by decide +kernel
theorem dX11_parts_0 : decode cX11_parts 0 = .ok (.iload_n 1, 1) := by decide +kernel
theorem dX11_parts_1 : decode cX11_parts 1 = .ok (.i2l, 1) := by decide +kernel
theorem dX11_parts_2 : decode cX11_parts 2 = .ok (.lconst 0, 1) := by decide +kernel
theorem dX11_parts_3 : decode cX11_parts 3 = .ok (.lconst 1, 1) := by decide +kernel
theorem dX11_parts_4 : decode cX11_parts 4 = .ok (.invokestatic 69, 3) := by decide +kernel
theorem dX11_parts_7 : decode cX11_parts 7 = .ok (.ifCond .ne 26, 3) := by decide +kernel
theorem dX11_parts_10 : decode cX11_parts 10 = .ok (.iload_n 1, 1) := by decide +kernel
theorem dX11_parts_11 : decode cX11_parts 11 = .ok (.i2l, 1) := by decide +kernel
theorem dX11_parts_12 : decode cX11_parts 12 = .ok (.ldc2_w 164, 3) := by decide +kernel
theorem dX11_parts_15 : decode cX11_parts 15 = .ok (.bipush 8, 2) := by decide +kernel
theorem dX11_parts_17 : decode cX11_parts 17 = .ok (.aload_n 0, 1) := by decide +kernel
theorem dX11_parts_18 : decode cX11_parts 18 = .ok (.getfield 19, 3) := by decide +kernel
theorem dX11_parts_21 : decode cX11_parts 21 = .ok (.iconst 1, 1) := by decide +kernel
theorem dX11_parts_22 : decode cX11_parts 22 = .ok (.iaload, 1) := by decide +kernel
theorem dX11_parts_23 : decode cX11_parts 23 = .ok (.iadd, 1) := by decide +kernel
theorem dX11_parts_24 : decode cX11_parts 24 = .ok (.i2l, 1) := by decide +kernel
theorem dX11_parts_25 : decode cX11_parts 25 = .ok (.invokestatic 69, 3) := by decide +kernel
theorem dX11_parts_28 : decode cX11_parts 28 = .ok (.ifCond .ne 5, 3) := by decide +kernel
theorem dX11_parts_31 : decode cX11_parts 31 = .ok (.iconst (-1), 1) := by decide +kernel
theorem dX11_parts_32 : decode cX11_parts 32 = .ok (.ireturn, 1) := by decide +kernel
theorem dX11_parts_33 : decode cX11_parts 33 = .ok (.aload_n 0, 1) := by decide +kernel
theorem dX11_parts_34 : decode cX11_parts 34 = .ok (.getfield 19, 3) := by decide +kernel
theorem dX11_parts_37 : decode cX11_parts 37 = .ok (.iconst 0, 1) := by decide +kernel
theorem dX11_parts_38 : decode cX11_parts 38 = .ok (.iaload, 1) := by decide +kernel
theorem dX11_parts_39 : decode cX11_parts 39 = .ok (.aload_n 0, 1) := by decide +kernel
theorem dX11_parts_40 : decode cX11_parts 40 = .ok (.getfield 19, 3) := by decide +kernel
theorem dX11_parts_43 : decode cX11_parts 43 = .ok (.iconst 1, 1) := by decide +kernel
theorem dX11_parts_44 : decode cX11_parts 44 = .ok (.iaload, 1) := by decide +kernel
theorem dX11_parts_45 : decode cX11_parts 45 = .ok (.if_icmp .ge 6, 3) := by decide +kernel
theorem dX11_parts_48 : decode cX11_parts 48 = .ok (.bipush (-4), 2) := by decide +kernel
theorem dX11_parts_50 : decode cX11_parts 50 = .ok (.ireturn, 1) := by decide +kernel
theorem dX11_parts_51 : decode cX11_parts 51 = .ok (.iconst 0, 1) := by decide +kernel
theorem dX11_parts_52 : decode cX11_parts 52 = .ok (.istore_n 2, 1) := by decide +kernel
theorem dX11_parts_53 : decode cX11_parts 53 = .ok (.iconst 0, 1) := by decide +kernel
theorem dX11_parts_54 : decode cX11_parts 54 = .ok (.istore_n 3, 1) := by decide +kernel
theorem dX11_parts_55 : decode cX11_parts 55 = .ok (.iload_n 3, 1) := by decide +kernel
theorem dX11_parts_56 : decode cX11_parts 56 = .ok (.iconst 1, 1) := by decide +kernel
theorem dX11_parts_57 : decode cX11_parts 57 = .ok (.aload_n 0, 1) := by decide +kernel
theorem dX11_parts_58 : decode cX11_parts 58 = .ok (.getfield 19, 3) := by decide +kernel
theorem dX11_parts_61 : decode cX11_parts 61 = .ok (.iconst 0, 1) := by decide +kernel
theorem dX11_parts_62 : decode cX11_parts 62 = .ok (.iaload, 1) := by decide +kernel
theorem dX11_parts_63 : decode cX11_parts 63 = .ok (.ishl, 1) := by decide +kernel
theorem dX11_parts_64 : decode cX11_parts 64 = .ok (.if_icmp .ge 175, 3) := by decide +kernel
theorem dX11_parts_67 : decode cX11_parts 67 = .ok (.iconst 0, 1) := by decide +kernel
theorem dX11_parts_68 : decode cX11_parts 68 = .ok (.istore 4, 2) := by decide +kernel
theorem dX11_parts_70 : decode cX11_parts 70 = .ok (.aload_n 0, 1) := by decide +kernel
theorem dX11_parts_71 : decode cX11_parts 71 = .ok (.invokevirtual 243, 3) := by decide +kernel
theorem dX11_parts_74 : decode cX11_parts 74 = .ok (.aload_n 0, 1) := by decide +kernel
theorem dX11_parts_75 : decode cX11_parts 75 = .ok (.iconst 2, 1) := by decide +kernel
theorem dX11_parts_76 : decode cX11_parts 76 = .ok (.putfield 192, 3) := by decide +kernel
theorem dX11_parts_79 : decode cX11_parts 79 = .ok (.iconst 1, 1) := by decide +kernel
theorem dX11_parts_80 : decode cX11_parts 80 = .ok (.istore 5, 2) := by decide +kernel
theorem dX11_parts_82 : decode cX11_parts 82 = .ok (.iload 5, 2) := by decide +kernel
theorem dX11_parts_84 : decode cX11_parts 84 = .ok (.aload_n 0, 1) := by decide +kernel
theorem dX11_parts_85 : decode cX11_parts 85 = .ok (.getfield 19, 3) := by decide +kernel
theorem dX11_parts_88 : decode cX11_parts 88 = .ok (.iconst 0, 1) := by decide +kernel
theorem dX11_parts_89 : decode cX11_parts 89 = .ok (.iaload, 1) := by decide +kernel
theorem dX11_parts_90 : decode cX11_parts 90 = .ok (.if_icmp .ge 44, 3) := by decide +kernel
theorem dX11_parts_93 : decode cX11_parts 93 = .ok (.iload_n 3, 1) := by decide +kernel
theorem dX11_parts_94 : decode cX11_parts 94 = .ok (.iload 5, 2) := by decide +kernel
theorem dX11_parts_96 : decode cX11_parts 96 = .ok (.ishr, 1) := by decide +kernel
theorem dX11_parts_97 : decode cX11_parts 97 = .ok (.iconst 1, 1) := by decide +kernel
theorem dX11_parts_98 : decode cX11_parts 98 = .ok (.iand, 1) := by decide +kernel
theorem dX11_parts_99 : decode cX11_parts 99 = .ok (.iconst 1, 1) := by decide +kernel
theorem dX11_parts_100 : decode cX11_parts 100 = .ok (.if_icmp .ne 28, 3) := by decide +kernel
theorem dX11_parts_103 : decode cX11_parts 103 = .ok (.aload_n 0, 1) := by decide +kernel
theorem dX11_parts_104 : decode cX11_parts 104 = .ok (.getfield 35, 3) := by decide +kernel
theorem dX11_parts_107 : decode cX11_parts 107 = .ok (.iload 4, 2) := by decide +kernel
theorem dX11_parts_109 : decode cX11_parts 109 = .ok (.aload_n 0, 1) := by decide +kernel
theorem dX11_parts_110 : decode cX11_parts 110 = .ok (.getfield 189, 3) := by decide +kernel
theorem dX11_parts_113 : decode cX11_parts 113 = .ok (.if_icmp .ge 8, 3) := by decide +kernel
theorem dX11_parts_116 : decode cX11_parts 116 = .ok (.iload 4, 2) := by decide +kernel
theorem dX11_parts_118 : decode cX11_parts 118 = .ok (.goto 4, 3) := by decide +kernel
theorem dX11_parts_121 : decode cX11_parts 121 = .ok (.iconst 0, 1) := by decide +kernel
theorem dX11_parts_122 : decode cX11_parts 122 = .ok (.iload 5, 2) := by decide +kernel
theorem dX11_parts_124 : decode cX11_parts 124 = .ok (.iastore, 1) := by decide +kernel
theorem dX11_parts_125 : decode cX11_parts 125 = .ok (.iinc 4 1, 3) := by decide +kernel
theorem dX11_parts_128 : decode cX11_parts 128 = .ok (.iinc 5 1, 3) := by decide +kernel
theorem dX11_parts_131 : decode cX11_parts 131 = .ok (.goto (-49), 3) := by decide +kernel
theorem dX11_parts_134 : decode cX11_parts 134 = .ok (.iload 4, 2) := by decide +kernel
theorem dX11_parts_136 : decode cX11_parts 136 = .ok (.aload_n 0, 1) := by decide +kernel
theorem dX11_parts_137 : decode cX11_parts 137 = .ok (.getfield 189, 3) := by decide +kernel
theorem dX11_parts_140 : decode cX11_parts 140 = .ok (.iconst 1, 1) := by decide +kernel
theorem dX11_parts_141 : decode cX11_parts 141 = .ok (.isub, 1) := by decide +kernel
theorem dX11_parts_142 : decode cX11_parts 142 = .ok (.if_icmp .ne 91, 3) := by decide +kernel
theorem dX11_parts_145 : decode cX11_parts 145 = .ok (.iload_n 3, 1) := by decide +kernel
theorem dX11_parts_146 : decode cX11_parts 146 = .ok (.iconst 1, 1) := by decide +kernel
theorem dX11_parts_147 : decode cX11_parts 147 = .ok (.iand, 1) := by decide +kernel
theorem dX11_parts_148 : decode cX11_parts 148 = .ok (.ifCond .ne 85, 3) := by decide +kernel
theorem dX11_parts_151 : decode cX11_parts 151 = .ok (.aload_n 0, 1) := by decide +kernel
theorem dX11_parts_152 : decode cX11_parts 152 = .ok (.getfield 35, 3) := by decide +kernel
theorem dX11_parts_155 : decode cX11_parts 155 = .ok (.aload_n 0, 1) := by decide +kernel
theorem dX11_parts_156 : decode cX11_parts 156 = .ok (.getfield 189, 3) := by decide +kernel
theorem dX11_parts_159 : decode cX11_parts 159 = .ok (.iconst 1, 1) := by decide +kernel
theorem dX11_parts_160 : decode cX11_parts 160 = .ok (.isub, 1) := by decide +kernel
theorem dX11_parts_161 : decode cX11_parts 161 = .ok (.aload_n 0, 1) := by decide +kernel
theorem dX11_parts_162 : decode cX11_parts 162 = .ok (.getfield 19, 3) := by decide +kernel
theorem dX11_parts_165 : decode cX11_parts 165 = .ok (.iconst 0, 1) := by decide +kernel
theorem dX11_parts_166 : decode cX11_parts 166 = .ok (.iaload, 1) := by decide +kernel
theorem dX11_parts_167 : decode cX11_parts 167 = .ok (.iastore, 1) := by decide +kernel
theorem dX11_parts_168 : decode cX11_parts 168 = .ok (.aload_n 0, 1) := by decide +kernel
theorem dX11_parts_169 : decode cX11_parts 169 = .ok (.invokevirtual 295, 3) := by decide +kernel
theorem dX11_parts_172 : decode cX11_parts 172 = .ok (.pop, 1) := by decide +kernel
theorem dX11_parts_173 : decode cX11_parts 173 = .ok (.iload_n 2, 1) := by decide +kernel
theorem dX11_parts_174 : decode cX11_parts 174 = .ok (.ifCond .eq 24, 3) := by decide +kernel
theorem dX11_parts_177 : decode cX11_parts 177 = .ok (.aload_n 0, 1) := by decide +kernel
theorem dX11_parts_178 : decode cX11_parts 178 = .ok (.invokevirtual 325, 3) := by decide +kernel
theorem dX11_parts_181 : decode cX11_parts 181 = .ok (.ifCond .ne 17, 3) := by decide +kernel
theorem dX11_parts_184 : decode cX11_parts 184 = .ok (.aload_n 0, 1) := by decide +kernel
theorem dX11_parts_185 : decode cX11_parts 185 = .ok (.invokevirtual 331, 3) := by decide +kernel
theorem dX11_parts_188 : decode cX11_parts 188 = .ok (.ifCond .eq 45, 3) := by decide +kernel
theorem dX11_parts_191 : decode cX11_parts 191 = .ok (.aload_n 0, 1) := by decide +kernel
theorem dX11_parts_192 : decode cX11_parts 192 = .ok (.invokevirtual 334, 3) := by decide +kernel
theorem dX11_parts_195 : decode cX11_parts 195 = .ok (.ifCond .eq 38, 3) := by decide +kernel
theorem dX11_parts_198 : decode cX11_parts 198 = .ok (.iconst 1, 1) := by decide +kernel
theorem dX11_parts_199 : decode cX11_parts 199 = .ok (.istore_n 2, 1) := by decide +kernel
theorem dX11_parts_200 : decode cX11_parts 200 = .ok (.aload_n 0, 1) := by decide +kernel
theorem dX11_parts_201 : decode cX11_parts 201 = .ok (.invokevirtual 328, 3) := by decide +kernel
theorem dX11_parts_204 : decode cX11_parts 204 = .ok (.iconst 0, 1) := by decide +kernel
theorem dX11_parts_205 : decode cX11_parts 205 = .ok (.istore 5, 2) := by decide +kernel
theorem dX11_parts_207 : decode cX11_parts 207 = .ok (.iload 5, 2) := by decide +kernel
theorem dX11_parts_209 : decode cX11_parts 209 = .ok (.iconst 5, 1) := by decide +kernel
theorem dX11_parts_210 : decode cX11_parts 210 = .ok (.if_icmp .ge 23, 3) := by decide +kernel
theorem dX11_parts_213 : decode cX11_parts 213 = .ok (.aload_n 0, 1) := by decide +kernel
theorem dX11_parts_214 : decode cX11_parts 214 = .ok (.getfield 53, 3) := by decide +kernel
theorem dX11_parts_217 : decode cX11_parts 217 = .ok (.iload 5, 2) := by decide +kernel
theorem dX11_parts_219 : decode cX11_parts 219 = .ok (.aload_n 0, 1) := by decide +kernel
theorem dX11_parts_220 : decode cX11_parts 220 = .ok (.getfield 35, 3) := by decide +kernel
theorem dX11_parts_223 : decode cX11_parts 223 = .ok (.iload 5, 2) := by decide +kernel
theorem dX11_parts_225 : decode cX11_parts 225 = .ok (.iaload, 1) := by decide +kernel
theorem dX11_parts_226 : decode cX11_parts 226 = .ok (.iastore, 1) := by decide +kernel
theorem dX11_parts_227 : decode cX11_parts 227 = .ok (.iinc 5 1, 3) := by decide +kernel
theorem dX11_parts_230 : decode cX11_parts 230 = .ok (.goto (-23), 3) := by decide +kernel
theorem dX11_parts_233 : decode cX11_parts 233 = .ok (.iinc 3 1, 3) := by decide +kernel
theorem dX11_parts_236 : decode cX11_parts 236 = .ok (.goto (-181), 3) := by decide +kernel
theorem dX11_parts_239 : decode cX11_parts 239 = .ok (.iload_n 1, 1) := by decide +kernel
theorem dX11_parts_240 : decode cX11_parts 240 = .ok (.iconst 2, 1) := by decide +kernel
theorem dX11_parts_241 : decode cX11_parts 241 = .ok (.if_icmp .ge 21, 3) := by decide +kernel
theorem dX11_parts_244 : decode cX11_parts 244 = .ok (.aload_n 0, 1) := by decide +kernel
theorem dX11_parts_245 : decode cX11_parts 245 = .ok (.getfield 322, 3) := by decide +kernel
theorem dX11_parts_248 : decode cX11_parts 248 = .ok (.i2l, 1) := by decide +kernel
theorem dX11_parts_249 : decode cX11_parts 249 = .ok (.aload_n 0, 1) := by decide +kernel
theorem dX11_parts_250 : decode cX11_parts 250 = .ok (.getfield 319, 3) := by decide +kernel
theorem dX11_parts_253 : decode cX11_parts 253 = .ok (.i2l, 1) := by decide +kernel
theorem dX11_parts_254 : decode cX11_parts 254 = .ok (.iload_n 1, 1) := by decide +kernel
theorem dX11_parts_255 : decode cX11_parts 255 = .ok (.invokestatic 301, 3) := by decide +kernel
theorem dX11_parts_258 : decode cX11_parts 258 = .ok (.l2i, 1) := by decide +kernel
theorem dX11_parts_259 : decode cX11_parts 259 = .ok (.goto 12, 3) := by decide +kernel
theorem dX11_parts_262 : decode cX11_parts 262 = .ok (.aload_n 0, 1) := by decide +kernel
theorem dX11_parts_263 : decode cX11_parts 263 = .ok (.getfield 53, 3) := by decide +kernel
theorem dX11_parts_266 : decode cX11_parts 266 = .ok (.iload_n 1, 1) := by decide +kernel
theorem dX11_parts_267 : decode cX11_parts 267 = .ok (.bipush 10, 2) := by decide +kernel
theorem dX11_parts_269 : decode cX11_parts 269 = .ok (.isub, 1) := by decide +kernel
theorem dX11_parts_270 : decode cX11_parts 270 = .ok (.iaload, 1) := by decide +kernel
theorem dX11_parts_271 : decode cX11_parts 271 = .ok (.ireturn, 1) := by decide +kernel
theorem dX11_isLike_0 : decode cX11_isLike 0 = .ok (.aload_n 0, 1) := by decide +kernel
theorem dX11_isLike_1 : decode cX11_isLike 1 = .ok (.getfield 289, 3) := by decide +kernel
theorem dX11_isLike_4 : decode cX11_isLike 4 = .ok (.i2l, 1) := by decide +kernel
theorem dX11_isLike_5 : decode cX11_isLike 5 = .ok (.aload_n 0, 1) := by decide +kernel
theorem dX11_isLike_6 : decode cX11_isLike 6 = .ok (.getfield 319, 3) := by decide +kernel
theorem dX11_isLike_9 : decode cX11_isLike 9 = .ok (.i2l, 1) := by decide +kernel
theorem dX11_isLike_10 : decode cX11_isLike 10 = .ok (.lmul, 1) := by decide +kernel
theorem dX11_isLike_11 : decode cX11_isLike 11 = .ok (.aload_n 0, 1) := by decide +kernel
theorem dX11_isLike_12 : decode cX11_isLike 12 = .ok (.getfield 322, 3) := by decide +kernel
theorem dX11_isLike_15 : decode cX11_isLike 15 = .ok (.i2l, 1) := by decide +kernel
theorem dX11_isLike_16 : decode cX11_isLike 16 = .ok (.aload_n 0, 1) := by decide +kernel
theorem dX11_isLike_17 : decode cX11_isLike 17 = .ok (.getfield 292, 3) := by decide +kernel
theorem dX11_isLike_20 : decode cX11_isLike 20 = .ok (.i2l, 1) := by decide +kernel
theorem dX11_isLike_21 : decode cX11_isLike 21 = .ok (.lmul, 1) := by decide +kernel
theorem dX11_isLike_22 : decode cX11_isLike 22 = .ok (.lcmp, 1) := by decide +kernel
theorem dX11_isLike_23 : decode cX11_isLike 23 = .ok (.ifCond .ne 7, 3) := by decide +kernel
theorem dX11_isLike_26 : decode cX11_isLike 26 = .ok (.iconst 1, 1) := by decide +kernel
theorem dX11_isLike_27 : decode cX11_isLike 27 = .ok (.goto 4, 3) := by decide +kernel
theorem dX11_isLike_30 : decode cX11_isLike 30 = .ok (.iconst 0, 1) := by decide +kernel
theorem dX11_isLike_31 : decode cX11_isLike 31 = .ok (.ireturn, 1) := by decide +kernel
theorem dX11_areLess_0 : decode cX11_areLess 0 = .ok (.iconst 0, 1) := by decide +kernel
theorem dX11_areLess_1 : decode cX11_areLess 1 = .ok (.istore_n 1, 1) := by decide +kernel
theorem dX11_areLess_2 : decode cX11_areLess 2 = .ok (.iload_n 1, 1) := by decide +kernel
theorem dX11_areLess_3 : decode cX11_areLess 3 = .ok (.aload_n 0, 1) := by decide +kernel
theorem dX11_areLess_4 : decode cX11_areLess 4 = .ok (.getfield 189, 3) := by decide +kernel
theorem dX11_areLess_7 : decode cX11_areLess 7 = .ok (.if_icmp .ge 45, 3) := by decide +kernel
theorem dX11_areLess_10 : decode cX11_areLess 10 = .ok (.aload_n 0, 1) := by decide +kernel
theorem dX11_areLess_11 : decode cX11_areLess 11 = .ok (.getfield 35, 3) := by decide +kernel
theorem dX11_areLess_14 : decode cX11_areLess 14 = .ok (.iload_n 1, 1) := by decide +kernel
theorem dX11_areLess_15 : decode cX11_areLess 15 = .ok (.iaload, 1) := by decide +kernel
theorem dX11_areLess_16 : decode cX11_areLess 16 = .ok (.aload_n 0, 1) := by decide +kernel
theorem dX11_areLess_17 : decode cX11_areLess 17 = .ok (.getfield 53, 3) := by decide +kernel
theorem dX11_areLess_20 : decode cX11_areLess 20 = .ok (.iload_n 1, 1) := by decide +kernel
theorem dX11_areLess_21 : decode cX11_areLess 21 = .ok (.iaload, 1) := by decide +kernel
theorem dX11_areLess_22 : decode cX11_areLess 22 = .ok (.if_icmp .eq 24, 3) := by decide +kernel
theorem dX11_areLess_25 : decode cX11_areLess 25 = .ok (.aload_n 0, 1) := by decide +kernel
theorem dX11_areLess_26 : decode cX11_areLess 26 = .ok (.getfield 35, 3) := by decide +kernel
theorem dX11_areLess_29 : decode cX11_areLess 29 = .ok (.iload_n 1, 1) := by decide +kernel
theorem dX11_areLess_30 : decode cX11_areLess 30 = .ok (.iaload, 1) := by decide +kernel
theorem dX11_areLess_31 : decode cX11_areLess 31 = .ok (.aload_n 0, 1) := by decide +kernel
theorem dX11_areLess_32 : decode cX11_areLess 32 = .ok (.getfield 53, 3) := by decide +kernel
theorem dX11_areLess_35 : decode cX11_areLess 35 = .ok (.iload_n 1, 1) := by decide +kernel
theorem dX11_areLess_36 : decode cX11_areLess 36 = .ok (.iaload, 1) := by decide +kernel
theorem dX11_areLess_37 : decode cX11_areLess 37 = .ok (.if_icmp .ge 7, 3) := by decide +kernel
theorem dX11_areLess_40 : decode cX11_areLess 40 = .ok (.iconst 1, 1) := by decide +kernel
theorem dX11_areLess_41 : decode cX11_areLess 41 = .ok (.goto 4, 3) := by decide +kernel
theorem dX11_areLess_44 : decode cX11_areLess 44 = .ok (.iconst 0, 1) := by decide +kernel
theorem dX11_areLess_45 : decode cX11_areLess 45 = .ok (.ireturn, 1) := by decide +kernel
theorem dX11_areLess_46 : decode cX11_areLess 46 = .ok (.iinc 1 1, 3) := by decide +kernel
theorem dX11_areLess_49 : decode cX11_areLess 49 = .ok (.goto (-47), 3) := by decide +kernel
theorem dX11_areLess_52 : decode cX11_areLess 52 = .ok (.iconst 0, 1) := by decide +kernel
theorem dX11_areLess_53 : decode cX11_areLess 53 = .ok (.ireturn, 1) := by decide +kernel
theorem dX11_less_0 : decode cX11_less 0 = .ok (.aload_n 0, 1) := by decide +kernel
theorem dX11_less_1 : decode cX11_less 1 = .ok (.iload_n 1, 1) := by decide +kernel
theorem dX11_less_2 : decode cX11_less 2 = .ok (.invokevirtual 166, 3) := by decide +kernel
theorem dX11_less_5 : decode cX11_less 5 = .ok (.ifCond .eq 13, 3) := by decide +kernel
theorem dX11_less_8 : decode cX11_less 8 = .ok (.iload_n 2, 1) := by decide +kernel
theorem dX11_less_9 : decode cX11_less 9 = .ok (.i2l, 1) := by decide +kernel
theorem dX11_less_10 : decode cX11_less 10 = .ok (.lconst 0, 1) := by decide +kernel
theorem dX11_less_11 : decode cX11_less 11 = .ok (.lconst 1, 1) := by decide +kernel
theorem dX11_less_12 : decode cX11_less 12 = .ok (.invokestatic 69, 3) := by decide +kernel
theorem dX11_less_15 : decode cX11_less 15 = .ok (.ifCond .ne 5, 3) := by decide +kernel
theorem dX11_less_18 : decode cX11_less 18 = .ok (.iconst (-1), 1) := by decide +kernel
theorem dX11_less_19 : decode cX11_less 19 = .ok (.ireturn, 1) := by decide +kernel
theorem dX11_less_20 : decode cX11_less 20 = .ok (.aload_n 0, 1) := by decide +kernel
theorem dX11_less_21 : decode cX11_less 21 = .ok (.getfield 19, 3) := by decide +kernel
theorem dX11_less_24 : decode cX11_less 24 = .ok (.iconst 1, 1) := by decide +kernel
theorem dX11_less_25 : decode cX11_less 25 = .ok (.iaload, 1) := by decide +kernel
theorem dX11_less_26 : decode cX11_less 26 = .ok (.iconst 1, 1) := by decide +kernel
theorem dX11_less_27 : decode cX11_less 27 = .ok (.if_icmp .ne 6, 3) := by decide +kernel
theorem dX11_less_30 : decode cX11_less 30 = .ok (.bipush (-2), 2) := by decide +kernel
theorem dX11_less_32 : decode cX11_less 32 = .ok (.ireturn, 1) := by decide +kernel
theorem dX11_less_33 : decode cX11_less 33 = .ok (.aload_n 0, 1) := by decide +kernel
theorem dX11_less_34 : decode cX11_less 34 = .ok (.invokevirtual 243, 3) := by decide +kernel
theorem dX11_less_37 : decode cX11_less 37 = .ok (.aload_n 0, 1) := by decide +kernel
theorem dX11_less_38 : decode cX11_less 38 = .ok (.dup, 1) := by decide +kernel
theorem dX11_less_39 : decode cX11_less 39 = .ok (.getfield 189, 3) := by decide +kernel
theorem dX11_less_42 : decode cX11_less 42 = .ok (.iconst 1, 1) := by decide +kernel
theorem dX11_less_43 : decode cX11_less 43 = .ok (.isub, 1) := by decide +kernel
theorem dX11_less_44 : decode cX11_less 44 = .ok (.putfield 189, 3) := by decide +kernel
theorem dX11_less_47 : decode cX11_less 47 = .ok (.iload_n 1, 1) := by decide +kernel
theorem dX11_less_48 : decode cX11_less 48 = .ok (.istore_n 3, 1) := by decide +kernel
theorem dX11_less_49 : decode cX11_less 49 = .ok (.iload_n 3, 1) := by decide +kernel
theorem dX11_less_50 : decode cX11_less 50 = .ok (.aload_n 0, 1) := by decide +kernel
theorem dX11_less_51 : decode cX11_less 51 = .ok (.getfield 189, 3) := by decide +kernel
theorem dX11_less_54 : decode cX11_less 54 = .ok (.if_icmp .ge 37, 3) := by decide +kernel
theorem dX11_less_57 : decode cX11_less 57 = .ok (.aload_n 0, 1) := by decide +kernel
theorem dX11_less_58 : decode cX11_less 58 = .ok (.getfield 32, 3) := by decide +kernel
theorem dX11_less_61 : decode cX11_less 61 = .ok (.iload_n 3, 1) := by decide +kernel
theorem dX11_less_62 : decode cX11_less 62 = .ok (.aload_n 0, 1) := by decide +kernel
theorem dX11_less_63 : decode cX11_less 63 = .ok (.getfield 32, 3) := by decide +kernel
theorem dX11_less_66 : decode cX11_less 66 = .ok (.iload_n 3, 1) := by decide +kernel
theorem dX11_less_67 : decode cX11_less 67 = .ok (.iconst 1, 1) := by decide +kernel
theorem dX11_less_68 : decode cX11_less 68 = .ok (.iadd, 1) := by decide +kernel
theorem dX11_less_69 : decode cX11_less 69 = .ok (.iaload, 1) := by decide +kernel
theorem dX11_less_70 : decode cX11_less 70 = .ok (.iastore, 1) := by decide +kernel
theorem dX11_less_71 : decode cX11_less 71 = .ok (.aload_n 0, 1) := by decide +kernel
theorem dX11_less_72 : decode cX11_less 72 = .ok (.getfield 35, 3) := by decide +kernel
theorem dX11_less_75 : decode cX11_less 75 = .ok (.iload_n 3, 1) := by decide +kernel
theorem dX11_less_76 : decode cX11_less 76 = .ok (.aload_n 0, 1) := by decide +kernel
theorem dX11_less_77 : decode cX11_less 77 = .ok (.getfield 35, 3) := by decide +kernel
theorem dX11_less_80 : decode cX11_less 80 = .ok (.iload_n 3, 1) := by decide +kernel
theorem dX11_less_81 : decode cX11_less 81 = .ok (.iconst 1, 1) := by decide +kernel
theorem dX11_less_82 : decode cX11_less 82 = .ok (.iadd, 1) := by decide +kernel
theorem dX11_less_83 : decode cX11_less 83 = .ok (.iaload, 1) := by decide +kernel
theorem dX11_less_84 : decode cX11_less 84 = .ok (.iastore, 1) := by decide +kernel
theorem dX11_less_85 : decode cX11_less 85 = .ok (.iinc 3 1, 3) := by decide +kernel
theorem dX11_less_88 : decode cX11_less 88 = .ok (.goto (-39), 3) := by decide +kernel
theorem dX11_less_91 : decode cX11_less 91 = .ok (.aload_n 0, 1) := by decide +kernel
theorem dX11_less_92 : decode cX11_less 92 = .ok (.getfield 35, 3) := by decide +kernel
theorem dX11_less_95 : decode cX11_less 95 = .ok (.aload_n 0, 1) := by decide +kernel
theorem dX11_less_96 : decode cX11_less 96 = .ok (.getfield 189, 3) := by decide +kernel
theorem dX11_less_99 : decode cX11_less 99 = .ok (.iconst 1, 1) := by decide +kernel
theorem dX11_less_100 : decode cX11_less 100 = .ok (.isub, 1) := by decide +kernel
theorem dX11_less_101 : decode cX11_less 101 = .ok (.aload_n 0, 1) := by decide +kernel
theorem dX11_less_102 : decode cX11_less 102 = .ok (.getfield 19, 3) := by decide +kernel
theorem dX11_less_105 : decode cX11_less 105 = .ok (.iconst 0, 1) := by decide +kernel
theorem dX11_less_106 : decode cX11_less 106 = .ok (.iaload, 1) := by decide +kernel
theorem dX11_less_107 : decode cX11_less 107 = .ok (.iastore, 1) := by decide +kernel
theorem dX11_less_108 : decode cX11_less 108 = .ok (.aload_n 0, 1) := by decide +kernel
theorem dX11_less_109 : decode cX11_less 109 = .ok (.invokevirtual 295, 3) := by decide +kernel
theorem dX11_less_112 : decode cX11_less 112 = .ok (.pop, 1) := by decide +kernel
theorem dX11_less_113 : decode cX11_less 113 = .ok (.aload_n 0, 1) := by decide +kernel
theorem dX11_less_114 : decode cX11_less 114 = .ok (.iload_n 2, 1) := by decide +kernel
theorem dX11_less_115 : decode cX11_less 115 = .ok (.invokevirtual 305, 3) := by decide +kernel
theorem dX11_less_118 : decode cX11_less 118 = .ok (.ireturn, 1) := by decide +kernel
theorem dX11_sheet_0 : decode cX11_sheet 0 = .ok (.iload_n 1, 1) := by decide +kernel
theorem dX11_sheet_1 : decode cX11_sheet 1 = .ok (.i2l, 1) := by decide +kernel
theorem dX11_sheet_2 : decode cX11_sheet 2 = .ok (.lconst 0, 1) := by decide +kernel
theorem dX11_sheet_3 : decode cX11_sheet 3 = .ok (.ldc2_w 299, 3) := by decide +kernel
theorem dX11_sheet_6 : decode cX11_sheet 6 = .ok (.invokestatic 69, 3) := by decide +kernel
theorem dX11_sheet_9 : decode cX11_sheet 9 = .ok (.ifCond .eq 21, 3) := by decide +kernel
theorem dX11_sheet_12 : decode cX11_sheet 12 = .ok (.iload_n 2, 1) := by decide +kernel
theorem dX11_sheet_13 : decode cX11_sheet 13 = .ok (.i2l, 1) := by decide +kernel
theorem dX11_sheet_14 : decode cX11_sheet 14 = .ok (.lconst 0, 1) := by decide +kernel
theorem dX11_sheet_15 : decode cX11_sheet 15 = .ok (.ldc2_w 173, 3) := by decide +kernel
theorem dX11_sheet_18 : decode cX11_sheet 18 = .ok (.invokestatic 69, 3) := by decide +kernel
theorem dX11_sheet_21 : decode cX11_sheet 21 = .ok (.ifCond .eq 9, 3) := by decide +kernel
theorem dX11_sheet_24 : decode cX11_sheet 24 = .ok (.iload_n 3, 1) := by decide +kernel
theorem dX11_sheet_25 : decode cX11_sheet 25 = .ok (.bipush 40, 2) := by decide +kernel
theorem dX11_sheet_27 : decode cX11_sheet 27 = .ok (.if_icmp .le 5, 3) := by decide +kernel
theorem dX11_sheet_30 : decode cX11_sheet 30 = .ok (.iconst (-1), 1) := by decide +kernel
theorem dX11_sheet_31 : decode cX11_sheet 31 = .ok (.ireturn, 1) := by decide +kernel
theorem dX11_sheet_32 : decode cX11_sheet 32 = .ok (.iload_n 3, 1) := by decide +kernel
theorem dX11_sheet_33 : decode cX11_sheet 33 = .ok (.ifCond .ge 6, 3) := by decide +kernel
theorem dX11_sheet_36 : decode cX11_sheet 36 = .ok (.bipush (-14), 2) := by decide +kernel
theorem dX11_sheet_38 : decode cX11_sheet 38 = .ok (.ireturn, 1) := by decide +kernel
theorem dX11_sheet_39 : decode cX11_sheet 39 = .ok (.aload_n 0, 1) := by decide +kernel
theorem dX11_sheet_40 : decode cX11_sheet 40 = .ok (.getfield 56, 3) := by decide +kernel
theorem dX11_sheet_43 : decode cX11_sheet 43 = .ok (.iload_n 1, 1) := by decide +kernel
theorem dX11_sheet_44 : decode cX11_sheet 44 = .ok (.iload_n 2, 1) := by decide +kernel
theorem dX11_sheet_45 : decode cX11_sheet 45 = .ok (.iastore, 1) := by decide +kernel
theorem dX11_sheet_46 : decode cX11_sheet 46 = .ok (.aload_n 0, 1) := by decide +kernel
theorem dX11_sheet_47 : decode cX11_sheet 47 = .ok (.getfield 59, 3) := by decide +kernel
theorem dX11_sheet_50 : decode cX11_sheet 50 = .ok (.iload_n 1, 1) := by decide +kernel
theorem dX11_sheet_51 : decode cX11_sheet 51 = .ok (.iload_n 3, 1) := by decide +kernel
theorem dX11_sheet_52 : decode cX11_sheet 52 = .ok (.iastore, 1) := by decide +kernel
theorem dX11_sheet_53 : decode cX11_sheet 53 = .ok (.iconst 0, 1) := by decide +kernel
theorem dX11_sheet_54 : decode cX11_sheet 54 = .ok (.istore 4, 2) := by decide +kernel
theorem dX11_sheet_56 : decode cX11_sheet 56 = .ok (.iload 4, 2) := by decide +kernel
theorem dX11_sheet_58 : decode cX11_sheet 58 = .ok (.bipush 40, 2) := by decide +kernel
theorem dX11_sheet_60 : decode cX11_sheet 60 = .ok (.if_icmp .ge 22, 3) := by decide +kernel
theorem dX11_sheet_63 : decode cX11_sheet 63 = .ok (.aload_n 0, 1) := by decide +kernel
theorem dX11_sheet_64 : decode cX11_sheet 64 = .ok (.getfield 62, 3) := by decide +kernel
theorem dX11_sheet_67 : decode cX11_sheet 67 = .ok (.bipush 40, 2) := by decide +kernel
theorem dX11_sheet_69 : decode cX11_sheet 69 = .ok (.iload_n 1, 1) := by decide +kernel
theorem dX11_sheet_70 : decode cX11_sheet 70 = .ok (.imul, 1) := by decide +kernel
theorem dX11_sheet_71 : decode cX11_sheet 71 = .ok (.iload 4, 2) := by decide +kernel
theorem dX11_sheet_73 : decode cX11_sheet 73 = .ok (.iadd, 1) := by decide +kernel
theorem dX11_sheet_74 : decode cX11_sheet 74 = .ok (.iconst 0, 1) := by decide +kernel
theorem dX11_sheet_75 : decode cX11_sheet 75 = .ok (.iastore, 1) := by decide +kernel
theorem dX11_sheet_76 : decode cX11_sheet 76 = .ok (.iinc 4 1, 3) := by decide +kernel
theorem dX11_sheet_79 : decode cX11_sheet 79 = .ok (.goto (-23), 3) := by decide +kernel
theorem dX11_sheet_82 : decode cX11_sheet 82 = .ok (.iconst 1, 1) := by decide +kernel
theorem dX11_sheet_83 : decode cX11_sheet 83 = .ok (.ireturn, 1) := by decide +kernel
theorem dX11_lay_0 : decode cX11_lay 0 = .ok (.iload_n 1, 1) := by decide +kernel
theorem dX11_lay_1 : decode cX11_lay 1 = .ok (.i2l, 1) := by decide +kernel
theorem dX11_lay_2 : decode cX11_lay 2 = .ok (.lconst 0, 1) := by decide +kernel
theorem dX11_lay_3 : decode cX11_lay 3 = .ok (.ldc2_w 299, 3) := by decide +kernel
theorem dX11_lay_6 : decode cX11_lay 6 = .ok (.invokestatic 69, 3) := by decide +kernel
theorem dX11_lay_9 : decode cX11_lay 9 = .ok (.ifCond .ne 5, 3) := by decide +kernel
theorem dX11_lay_12 : decode cX11_lay 12 = .ok (.iconst (-1), 1) := by decide +kernel
theorem dX11_lay_13 : decode cX11_lay 13 = .ok (.ireturn, 1) := by decide +kernel
theorem dX11_lay_14 : decode cX11_lay 14 = .ok (.aload_n 0, 1) := by decide +kernel
theorem dX11_lay_15 : decode cX11_lay 15 = .ok (.getfield 56, 3) := by decide +kernel
theorem dX11_lay_18 : decode cX11_lay 18 = .ok (.iload_n 1, 1) := by decide +kernel
theorem dX11_lay_19 : decode cX11_lay 19 = .ok (.iaload, 1) := by decide +kernel
theorem dX11_lay_20 : decode cX11_lay 20 = .ok (.bipush (-4), 2) := by decide +kernel
theorem dX11_lay_22 : decode cX11_lay 22 = .ok (.if_icmp .ne 6, 3) := by decide +kernel
theorem dX11_lay_25 : decode cX11_lay 25 = .ok (.bipush (-11), 2) := by decide +kernel
theorem dX11_lay_27 : decode cX11_lay 27 = .ok (.ireturn, 1) := by decide +kernel
theorem dX11_lay_28 : decode cX11_lay 28 = .ok (.iload_n 2, 1) := by decide +kernel
theorem dX11_lay_29 : decode cX11_lay 29 = .ok (.i2l, 1) := by decide +kernel
theorem dX11_lay_30 : decode cX11_lay 30 = .ok (.lconst 0, 1) := by decide +kernel
theorem dX11_lay_31 : decode cX11_lay 31 = .ok (.aload_n 0, 1) := by decide +kernel
theorem dX11_lay_32 : decode cX11_lay 32 = .ok (.getfield 59, 3) := by decide +kernel
theorem dX11_lay_35 : decode cX11_lay 35 = .ok (.iload_n 1, 1) := by decide +kernel
theorem dX11_lay_36 : decode cX11_lay 36 = .ok (.iaload, 1) := by decide +kernel
theorem dX11_lay_37 : decode cX11_lay 37 = .ok (.iconst 1, 1) := by decide +kernel
theorem dX11_lay_38 : decode cX11_lay 38 = .ok (.isub, 1) := by decide +kernel
theorem dX11_lay_39 : decode cX11_lay 39 = .ok (.i2l, 1) := by decide +kernel
theorem dX11_lay_40 : decode cX11_lay 40 = .ok (.invokestatic 69, 3) := by decide +kernel
theorem dX11_lay_43 : decode cX11_lay 43 = .ok (.ifCond .ne 6, 3) := by decide +kernel
theorem dX11_lay_46 : decode cX11_lay 46 = .ok (.bipush (-12), 2) := by decide +kernel
theorem dX11_lay_48 : decode cX11_lay 48 = .ok (.ireturn, 1) := by decide +kernel
theorem dX11_lay_49 : decode cX11_lay 49 = .ok (.aload_n 0, 1) := by decide +kernel
theorem dX11_lay_50 : decode cX11_lay 50 = .ok (.getfield 62, 3) := by decide +kernel
theorem dX11_lay_53 : decode cX11_lay 53 = .ok (.bipush 40, 2) := by decide +kernel
theorem dX11_lay_55 : decode cX11_lay 55 = .ok (.iload_n 1, 1) := by decide +kernel
theorem dX11_lay_56 : decode cX11_lay 56 = .ok (.imul, 1) := by decide +kernel
theorem dX11_lay_57 : decode cX11_lay 57 = .ok (.iload_n 2, 1) := by decide +kernel
theorem dX11_lay_58 : decode cX11_lay 58 = .ok (.iadd, 1) := by decide +kernel
theorem dX11_lay_59 : decode cX11_lay 59 = .ok (.aload_n 0, 1) := by decide +kernel
theorem dX11_lay_60 : decode cX11_lay 60 = .ok (.getfield 56, 3) := by decide +kernel
theorem dX11_lay_63 : decode cX11_lay 63 = .ok (.iload_n 1, 1) := by decide +kernel
theorem dX11_lay_64 : decode cX11_lay 64 = .ok (.iaload, 1) := by decide +kernel
theorem dX11_lay_65 : decode cX11_lay 65 = .ok (.ifCond .ne 13, 3) := by decide +kernel
theorem dX11_lay_68 : decode cX11_lay 68 = .ok (.iload_n 3, 1) := by decide +kernel
theorem dX11_lay_69 : decode cX11_lay 69 = .ok (.bipush 24, 2) := by decide +kernel
theorem dX11_lay_71 : decode cX11_lay 71 = .ok (.ishl, 1) := by decide +kernel
theorem dX11_lay_72 : decode cX11_lay 72 = .ok (.bipush 24, 2) := by decide +kernel
theorem dX11_lay_74 : decode cX11_lay 74 = .ok (.ishr, 1) := by decide +kernel
theorem dX11_lay_75 : decode cX11_lay 75 = .ok (.goto 24, 3) := by decide +kernel
theorem dX11_lay_78 : decode cX11_lay 78 = .ok (.aload_n 0, 1) := by decide +kernel
theorem dX11_lay_79 : decode cX11_lay 79 = .ok (.getfield 56, 3) := by decide +kernel
theorem dX11_lay_82 : decode cX11_lay 82 = .ok (.iload_n 1, 1) := by decide +kernel
theorem dX11_lay_83 : decode cX11_lay 83 = .ok (.iaload, 1) := by decide +kernel
theorem dX11_lay_84 : decode cX11_lay 84 = .ok (.iconst 1, 1) := by decide +kernel
theorem dX11_lay_85 : decode cX11_lay 85 = .ok (.if_icmp .ne 13, 3) := by decide +kernel
theorem dX11_lay_88 : decode cX11_lay 88 = .ok (.iload_n 3, 1) := by decide +kernel
theorem dX11_lay_89 : decode cX11_lay 89 = .ok (.bipush 16, 2) := by decide +kernel
theorem dX11_lay_91 : decode cX11_lay 91 = .ok (.ishl, 1) := by decide +kernel
theorem dX11_lay_92 : decode cX11_lay 92 = .ok (.bipush 16, 2) := by decide +kernel
theorem dX11_lay_94 : decode cX11_lay 94 = .ok (.ishr, 1) := by decide +kernel
theorem dX11_lay_95 : decode cX11_lay 95 = .ok (.goto 4, 3) := by decide +kernel
theorem dX11_lay_98 : decode cX11_lay 98 = .ok (.iload_n 3, 1) := by decide +kernel
theorem dX11_lay_99 : decode cX11_lay 99 = .ok (.iastore, 1) := by decide +kernel
theorem dX11_lay_100 : decode cX11_lay 100 = .ok (.iconst 1, 1) := by decide +kernel
theorem dX11_lay_101 : decode cX11_lay 101 = .ok (.ireturn, 1) := by decide +kernel
theorem dX11_read_0 : decode cX11_read 0 = .ok (.iload_n 1, 1) := by decide +kernel
theorem dX11_read_1 : decode cX11_read 1 = .ok (.i2l, 1) := by decide +kernel
theorem dX11_read_2 : decode cX11_read 2 = .ok (.lconst 0, 1) := by decide +kernel
theorem dX11_read_3 : decode cX11_read 3 = .ok (.ldc2_w 299, 3) := by decide +kernel
theorem dX11_read_6 : decode cX11_read 6 = .ok (.invokestatic 69, 3) := by decide +kernel
theorem dX11_read_9 : decode cX11_read 9 = .ok (.ifCond .eq 51, 3) := by decide +kernel
theorem dX11_read_12 : decode cX11_read 12 = .ok (.iload_n 2, 1) := by decide +kernel
theorem dX11_read_13 : decode cX11_read 13 = .ok (.i2l, 1) := by decide +kernel
theorem dX11_read_14 : decode cX11_read 14 = .ok (.lconst 0, 1) := by decide +kernel
theorem dX11_read_15 : decode cX11_read 15 = .ok (.ldc2_w 173, 3) := by decide +kernel
theorem dX11_read_18 : decode cX11_read 18 = .ok (.invokestatic 69, 3) := by decide +kernel
theorem dX11_read_21 : decode cX11_read 21 = .ok (.ifCond .eq 39, 3) := by decide +kernel
theorem dX11_read_24 : decode cX11_read 24 = .ok (.iload 4, 2) := by decide +kernel
theorem dX11_read_26 : decode cX11_read 26 = .ok (.ifCond .lt 34, 3) := by decide +kernel
theorem dX11_read_29 : decode cX11_read 29 = .ok (.iload 5, 2) := by decide +kernel
theorem dX11_read_31 : decode cX11_read 31 = .ok (.i2l, 1) := by decide +kernel
theorem dX11_read_32 : decode cX11_read 32 = .ok (.lconst 0, 1) := by decide +kernel
theorem dX11_read_33 : decode cX11_read 33 = .ok (.ldc2_w 257, 3) := by decide +kernel
theorem dX11_read_36 : decode cX11_read 36 = .ok (.invokestatic 69, 3) := by decide +kernel
theorem dX11_read_39 : decode cX11_read 39 = .ok (.ifCond .eq 21, 3) := by decide +kernel
theorem dX11_read_42 : decode cX11_read 42 = .ok (.iload 4, 2) := by decide +kernel
theorem dX11_read_44 : decode cX11_read 44 = .ok (.i2l, 1) := by decide +kernel
theorem dX11_read_45 : decode cX11_read 45 = .ok (.iload 5, 2) := by decide +kernel
theorem dX11_read_47 : decode cX11_read 47 = .ok (.i2l, 1) := by decide +kernel
theorem dX11_read_48 : decode cX11_read 48 = .ok (.ladd, 1) := by decide +kernel
theorem dX11_read_49 : decode cX11_read 49 = .ok (.aload_n 0, 1) := by decide +kernel
theorem dX11_read_50 : decode cX11_read 50 = .ok (.getfield 19, 3) := by decide +kernel
theorem dX11_read_53 : decode cX11_read 53 = .ok (.iconst 1, 1) := by decide +kernel
theorem dX11_read_54 : decode cX11_read 54 = .ok (.iaload, 1) := by decide +kernel
theorem dX11_read_55 : decode cX11_read 55 = .ok (.i2l, 1) := by decide +kernel
theorem dX11_read_56 : decode cX11_read 56 = .ok (.lcmp, 1) := by decide +kernel
theorem dX11_read_57 : decode cX11_read 57 = .ok (.ifCond .le 5, 3) := by decide +kernel
theorem dX11_read_60 : decode cX11_read 60 = .ok (.iconst (-1), 1) := by decide +kernel
theorem dX11_read_61 : decode cX11_read 61 = .ok (.ireturn, 1) := by decide +kernel
theorem dX11_read_62 : decode cX11_read 62 = .ok (.aload_n 0, 1) := by decide +kernel
theorem dX11_read_63 : decode cX11_read 63 = .ok (.invokevirtual 180, 3) := by decide +kernel
theorem dX11_read_66 : decode cX11_read 66 = .ok (.iconst 0, 1) := by decide +kernel
theorem dX11_read_67 : decode cX11_read 67 = .ok (.istore 6, 2) := by decide +kernel
theorem dX11_read_69 : decode cX11_read 69 = .ok (.iconst 0, 1) := by decide +kernel
theorem dX11_read_70 : decode cX11_read 70 = .ok (.istore 7, 2) := by decide +kernel
theorem dX11_read_72 : decode cX11_read 72 = .ok (.iconst 1, 1) := by decide +kernel
theorem dX11_read_73 : decode cX11_read 73 = .ok (.istore 8, 2) := by decide +kernel
theorem dX11_read_75 : decode cX11_read 75 = .ok (.iconst 0, 1) := by decide +kernel
theorem dX11_read_76 : decode cX11_read 76 = .ok (.istore 9, 2) := by decide +kernel
theorem dX11_read_78 : decode cX11_read 78 = .ok (.iload 9, 2) := by decide +kernel
theorem dX11_read_80 : decode cX11_read 80 = .ok (.aload_n 0, 1) := by decide +kernel
theorem dX11_read_81 : decode cX11_read 81 = .ok (.getfield 19, 3) := by decide +kernel
theorem dX11_read_84 : decode cX11_read 84 = .ok (.iconst 0, 1) := by decide +kernel
theorem dX11_read_85 : decode cX11_read 85 = .ok (.iaload, 1) := by decide +kernel
theorem dX11_read_86 : decode cX11_read 86 = .ok (.iload 5, 2) := by decide +kernel
theorem dX11_read_88 : decode cX11_read 88 = .ok (.imul, 1) := by decide +kernel
theorem dX11_read_89 : decode cX11_read 89 = .ok (.if_icmp .ge 142, 3) := by decide +kernel
theorem dX11_read_92 : decode cX11_read 92 = .ok (.iload 6, 2) := by decide +kernel
theorem dX11_read_94 : decode cX11_read 94 = .ok (.ifCond .ne 137, 3) := by decide +kernel
theorem dX11_read_97 : decode cX11_read 97 = .ok (.aload_n 0, 1) := by decide +kernel
theorem dX11_read_98 : decode cX11_read 98 = .ok (.getfield 56, 3) := by decide +kernel
theorem dX11_read_101 : decode cX11_read 101 = .ok (.iload_n 1, 1) := by decide +kernel
theorem dX11_read_102 : decode cX11_read 102 = .ok (.iaload, 1) := by decide +kernel
theorem dX11_read_103 : decode cX11_read 103 = .ok (.bipush (-4), 2) := by decide +kernel
theorem dX11_read_105 : decode cX11_read 105 = .ok (.if_icmp .ne 7, 3) := by decide +kernel
theorem dX11_read_108 : decode cX11_read 108 = .ok (.iconst 1, 1) := by decide +kernel
theorem dX11_read_109 : decode cX11_read 109 = .ok (.goto 44, 3) := by decide +kernel
theorem dX11_read_112 : decode cX11_read 112 = .ok (.aload_n 0, 1) := by decide +kernel
theorem dX11_read_113 : decode cX11_read 113 = .ok (.getfield 56, 3) := by decide +kernel
theorem dX11_read_116 : decode cX11_read 116 = .ok (.iload_n 1, 1) := by decide +kernel
theorem dX11_read_117 : decode cX11_read 117 = .ok (.iaload, 1) := by decide +kernel
theorem dX11_read_118 : decode cX11_read 118 = .ok (.iload_n 2, 1) := by decide +kernel
theorem dX11_read_119 : decode cX11_read 119 = .ok (.if_icmp .eq 7, 3) := by decide +kernel
theorem dX11_read_122 : decode cX11_read 122 = .ok (.iconst 3, 1) := by decide +kernel
theorem dX11_read_123 : decode cX11_read 123 = .ok (.goto 30, 3) := by decide +kernel
theorem dX11_read_126 : decode cX11_read 126 = .ok (.iload_n 3, 1) := by decide +kernel
theorem dX11_read_127 : decode cX11_read 127 = .ok (.i2l, 1) := by decide +kernel
theorem dX11_read_128 : decode cX11_read 128 = .ok (.iload 9, 2) := by decide +kernel
theorem dX11_read_130 : decode cX11_read 130 = .ok (.i2l, 1) := by decide +kernel
theorem dX11_read_131 : decode cX11_read 131 = .ok (.ladd, 1) := by decide +kernel
theorem dX11_read_132 : decode cX11_read 132 = .ok (.lconst 0, 1) := by decide +kernel
theorem dX11_read_133 : decode cX11_read 133 = .ok (.aload_n 0, 1) := by decide +kernel
theorem dX11_read_134 : decode cX11_read 134 = .ok (.getfield 59, 3) := by decide +kernel
theorem dX11_read_137 : decode cX11_read 137 = .ok (.iload_n 1, 1) := by decide +kernel
theorem dX11_read_138 : decode cX11_read 138 = .ok (.iaload, 1) := by decide +kernel
theorem dX11_read_139 : decode cX11_read 139 = .ok (.iconst 1, 1) := by decide +kernel
theorem dX11_read_140 : decode cX11_read 140 = .ok (.isub, 1) := by decide +kernel
theorem dX11_read_141 : decode cX11_read 141 = .ok (.i2l, 1) := by decide +kernel
theorem dX11_read_142 : decode cX11_read 142 = .ok (.invokestatic 69, 3) := by decide +kernel
theorem dX11_read_145 : decode cX11_read 145 = .ok (.ifCond .ne 7, 3) := by decide +kernel
theorem dX11_read_148 : decode cX11_read 148 = .ok (.iconst 2, 1) := by decide +kernel
theorem dX11_read_149 : decode cX11_read 149 = .ok (.goto 4, 3) := by decide +kernel
theorem dX11_read_152 : decode cX11_read 152 = .ok (.iconst 0, 1) := by decide +kernel
theorem dX11_read_153 : decode cX11_read 153 = .ok (.istore 6, 2) := by decide +kernel
theorem dX11_read_155 : decode cX11_read 155 = .ok (.iload 6, 2) := by decide +kernel
theorem dX11_read_157 : decode cX11_read 157 = .ok (.ifCond .ne 68, 3) := by decide +kernel
theorem dX11_read_160 : decode cX11_read 160 = .ok (.iload 8, 2) := by decide +kernel
theorem dX11_read_162 : decode cX11_read 162 = .ok (.ifCond .eq 32, 3) := by decide +kernel
theorem dX11_read_165 : decode cX11_read 165 = .ok (.aload_n 0, 1) := by decide +kernel
theorem dX11_read_166 : decode cX11_read 166 = .ok (.getfield 62, 3) := by decide +kernel
theorem dX11_read_169 : decode cX11_read 169 = .ok (.bipush 40, 2) := by decide +kernel
theorem dX11_read_171 : decode cX11_read 171 = .ok (.iload_n 1, 1) := by decide +kernel
theorem dX11_read_172 : decode cX11_read 172 = .ok (.imul, 1) := by decide +kernel
theorem dX11_read_173 : decode cX11_read 173 = .ok (.iload_n 3, 1) := by decide +kernel
theorem dX11_read_174 : decode cX11_read 174 = .ok (.iadd, 1) := by decide +kernel
theorem dX11_read_175 : decode cX11_read 175 = .ok (.iload 9, 2) := by decide +kernel
theorem dX11_read_177 : decode cX11_read 177 = .ok (.iadd, 1) := by decide +kernel
theorem dX11_read_178 : decode cX11_read 178 = .ok (.iaload, 1) := by decide +kernel
theorem dX11_read_179 : decode cX11_read 179 = .ok (.i2l, 1) := by decide +kernel
theorem dX11_read_180 : decode cX11_read 180 = .ok (.lconst 1, 1) := by decide +kernel
theorem dX11_read_181 : decode cX11_read 181 = .ok (.ldc2_w 178, 3) := by decide +kernel
theorem dX11_read_184 : decode cX11_read 184 = .ok (.invokestatic 69, 3) := by decide +kernel
theorem dX11_read_187 : decode cX11_read 187 = .ok (.ifCond .eq 7, 3) := by decide +kernel
theorem dX11_read_190 : decode cX11_read 190 = .ok (.iconst 1, 1) := by decide +kernel
theorem dX11_read_191 : decode cX11_read 191 = .ok (.goto 4, 3) := by decide +kernel
theorem dX11_read_194 : decode cX11_read 194 = .ok (.iconst 0, 1) := by decide +kernel
theorem dX11_read_195 : decode cX11_read 195 = .ok (.istore 8, 2) := by decide +kernel
theorem dX11_read_197 : decode cX11_read 197 = .ok (.iload 9, 2) := by decide +kernel
theorem dX11_read_199 : decode cX11_read 199 = .ok (.iconst 1, 1) := by decide +kernel
theorem dX11_read_200 : decode cX11_read 200 = .ok (.iadd, 1) := by decide +kernel
theorem dX11_read_201 : decode cX11_read 201 = .ok (.aload_n 0, 1) := by decide +kernel
theorem dX11_read_202 : decode cX11_read 202 = .ok (.getfield 19, 3) := by decide +kernel
theorem dX11_read_205 : decode cX11_read 205 = .ok (.iconst 0, 1) := by decide +kernel
theorem dX11_read_206 : decode cX11_read 206 = .ok (.iaload, 1) := by decide +kernel
theorem dX11_read_207 : decode cX11_read 207 = .ok (.irem, 1) := by decide +kernel
theorem dX11_read_208 : decode cX11_read 208 = .ok (.ifCond .ne 17, 3) := by decide +kernel
theorem dX11_read_211 : decode cX11_read 211 = .ok (.iload 8, 2) := by decide +kernel
theorem dX11_read_213 : decode cX11_read 213 = .ok (.ifCond .ne 9, 3) := by decide +kernel
theorem dX11_read_216 : decode cX11_read 216 = .ok (.bipush (-20), 2) := by decide +kernel
theorem dX11_read_218 : decode cX11_read 218 = .ok (.iload 7, 2) := by decide +kernel
theorem dX11_read_220 : decode cX11_read 220 = .ok (.isub, 1) := by decide +kernel
theorem dX11_read_221 : decode cX11_read 221 = .ok (.ireturn, 1) := by decide +kernel
theorem dX11_read_222 : decode cX11_read 222 = .ok (.iinc 7 1, 3) := by decide +kernel
theorem dX11_read_225 : decode cX11_read 225 = .ok (.iinc 9 1, 3) := by decide +kernel
theorem dX11_read_228 : decode cX11_read 228 = .ok (.goto (-150), 3) := by decide +kernel
theorem dX11_read_231 : decode cX11_read 231 = .ok (.iconst 0, 1) := by decide +kernel
theorem dX11_read_232 : decode cX11_read 232 = .ok (.istore 9, 2) := by decide +kernel
theorem dX11_read_234 : decode cX11_read 234 = .ok (.iload 9, 2) := by decide +kernel
theorem dX11_read_236 : decode cX11_read 236 = .ok (.aload_n 0, 1) := by decide +kernel
theorem dX11_read_237 : decode cX11_read 237 = .ok (.getfield 19, 3) := by decide +kernel
theorem dX11_read_240 : decode cX11_read 240 = .ok (.iconst 0, 1) := by decide +kernel
theorem dX11_read_241 : decode cX11_read 241 = .ok (.iaload, 1) := by decide +kernel
theorem dX11_read_242 : decode cX11_read 242 = .ok (.iload 7, 2) := by decide +kernel
theorem dX11_read_244 : decode cX11_read 244 = .ok (.imul, 1) := by decide +kernel
theorem dX11_read_245 : decode cX11_read 245 = .ok (.if_icmp .ge 56, 3) := by decide +kernel
theorem dX11_read_248 : decode cX11_read 248 = .ok (.aload_n 0, 1) := by decide +kernel
theorem dX11_read_249 : decode cX11_read 249 = .ok (.getfield 19, 3) := by decide +kernel
theorem dX11_read_252 : decode cX11_read 252 = .ok (.bipush 60, 2) := by decide +kernel
theorem dX11_read_254 : decode cX11_read 254 = .ok (.bipush 8, 2) := by decide +kernel
theorem dX11_read_256 : decode cX11_read 256 = .ok (.iload 4, 2) := by decide +kernel
theorem dX11_read_258 : decode cX11_read 258 = .ok (.iload 9, 2) := by decide +kernel
theorem dX11_read_260 : decode cX11_read 260 = .ok (.aload_n 0, 1) := by decide +kernel
theorem dX11_read_261 : decode cX11_read 261 = .ok (.getfield 19, 3) := by decide +kernel
theorem dX11_read_264 : decode cX11_read 264 = .ok (.iconst 0, 1) := by decide +kernel
theorem dX11_read_265 : decode cX11_read 265 = .ok (.iaload, 1) := by decide +kernel
theorem dX11_read_266 : decode cX11_read 266 = .ok (.idiv, 1) := by decide +kernel
theorem dX11_read_267 : decode cX11_read 267 = .ok (.iadd, 1) := by decide +kernel
theorem dX11_read_268 : decode cX11_read 268 = .ok (.imul, 1) := by decide +kernel
theorem dX11_read_269 : decode cX11_read 269 = .ok (.iadd, 1) := by decide +kernel
theorem dX11_read_270 : decode cX11_read 270 = .ok (.iload 9, 2) := by decide +kernel
theorem dX11_read_272 : decode cX11_read 272 = .ok (.aload_n 0, 1) := by decide +kernel
theorem dX11_read_273 : decode cX11_read 273 = .ok (.getfield 19, 3) := by decide +kernel
theorem dX11_read_276 : decode cX11_read 276 = .ok (.iconst 0, 1) := by decide +kernel
theorem dX11_read_277 : decode cX11_read 277 = .ok (.iaload, 1) := by decide +kernel
theorem dX11_read_278 : decode cX11_read 278 = .ok (.irem, 1) := by decide +kernel
theorem dX11_read_279 : decode cX11_read 279 = .ok (.iadd, 1) := by decide +kernel
theorem dX11_read_280 : decode cX11_read 280 = .ok (.aload_n 0, 1) := by decide +kernel
theorem dX11_read_281 : decode cX11_read 281 = .ok (.getfield 62, 3) := by decide +kernel
theorem dX11_read_284 : decode cX11_read 284 = .ok (.bipush 40, 2) := by decide +kernel
theorem dX11_read_286 : decode cX11_read 286 = .ok (.iload_n 1, 1) := by decide +kernel
theorem dX11_read_287 : decode cX11_read 287 = .ok (.imul, 1) := by decide +kernel
theorem dX11_read_288 : decode cX11_read 288 = .ok (.iload_n 3, 1) := by decide +kernel
theorem dX11_read_289 : decode cX11_read 289 = .ok (.iadd, 1) := by decide +kernel
theorem dX11_read_290 : decode cX11_read 290 = .ok (.iload 9, 2) := by decide +kernel
theorem dX11_read_292 : decode cX11_read 292 = .ok (.iadd, 1) := by decide +kernel
theorem dX11_read_293 : decode cX11_read 293 = .ok (.iaload, 1) := by decide +kernel
theorem dX11_read_294 : decode cX11_read 294 = .ok (.iastore, 1) := by decide +kernel
theorem dX11_read_295 : decode cX11_read 295 = .ok (.iinc 9 1, 3) := by decide +kernel
theorem dX11_read_298 : decode cX11_read 298 = .ok (.goto (-64), 3) := by decide +kernel
theorem dX11_read_301 : decode cX11_read 301 = .ok (.aload_n 0, 1) := by decide +kernel
theorem dX11_read_302 : decode cX11_read 302 = .ok (.iload 6, 2) := by decide +kernel
theorem dX11_read_304 : decode cX11_read 304 = .ok (.putfield 337, 3) := by decide +kernel
theorem dX11_read_307 : decode cX11_read 307 = .ok (.iload 7, 2) := by decide +kernel
theorem dX11_read_309 : decode cX11_read 309 = .ok (.ireturn, 1) := by decide +kernel
theorem dX11_torn_0 : decode cX11_torn 0 = .ok (.aload_n 0, 1) := by decide +kernel
theorem dX11_torn_1 : decode cX11_torn 1 = .ok (.getfield 337, 3) := by decide +kernel
theorem dX11_torn_4 : decode cX11_torn 4 = .ok (.ireturn, 1) := by decide +kernel
theorem dX11_count_0 : decode cX11_count 0 = .ok (.iload_n 1, 1) := by decide +kernel
theorem dX11_count_1 : decode cX11_count 1 = .ok (.tableswitch 94 0 3 #[31, 61, 66, 89], 31) := by decide +kernel
theorem dX11_count_32 : decode cX11_count 32 = .ok (.aload_n 0, 1) := by decide +kernel
theorem dX11_count_33 : decode cX11_count 33 = .ok (.getfield 28, 3) := by decide +kernel
theorem dX11_count_36 : decode cX11_count 36 = .ok (.iconst 0, 1) := by decide +kernel
theorem dX11_count_37 : decode cX11_count 37 = .ok (.baload, 1) := by decide +kernel
theorem dX11_count_38 : decode cX11_count 38 = .ok (.ifCond .eq 7, 3) := by decide +kernel
theorem dX11_count_41 : decode cX11_count 41 = .ok (.iconst 1, 1) := by decide +kernel
theorem dX11_count_42 : decode cX11_count 42 = .ok (.goto 4, 3) := by decide +kernel
theorem dX11_count_45 : decode cX11_count 45 = .ok (.iconst 0, 1) := by decide +kernel
theorem dX11_count_46 : decode cX11_count 46 = .ok (.aload_n 0, 1) := by decide +kernel
theorem dX11_count_47 : decode cX11_count 47 = .ok (.getfield 28, 3) := by decide +kernel
theorem dX11_count_50 : decode cX11_count 50 = .ok (.iconst 1, 1) := by decide +kernel
theorem dX11_count_51 : decode cX11_count 51 = .ok (.baload, 1) := by decide +kernel
theorem dX11_count_52 : decode cX11_count 52 = .ok (.ifCond .eq 7, 3) := by decide +kernel
theorem dX11_count_55 : decode cX11_count 55 = .ok (.iconst 1, 1) := by decide +kernel
theorem dX11_count_56 : decode cX11_count 56 = .ok (.goto 4, 3) := by decide +kernel
theorem dX11_count_59 : decode cX11_count 59 = .ok (.iconst 0, 1) := by decide +kernel
theorem dX11_count_60 : decode cX11_count 60 = .ok (.iadd, 1) := by decide +kernel
theorem dX11_count_61 : decode cX11_count 61 = .ok (.ireturn, 1) := by decide +kernel
theorem dX11_count_62 : decode cX11_count 62 = .ok (.aload_n 0, 1) := by decide +kernel
theorem dX11_count_63 : decode cX11_count 63 = .ok (.getfield 65, 3) := by decide +kernel
theorem dX11_count_66 : decode cX11_count 66 = .ok (.ireturn, 1) := by decide +kernel
theorem dX11_count_67 : decode cX11_count 67 = .ok (.aload_n 0, 1) := by decide +kernel
theorem dX11_count_68 : decode cX11_count 68 = .ok (.getfield 56, 3) := by decide +kernel
theorem dX11_count_71 : decode cX11_count 71 = .ok (.iconst 0, 1) := by decide +kernel
theorem dX11_count_72 : decode cX11_count 72 = .ok (.iaload, 1) := by decide +kernel
theorem dX11_count_73 : decode cX11_count 73 = .ok (.bipush (-4), 2) := by decide +kernel
theorem dX11_count_75 : decode cX11_count 75 = .ok (.if_icmp .ne 8, 3) := by decide +kernel
theorem dX11_count_78 : decode cX11_count 78 = .ok (.bipush (-4), 2) := by decide +kernel
theorem dX11_count_80 : decode cX11_count 80 = .ok (.goto 9, 3) := by decide +kernel
theorem dX11_count_83 : decode cX11_count 83 = .ok (.aload_n 0, 1) := by decide +kernel
theorem dX11_count_84 : decode cX11_count 84 = .ok (.getfield 59, 3) := by decide +kernel
theorem dX11_count_87 : decode cX11_count 87 = .ok (.iconst 0, 1) := by decide +kernel
theorem dX11_count_88 : decode cX11_count 88 = .ok (.iaload, 1) := by decide +kernel
theorem dX11_count_89 : decode cX11_count 89 = .ok (.ireturn, 1) := by decide +kernel
theorem dX11_count_90 : decode cX11_count 90 = .ok (.aload_n 0, 1) := by decide +kernel
theorem dX11_count_91 : decode cX11_count 91 = .ok (.invokevirtual 310, 3) := by decide +kernel
theorem dX11_count_94 : decode cX11_count 94 = .ok (.ireturn, 1) := by decide +kernel
theorem dX11_count_95 : decode cX11_count 95 = .ok (.iconst (-1), 1) := by decide +kernel
theorem dX11_count_96 : decode cX11_count 96 = .ok (.ireturn, 1) := by decide +kernel
theorem dL_law_0 : decode cL_law 0 = .ok (.new 7, 3) := by decide +kernel
theorem dL_law_3 : decode cL_law 3 = .ok (.dup, 1) := by decide +kernel
theorem dL_law_4 : decode cL_law 4 = .ok (.invokespecial 9, 3) := by decide +kernel
theorem dL_law_7 : decode cL_law 7 = .ok (.astore_n 1, 1) := by decide +kernel
theorem dL_law_8 : decode cL_law 8 = .ok (.new 10, 3) := by decide +kernel
theorem dL_law_11 : decode cL_law 11 = .ok (.dup, 1) := by decide +kernel
theorem dL_law_12 : decode cL_law 12 = .ok (.invokespecial 12, 3) := by decide +kernel
theorem dL_law_15 : decode cL_law 15 = .ok (.astore_n 2, 1) := by decide +kernel
theorem dL_law_16 : decode cL_law 16 = .ok (.iconst 0, 1) := by decide +kernel
theorem dL_law_17 : decode cL_law 17 = .ok (.istore_n 3, 1) := by decide +kernel
theorem dL_law_18 : decode cL_law 18 = .ok (.iload_n 3, 1) := by decide +kernel
theorem dL_law_19 : decode cL_law 19 = .ok (.aload_n 0, 1) := by decide +kernel
theorem dL_law_20 : decode cL_law 20 = .ok (.arraylength, 1) := by decide +kernel
theorem dL_law_21 : decode cL_law 21 = .ok (.bipush 6, 2) := by decide +kernel
theorem dL_law_23 : decode cL_law 23 = .ok (.isub, 1) := by decide +kernel
theorem dL_law_24 : decode cL_law 24 = .ok (.if_icmp .gt 1225, 3) := by decide +kernel
theorem dL_law_27 : decode cL_law 27 = .ok (.aload_n 0, 1) := by decide +kernel
theorem dL_law_28 : decode cL_law 28 = .ok (.iload_n 3, 1) := by decide +kernel
theorem dL_law_29 : decode cL_law 29 = .ok (.iaload, 1) := by decide +kernel
theorem dL_law_30 : decode cL_law 30 = .ok (.bipush 63, 2) := by decide +kernel
theorem dL_law_32 : decode cL_law 32 = .ok (.iand, 1) := by decide +kernel
theorem dL_law_33 : decode cL_law 33 = .ok (.tableswitch 1210 0 34 #[155, 208, 231, 244, 257, 280, 313, 346, 389, 402, 425, 438, 461, 494, 527, 560, 583, 606, 639, 672, 715, 778, 801, 834, 857, 880, 913, 936, 969, 992, 1025, 1068, 1111, 1174, 1187], 155) := by decide +kernel
theorem dL_law_188 : decode cL_law 188 = .ok (.aload_n 1, 1) := by decide +kernel
theorem dL_law_189 : decode cL_law 189 = .ok (.aload_n 0, 1) := by decide +kernel
theorem dL_law_190 : decode cL_law 190 = .ok (.iload_n 3, 1) := by decide +kernel
theorem dL_law_191 : decode cL_law 191 = .ok (.iconst 1, 1) := by decide +kernel
theorem dL_law_192 : decode cL_law 192 = .ok (.iadd, 1) := by decide +kernel
theorem dL_law_193 : decode cL_law 193 = .ok (.iaload, 1) := by decide +kernel
theorem dL_law_194 : decode cL_law 194 = .ok (.i2l, 1) := by decide +kernel
theorem dL_law_195 : decode cL_law 195 = .ok (.bipush 32, 2) := by decide +kernel
theorem dL_law_197 : decode cL_law 197 = .ok (.lshl, 1) := by decide +kernel
theorem dL_law_198 : decode cL_law 198 = .ok (.aload_n 0, 1) := by decide +kernel
theorem dL_law_199 : decode cL_law 199 = .ok (.iload_n 3, 1) := by decide +kernel
theorem dL_law_200 : decode cL_law 200 = .ok (.iconst 2, 1) := by decide +kernel
theorem dL_law_201 : decode cL_law 201 = .ok (.iadd, 1) := by decide +kernel
theorem dL_law_202 : decode cL_law 202 = .ok (.iaload, 1) := by decide +kernel
theorem dL_law_203 : decode cL_law 203 = .ok (.i2l, 1) := by decide +kernel
theorem dL_law_204 : decode cL_law 204 = .ok (.ldc2_w 13, 3) := by decide +kernel
theorem dL_law_207 : decode cL_law 207 = .ok (.land, 1) := by decide +kernel
theorem dL_law_208 : decode cL_law 208 = .ok (.lor, 1) := by decide +kernel
theorem dL_law_209 : decode cL_law 209 = .ok (.invokevirtual 15, 3) := by decide +kernel
theorem dL_law_212 : decode cL_law 212 = .ok (.pop, 1) := by decide +kernel
theorem dL_law_213 : decode cL_law 213 = .ok (.aload_n 2, 1) := by decide +kernel
theorem dL_law_214 : decode cL_law 214 = .ok (.aload_n 0, 1) := by decide +kernel
theorem dL_law_215 : decode cL_law 215 = .ok (.iload_n 3, 1) := by decide +kernel
theorem dL_law_216 : decode cL_law 216 = .ok (.iconst 1, 1) := by decide +kernel
theorem dL_law_217 : decode cL_law 217 = .ok (.iadd, 1) := by decide +kernel
theorem dL_law_218 : decode cL_law 218 = .ok (.iaload, 1) := by decide +kernel
theorem dL_law_219 : decode cL_law 219 = .ok (.i2l, 1) := by decide +kernel
theorem dL_law_220 : decode cL_law 220 = .ok (.bipush 32, 2) := by decide +kernel
theorem dL_law_222 : decode cL_law 222 = .ok (.lshl, 1) := by decide +kernel
theorem dL_law_223 : decode cL_law 223 = .ok (.aload_n 0, 1) := by decide +kernel
theorem dL_law_224 : decode cL_law 224 = .ok (.iload_n 3, 1) := by decide +kernel
theorem dL_law_225 : decode cL_law 225 = .ok (.iconst 2, 1) := by decide +kernel
theorem dL_law_226 : decode cL_law 226 = .ok (.iadd, 1) := by decide +kernel
theorem dL_law_227 : decode cL_law 227 = .ok (.iaload, 1) := by decide +kernel
theorem dL_law_228 : decode cL_law 228 = .ok (.i2l, 1) := by decide +kernel
theorem dL_law_229 : decode cL_law 229 = .ok (.ldc2_w 13, 3) := by decide +kernel
theorem dL_law_232 : decode cL_law 232 = .ok (.land, 1) := by decide +kernel
theorem dL_law_233 : decode cL_law 233 = .ok (.lor, 1) := by decide +kernel
theorem dL_law_234 : decode cL_law 234 = .ok (.invokevirtual 19, 3) := by decide +kernel
theorem dL_law_237 : decode cL_law 237 = .ok (.pop, 1) := by decide +kernel
theorem dL_law_238 : decode cL_law 238 = .ok (.goto 1005, 3) := by decide +kernel
theorem dL_law_241 : decode cL_law 241 = .ok (.aload_n 1, 1) := by decide +kernel
theorem dL_law_242 : decode cL_law 242 = .ok (.aload_n 0, 1) := by decide +kernel
theorem dL_law_243 : decode cL_law 243 = .ok (.iload_n 3, 1) := by decide +kernel
theorem dL_law_244 : decode cL_law 244 = .ok (.iconst 1, 1) := by decide +kernel
theorem dL_law_245 : decode cL_law 245 = .ok (.iadd, 1) := by decide +kernel
theorem dL_law_246 : decode cL_law 246 = .ok (.iaload, 1) := by decide +kernel
theorem dL_law_247 : decode cL_law 247 = .ok (.invokevirtual 20, 3) := by decide +kernel
theorem dL_law_250 : decode cL_law 250 = .ok (.pop, 1) := by decide +kernel
theorem dL_law_251 : decode cL_law 251 = .ok (.aload_n 2, 1) := by decide +kernel
theorem dL_law_252 : decode cL_law 252 = .ok (.aload_n 0, 1) := by decide +kernel
theorem dL_law_253 : decode cL_law 253 = .ok (.iload_n 3, 1) := by decide +kernel
theorem dL_law_254 : decode cL_law 254 = .ok (.iconst 1, 1) := by decide +kernel
theorem dL_law_255 : decode cL_law 255 = .ok (.iadd, 1) := by decide +kernel
theorem dL_law_256 : decode cL_law 256 = .ok (.iaload, 1) := by decide +kernel
theorem dL_law_257 : decode cL_law 257 = .ok (.invokevirtual 24, 3) := by decide +kernel
theorem dL_law_260 : decode cL_law 260 = .ok (.pop, 1) := by decide +kernel
theorem dL_law_261 : decode cL_law 261 = .ok (.goto 982, 3) := by decide +kernel
theorem dL_law_264 : decode cL_law 264 = .ok (.aload_n 1, 1) := by decide +kernel
theorem dL_law_265 : decode cL_law 265 = .ok (.invokevirtual 25, 3) := by decide +kernel
theorem dL_law_268 : decode cL_law 268 = .ok (.aload_n 2, 1) := by decide +kernel
theorem dL_law_269 : decode cL_law 269 = .ok (.invokevirtual 29, 3) := by decide +kernel
theorem dL_law_272 : decode cL_law 272 = .ok (.if_icmp .eq 971, 3) := by decide +kernel
theorem dL_law_275 : decode cL_law 275 = .ok (.iconst 0, 1) := by decide +kernel
theorem dL_law_276 : decode cL_law 276 = .ok (.ireturn, 1) := by decide +kernel
theorem dL_law_277 : decode cL_law 277 = .ok (.aload_n 1, 1) := by decide +kernel
theorem dL_law_278 : decode cL_law 278 = .ok (.invokevirtual 30, 3) := by decide +kernel
theorem dL_law_281 : decode cL_law 281 = .ok (.pop, 1) := by decide +kernel
theorem dL_law_282 : decode cL_law 282 = .ok (.aload_n 2, 1) := by decide +kernel
theorem dL_law_283 : decode cL_law 283 = .ok (.invokevirtual 33, 3) := by decide +kernel
theorem dL_law_286 : decode cL_law 286 = .ok (.pop, 1) := by decide +kernel
theorem dL_law_287 : decode cL_law 287 = .ok (.goto 956, 3) := by decide +kernel
theorem dL_law_290 : decode cL_law 290 = .ok (.aload_n 1, 1) := by decide +kernel
theorem dL_law_291 : decode cL_law 291 = .ok (.aload_n 0, 1) := by decide +kernel
theorem dL_law_292 : decode cL_law 292 = .ok (.iload_n 3, 1) := by decide +kernel
theorem dL_law_293 : decode cL_law 293 = .ok (.iconst 1, 1) := by decide +kernel
theorem dL_law_294 : decode cL_law 294 = .ok (.iadd, 1) := by decide +kernel
theorem dL_law_295 : decode cL_law 295 = .ok (.iaload, 1) := by decide +kernel
theorem dL_law_296 : decode cL_law 296 = .ok (.invokevirtual 34, 3) := by decide +kernel
theorem dL_law_299 : decode cL_law 299 = .ok (.pop, 1) := by decide +kernel
theorem dL_law_300 : decode cL_law 300 = .ok (.aload_n 2, 1) := by decide +kernel
theorem dL_law_301 : decode cL_law 301 = .ok (.aload_n 0, 1) := by decide +kernel
theorem dL_law_302 : decode cL_law 302 = .ok (.iload_n 3, 1) := by decide +kernel
theorem dL_law_303 : decode cL_law 303 = .ok (.iconst 1, 1) := by decide +kernel
theorem dL_law_304 : decode cL_law 304 = .ok (.iadd, 1) := by decide +kernel
theorem dL_law_305 : decode cL_law 305 = .ok (.iaload, 1) := by decide +kernel
theorem dL_law_306 : decode cL_law 306 = .ok (.invokevirtual 37, 3) := by decide +kernel
theorem dL_law_309 : decode cL_law 309 = .ok (.pop, 1) := by decide +kernel
theorem dL_law_310 : decode cL_law 310 = .ok (.goto 933, 3) := by decide +kernel
theorem dL_law_313 : decode cL_law 313 = .ok (.aload_n 1, 1) := by decide +kernel
theorem dL_law_314 : decode cL_law 314 = .ok (.aload_n 0, 1) := by decide +kernel
theorem dL_law_315 : decode cL_law 315 = .ok (.iload_n 3, 1) := by decide +kernel
theorem dL_law_316 : decode cL_law 316 = .ok (.iconst 1, 1) := by decide +kernel
theorem dL_law_317 : decode cL_law 317 = .ok (.iadd, 1) := by decide +kernel
theorem dL_law_318 : decode cL_law 318 = .ok (.iaload, 1) := by decide +kernel
theorem dL_law_319 : decode cL_law 319 = .ok (.aload_n 0, 1) := by decide +kernel
theorem dL_law_320 : decode cL_law 320 = .ok (.iload_n 3, 1) := by decide +kernel
theorem dL_law_321 : decode cL_law 321 = .ok (.iconst 2, 1) := by decide +kernel
theorem dL_law_322 : decode cL_law 322 = .ok (.iadd, 1) := by decide +kernel
theorem dL_law_323 : decode cL_law 323 = .ok (.iaload, 1) := by decide +kernel
theorem dL_law_324 : decode cL_law 324 = .ok (.invokevirtual 38, 3) := by decide +kernel
theorem dL_law_327 : decode cL_law 327 = .ok (.pop, 1) := by decide +kernel
theorem dL_law_328 : decode cL_law 328 = .ok (.aload_n 2, 1) := by decide +kernel
theorem dL_law_329 : decode cL_law 329 = .ok (.aload_n 0, 1) := by decide +kernel
theorem dL_law_330 : decode cL_law 330 = .ok (.iload_n 3, 1) := by decide +kernel
theorem dL_law_331 : decode cL_law 331 = .ok (.iconst 1, 1) := by decide +kernel
theorem dL_law_332 : decode cL_law 332 = .ok (.iadd, 1) := by decide +kernel
theorem dL_law_333 : decode cL_law 333 = .ok (.iaload, 1) := by decide +kernel
theorem dL_law_334 : decode cL_law 334 = .ok (.aload_n 0, 1) := by decide +kernel
theorem dL_law_335 : decode cL_law 335 = .ok (.iload_n 3, 1) := by decide +kernel
theorem dL_law_336 : decode cL_law 336 = .ok (.iconst 2, 1) := by decide +kernel
theorem dL_law_337 : decode cL_law 337 = .ok (.iadd, 1) := by decide +kernel
theorem dL_law_338 : decode cL_law 338 = .ok (.iaload, 1) := by decide +kernel
theorem dL_law_339 : decode cL_law 339 = .ok (.invokevirtual 42, 3) := by decide +kernel
theorem dL_law_342 : decode cL_law 342 = .ok (.pop, 1) := by decide +kernel
theorem dL_law_343 : decode cL_law 343 = .ok (.goto 900, 3) := by decide +kernel
theorem dL_law_346 : decode cL_law 346 = .ok (.aload_n 1, 1) := by decide +kernel
theorem dL_law_347 : decode cL_law 347 = .ok (.aload_n 0, 1) := by decide +kernel
theorem dL_law_348 : decode cL_law 348 = .ok (.iload_n 3, 1) := by decide +kernel
theorem dL_law_349 : decode cL_law 349 = .ok (.iconst 1, 1) := by decide +kernel
theorem dL_law_350 : decode cL_law 350 = .ok (.iadd, 1) := by decide +kernel
theorem dL_law_351 : decode cL_law 351 = .ok (.iaload, 1) := by decide +kernel
theorem dL_law_352 : decode cL_law 352 = .ok (.aload_n 0, 1) := by decide +kernel
theorem dL_law_353 : decode cL_law 353 = .ok (.iload_n 3, 1) := by decide +kernel
theorem dL_law_354 : decode cL_law 354 = .ok (.iconst 2, 1) := by decide +kernel
theorem dL_law_355 : decode cL_law 355 = .ok (.iadd, 1) := by decide +kernel
theorem dL_law_356 : decode cL_law 356 = .ok (.iaload, 1) := by decide +kernel
theorem dL_law_357 : decode cL_law 357 = .ok (.invokevirtual 43, 3) := by decide +kernel
theorem dL_law_360 : decode cL_law 360 = .ok (.pop, 1) := by decide +kernel
theorem dL_law_361 : decode cL_law 361 = .ok (.aload_n 2, 1) := by decide +kernel
theorem dL_law_362 : decode cL_law 362 = .ok (.aload_n 0, 1) := by decide +kernel
theorem dL_law_363 : decode cL_law 363 = .ok (.iload_n 3, 1) := by decide +kernel
theorem dL_law_364 : decode cL_law 364 = .ok (.iconst 1, 1) := by decide +kernel
theorem dL_law_365 : decode cL_law 365 = .ok (.iadd, 1) := by decide +kernel
theorem dL_law_366 : decode cL_law 366 = .ok (.iaload, 1) := by decide +kernel
theorem dL_law_367 : decode cL_law 367 = .ok (.aload_n 0, 1) := by decide +kernel
theorem dL_law_368 : decode cL_law 368 = .ok (.iload_n 3, 1) := by decide +kernel
theorem dL_law_369 : decode cL_law 369 = .ok (.iconst 2, 1) := by decide +kernel
theorem dL_law_370 : decode cL_law 370 = .ok (.iadd, 1) := by decide +kernel
theorem dL_law_371 : decode cL_law 371 = .ok (.iaload, 1) := by decide +kernel
theorem dL_law_372 : decode cL_law 372 = .ok (.invokevirtual 46, 3) := by decide +kernel
theorem dL_law_375 : decode cL_law 375 = .ok (.pop, 1) := by decide +kernel
theorem dL_law_376 : decode cL_law 376 = .ok (.goto 867, 3) := by decide +kernel
theorem dL_law_379 : decode cL_law 379 = .ok (.aload_n 1, 1) := by decide +kernel
theorem dL_law_380 : decode cL_law 380 = .ok (.aload_n 0, 1) := by decide +kernel
theorem dL_law_381 : decode cL_law 381 = .ok (.iload_n 3, 1) := by decide +kernel
theorem dL_law_382 : decode cL_law 382 = .ok (.iconst 1, 1) := by decide +kernel
theorem dL_law_383 : decode cL_law 383 = .ok (.iadd, 1) := by decide +kernel
theorem dL_law_384 : decode cL_law 384 = .ok (.iaload, 1) := by decide +kernel
theorem dL_law_385 : decode cL_law 385 = .ok (.aload_n 0, 1) := by decide +kernel
theorem dL_law_386 : decode cL_law 386 = .ok (.iload_n 3, 1) := by decide +kernel
theorem dL_law_387 : decode cL_law 387 = .ok (.iconst 2, 1) := by decide +kernel
theorem dL_law_388 : decode cL_law 388 = .ok (.iadd, 1) := by decide +kernel
theorem dL_law_389 : decode cL_law 389 = .ok (.iaload, 1) := by decide +kernel
theorem dL_law_390 : decode cL_law 390 = .ok (.aload_n 0, 1) := by decide +kernel
theorem dL_law_391 : decode cL_law 391 = .ok (.iload_n 3, 1) := by decide +kernel
theorem dL_law_392 : decode cL_law 392 = .ok (.iconst 3, 1) := by decide +kernel
theorem dL_law_393 : decode cL_law 393 = .ok (.iadd, 1) := by decide +kernel
theorem dL_law_394 : decode cL_law 394 = .ok (.iaload, 1) := by decide +kernel
theorem dL_law_395 : decode cL_law 395 = .ok (.invokevirtual 47, 3) := by decide +kernel
theorem dL_law_398 : decode cL_law 398 = .ok (.pop, 1) := by decide +kernel
theorem dL_law_399 : decode cL_law 399 = .ok (.aload_n 2, 1) := by decide +kernel
theorem dL_law_400 : decode cL_law 400 = .ok (.aload_n 0, 1) := by decide +kernel
theorem dL_law_401 : decode cL_law 401 = .ok (.iload_n 3, 1) := by decide +kernel
theorem dL_law_402 : decode cL_law 402 = .ok (.iconst 1, 1) := by decide +kernel
theorem dL_law_403 : decode cL_law 403 = .ok (.iadd, 1) := by decide +kernel
theorem dL_law_404 : decode cL_law 404 = .ok (.iaload, 1) := by decide +kernel
theorem dL_law_405 : decode cL_law 405 = .ok (.aload_n 0, 1) := by decide +kernel
theorem dL_law_406 : decode cL_law 406 = .ok (.iload_n 3, 1) := by decide +kernel
theorem dL_law_407 : decode cL_law 407 = .ok (.iconst 2, 1) := by decide +kernel
theorem dL_law_408 : decode cL_law 408 = .ok (.iadd, 1) := by decide +kernel
theorem dL_law_409 : decode cL_law 409 = .ok (.iaload, 1) := by decide +kernel
theorem dL_law_410 : decode cL_law 410 = .ok (.aload_n 0, 1) := by decide +kernel
theorem dL_law_411 : decode cL_law 411 = .ok (.iload_n 3, 1) := by decide +kernel
theorem dL_law_412 : decode cL_law 412 = .ok (.iconst 3, 1) := by decide +kernel
theorem dL_law_413 : decode cL_law 413 = .ok (.iadd, 1) := by decide +kernel
theorem dL_law_414 : decode cL_law 414 = .ok (.iaload, 1) := by decide +kernel
theorem dL_law_415 : decode cL_law 415 = .ok (.invokevirtual 51, 3) := by decide +kernel
theorem dL_law_418 : decode cL_law 418 = .ok (.pop, 1) := by decide +kernel
theorem dL_law_419 : decode cL_law 419 = .ok (.goto 824, 3) := by decide +kernel
theorem dL_law_422 : decode cL_law 422 = .ok (.aload_n 1, 1) := by decide +kernel
theorem dL_law_423 : decode cL_law 423 = .ok (.invokevirtual 52, 3) := by decide +kernel
theorem dL_law_426 : decode cL_law 426 = .ok (.pop, 1) := by decide +kernel
theorem dL_law_427 : decode cL_law 427 = .ok (.aload_n 2, 1) := by decide +kernel
theorem dL_law_428 : decode cL_law 428 = .ok (.invokevirtual 55, 3) := by decide +kernel
theorem dL_law_431 : decode cL_law 431 = .ok (.pop, 1) := by decide +kernel
theorem dL_law_432 : decode cL_law 432 = .ok (.goto 811, 3) := by decide +kernel
theorem dL_law_435 : decode cL_law 435 = .ok (.aload_n 1, 1) := by decide +kernel
theorem dL_law_436 : decode cL_law 436 = .ok (.aload_n 0, 1) := by decide +kernel
theorem dL_law_437 : decode cL_law 437 = .ok (.iload_n 3, 1) := by decide +kernel
theorem dL_law_438 : decode cL_law 438 = .ok (.iconst 1, 1) := by decide +kernel
theorem dL_law_439 : decode cL_law 439 = .ok (.iadd, 1) := by decide +kernel
theorem dL_law_440 : decode cL_law 440 = .ok (.iaload, 1) := by decide +kernel
theorem dL_law_441 : decode cL_law 441 = .ok (.invokevirtual 56, 3) := by decide +kernel
theorem dL_law_444 : decode cL_law 444 = .ok (.pop, 1) := by decide +kernel
theorem dL_law_445 : decode cL_law 445 = .ok (.aload_n 2, 1) := by decide +kernel
theorem dL_law_446 : decode cL_law 446 = .ok (.aload_n 0, 1) := by decide +kernel
theorem dL_law_447 : decode cL_law 447 = .ok (.iload_n 3, 1) := by decide +kernel
theorem dL_law_448 : decode cL_law 448 = .ok (.iconst 1, 1) := by decide +kernel
theorem dL_law_449 : decode cL_law 449 = .ok (.iadd, 1) := by decide +kernel
theorem dL_law_450 : decode cL_law 450 = .ok (.iaload, 1) := by decide +kernel
theorem dL_law_451 : decode cL_law 451 = .ok (.invokevirtual 59, 3) := by decide +kernel
theorem dL_law_454 : decode cL_law 454 = .ok (.pop, 1) := by decide +kernel
theorem dL_law_455 : decode cL_law 455 = .ok (.goto 788, 3) := by decide +kernel
theorem dL_law_458 : decode cL_law 458 = .ok (.aload_n 1, 1) := by decide +kernel
theorem dL_law_459 : decode cL_law 459 = .ok (.invokevirtual 60, 3) := by decide +kernel
theorem dL_law_462 : decode cL_law 462 = .ok (.pop, 1) := by decide +kernel
theorem dL_law_463 : decode cL_law 463 = .ok (.aload_n 2, 1) := by decide +kernel
theorem dL_law_464 : decode cL_law 464 = .ok (.invokevirtual 63, 3) := by decide +kernel
theorem dL_law_467 : decode cL_law 467 = .ok (.pop, 1) := by decide +kernel
theorem dL_law_468 : decode cL_law 468 = .ok (.goto 775, 3) := by decide +kernel
theorem dL_law_471 : decode cL_law 471 = .ok (.aload_n 1, 1) := by decide +kernel
theorem dL_law_472 : decode cL_law 472 = .ok (.aload_n 0, 1) := by decide +kernel
theorem dL_law_473 : decode cL_law 473 = .ok (.iload_n 3, 1) := by decide +kernel
theorem dL_law_474 : decode cL_law 474 = .ok (.iconst 1, 1) := by decide +kernel
theorem dL_law_475 : decode cL_law 475 = .ok (.iadd, 1) := by decide +kernel
theorem dL_law_476 : decode cL_law 476 = .ok (.iaload, 1) := by decide +kernel
theorem dL_law_477 : decode cL_law 477 = .ok (.invokevirtual 64, 3) := by decide +kernel
theorem dL_law_480 : decode cL_law 480 = .ok (.pop, 1) := by decide +kernel
theorem dL_law_481 : decode cL_law 481 = .ok (.aload_n 2, 1) := by decide +kernel
theorem dL_law_482 : decode cL_law 482 = .ok (.aload_n 0, 1) := by decide +kernel
theorem dL_law_483 : decode cL_law 483 = .ok (.iload_n 3, 1) := by decide +kernel
theorem dL_law_484 : decode cL_law 484 = .ok (.iconst 1, 1) := by decide +kernel
theorem dL_law_485 : decode cL_law 485 = .ok (.iadd, 1) := by decide +kernel
theorem dL_law_486 : decode cL_law 486 = .ok (.iaload, 1) := by decide +kernel
theorem dL_law_487 : decode cL_law 487 = .ok (.invokevirtual 67, 3) := by decide +kernel
theorem dL_law_490 : decode cL_law 490 = .ok (.pop, 1) := by decide +kernel
theorem dL_law_491 : decode cL_law 491 = .ok (.goto 752, 3) := by decide +kernel
theorem dL_law_494 : decode cL_law 494 = .ok (.aload_n 1, 1) := by decide +kernel
theorem dL_law_495 : decode cL_law 495 = .ok (.aload_n 0, 1) := by decide +kernel
theorem dL_law_496 : decode cL_law 496 = .ok (.iload_n 3, 1) := by decide +kernel
theorem dL_law_497 : decode cL_law 497 = .ok (.iconst 1, 1) := by decide +kernel
theorem dL_law_498 : decode cL_law 498 = .ok (.iadd, 1) := by decide +kernel
theorem dL_law_499 : decode cL_law 499 = .ok (.iaload, 1) := by decide +kernel
theorem dL_law_500 : decode cL_law 500 = .ok (.aload_n 0, 1) := by decide +kernel
theorem dL_law_501 : decode cL_law 501 = .ok (.iload_n 3, 1) := by decide +kernel
theorem dL_law_502 : decode cL_law 502 = .ok (.iconst 2, 1) := by decide +kernel
theorem dL_law_503 : decode cL_law 503 = .ok (.iadd, 1) := by decide +kernel
theorem dL_law_504 : decode cL_law 504 = .ok (.iaload, 1) := by decide +kernel
theorem dL_law_505 : decode cL_law 505 = .ok (.invokevirtual 68, 3) := by decide +kernel
theorem dL_law_508 : decode cL_law 508 = .ok (.pop, 1) := by decide +kernel
theorem dL_law_509 : decode cL_law 509 = .ok (.aload_n 2, 1) := by decide +kernel
theorem dL_law_510 : decode cL_law 510 = .ok (.aload_n 0, 1) := by decide +kernel
theorem dL_law_511 : decode cL_law 511 = .ok (.iload_n 3, 1) := by decide +kernel
theorem dL_law_512 : decode cL_law 512 = .ok (.iconst 1, 1) := by decide +kernel
theorem dL_law_513 : decode cL_law 513 = .ok (.iadd, 1) := by decide +kernel
theorem dL_law_514 : decode cL_law 514 = .ok (.iaload, 1) := by decide +kernel
theorem dL_law_515 : decode cL_law 515 = .ok (.aload_n 0, 1) := by decide +kernel
theorem dL_law_516 : decode cL_law 516 = .ok (.iload_n 3, 1) := by decide +kernel
theorem dL_law_517 : decode cL_law 517 = .ok (.iconst 2, 1) := by decide +kernel
theorem dL_law_518 : decode cL_law 518 = .ok (.iadd, 1) := by decide +kernel
theorem dL_law_519 : decode cL_law 519 = .ok (.iaload, 1) := by decide +kernel
theorem dL_law_520 : decode cL_law 520 = .ok (.invokevirtual 71, 3) := by decide +kernel
theorem dL_law_523 : decode cL_law 523 = .ok (.pop, 1) := by decide +kernel
theorem dL_law_524 : decode cL_law 524 = .ok (.goto 719, 3) := by decide +kernel
theorem dL_law_527 : decode cL_law 527 = .ok (.aload_n 1, 1) := by decide +kernel
theorem dL_law_528 : decode cL_law 528 = .ok (.aload_n 0, 1) := by decide +kernel
theorem dL_law_529 : decode cL_law 529 = .ok (.iload_n 3, 1) := by decide +kernel
theorem dL_law_530 : decode cL_law 530 = .ok (.iconst 1, 1) := by decide +kernel
theorem dL_law_531 : decode cL_law 531 = .ok (.iadd, 1) := by decide +kernel
theorem dL_law_532 : decode cL_law 532 = .ok (.iaload, 1) := by decide +kernel
theorem dL_law_533 : decode cL_law 533 = .ok (.aload_n 0, 1) := by decide +kernel
theorem dL_law_534 : decode cL_law 534 = .ok (.iload_n 3, 1) := by decide +kernel
theorem dL_law_535 : decode cL_law 535 = .ok (.iconst 2, 1) := by decide +kernel
theorem dL_law_536 : decode cL_law 536 = .ok (.iadd, 1) := by decide +kernel
theorem dL_law_537 : decode cL_law 537 = .ok (.iaload, 1) := by decide +kernel
theorem dL_law_538 : decode cL_law 538 = .ok (.invokevirtual 72, 3) := by decide +kernel
theorem dL_law_541 : decode cL_law 541 = .ok (.pop, 1) := by decide +kernel
theorem dL_law_542 : decode cL_law 542 = .ok (.aload_n 2, 1) := by decide +kernel
theorem dL_law_543 : decode cL_law 543 = .ok (.aload_n 0, 1) := by decide +kernel
theorem dL_law_544 : decode cL_law 544 = .ok (.iload_n 3, 1) := by decide +kernel
theorem dL_law_545 : decode cL_law 545 = .ok (.iconst 1, 1) := by decide +kernel
theorem dL_law_546 : decode cL_law 546 = .ok (.iadd, 1) := by decide +kernel
theorem dL_law_547 : decode cL_law 547 = .ok (.iaload, 1) := by decide +kernel
theorem dL_law_548 : decode cL_law 548 = .ok (.aload_n 0, 1) := by decide +kernel
theorem dL_law_549 : decode cL_law 549 = .ok (.iload_n 3, 1) := by decide +kernel
theorem dL_law_550 : decode cL_law 550 = .ok (.iconst 2, 1) := by decide +kernel
theorem dL_law_551 : decode cL_law 551 = .ok (.iadd, 1) := by decide +kernel
theorem dL_law_552 : decode cL_law 552 = .ok (.iaload, 1) := by decide +kernel
theorem dL_law_553 : decode cL_law 553 = .ok (.invokevirtual 75, 3) := by decide +kernel
theorem dL_law_556 : decode cL_law 556 = .ok (.pop, 1) := by decide +kernel
theorem dL_law_557 : decode cL_law 557 = .ok (.goto 686, 3) := by decide +kernel
theorem dL_law_560 : decode cL_law 560 = .ok (.aload_n 1, 1) := by decide +kernel
theorem dL_law_561 : decode cL_law 561 = .ok (.aload_n 0, 1) := by decide +kernel
theorem dL_law_562 : decode cL_law 562 = .ok (.iload_n 3, 1) := by decide +kernel
theorem dL_law_563 : decode cL_law 563 = .ok (.iconst 1, 1) := by decide +kernel
theorem dL_law_564 : decode cL_law 564 = .ok (.iadd, 1) := by decide +kernel
theorem dL_law_565 : decode cL_law 565 = .ok (.iaload, 1) := by decide +kernel
theorem dL_law_566 : decode cL_law 566 = .ok (.aload_n 0, 1) := by decide +kernel
theorem dL_law_567 : decode cL_law 567 = .ok (.iload_n 3, 1) := by decide +kernel
theorem dL_law_568 : decode cL_law 568 = .ok (.iconst 2, 1) := by decide +kernel
theorem dL_law_569 : decode cL_law 569 = .ok (.iadd, 1) := by decide +kernel
theorem dL_law_570 : decode cL_law 570 = .ok (.iaload, 1) := by decide +kernel
theorem dL_law_571 : decode cL_law 571 = .ok (.invokevirtual 76, 3) := by decide +kernel
theorem dL_law_574 : decode cL_law 574 = .ok (.pop, 1) := by decide +kernel
theorem dL_law_575 : decode cL_law 575 = .ok (.aload_n 2, 1) := by decide +kernel
theorem dL_law_576 : decode cL_law 576 = .ok (.aload_n 0, 1) := by decide +kernel
theorem dL_law_577 : decode cL_law 577 = .ok (.iload_n 3, 1) := by decide +kernel
theorem dL_law_578 : decode cL_law 578 = .ok (.iconst 1, 1) := by decide +kernel
theorem dL_law_579 : decode cL_law 579 = .ok (.iadd, 1) := by decide +kernel
theorem dL_law_580 : decode cL_law 580 = .ok (.iaload, 1) := by decide +kernel
theorem dL_law_581 : decode cL_law 581 = .ok (.aload_n 0, 1) := by decide +kernel
theorem dL_law_582 : decode cL_law 582 = .ok (.iload_n 3, 1) := by decide +kernel
theorem dL_law_583 : decode cL_law 583 = .ok (.iconst 2, 1) := by decide +kernel
theorem dL_law_584 : decode cL_law 584 = .ok (.iadd, 1) := by decide +kernel
theorem dL_law_585 : decode cL_law 585 = .ok (.iaload, 1) := by decide +kernel
theorem dL_law_586 : decode cL_law 586 = .ok (.invokevirtual 79, 3) := by decide +kernel
theorem dL_law_589 : decode cL_law 589 = .ok (.pop, 1) := by decide +kernel
theorem dL_law_590 : decode cL_law 590 = .ok (.goto 653, 3) := by decide +kernel
theorem dL_law_593 : decode cL_law 593 = .ok (.aload_n 1, 1) := by decide +kernel
theorem dL_law_594 : decode cL_law 594 = .ok (.aload_n 0, 1) := by decide +kernel
theorem dL_law_595 : decode cL_law 595 = .ok (.iload_n 3, 1) := by decide +kernel
theorem dL_law_596 : decode cL_law 596 = .ok (.iconst 1, 1) := by decide +kernel
theorem dL_law_597 : decode cL_law 597 = .ok (.iadd, 1) := by decide +kernel
theorem dL_law_598 : decode cL_law 598 = .ok (.iaload, 1) := by decide +kernel
theorem dL_law_599 : decode cL_law 599 = .ok (.invokevirtual 80, 3) := by decide +kernel
theorem dL_law_602 : decode cL_law 602 = .ok (.pop, 1) := by decide +kernel
theorem dL_law_603 : decode cL_law 603 = .ok (.aload_n 2, 1) := by decide +kernel
theorem dL_law_604 : decode cL_law 604 = .ok (.aload_n 0, 1) := by decide +kernel
theorem dL_law_605 : decode cL_law 605 = .ok (.iload_n 3, 1) := by decide +kernel
theorem dL_law_606 : decode cL_law 606 = .ok (.iconst 1, 1) := by decide +kernel
theorem dL_law_607 : decode cL_law 607 = .ok (.iadd, 1) := by decide +kernel
theorem dL_law_608 : decode cL_law 608 = .ok (.iaload, 1) := by decide +kernel
theorem dL_law_609 : decode cL_law 609 = .ok (.invokevirtual 83, 3) := by decide +kernel
theorem dL_law_612 : decode cL_law 612 = .ok (.pop, 1) := by decide +kernel
theorem dL_law_613 : decode cL_law 613 = .ok (.goto 630, 3) := by decide +kernel
theorem dL_law_616 : decode cL_law 616 = .ok (.aload_n 1, 1) := by decide +kernel
theorem dL_law_617 : decode cL_law 617 = .ok (.aload_n 0, 1) := by decide +kernel
theorem dL_law_618 : decode cL_law 618 = .ok (.iload_n 3, 1) := by decide +kernel
theorem dL_law_619 : decode cL_law 619 = .ok (.iconst 1, 1) := by decide +kernel
theorem dL_law_620 : decode cL_law 620 = .ok (.iadd, 1) := by decide +kernel
theorem dL_law_621 : decode cL_law 621 = .ok (.iaload, 1) := by decide +kernel
theorem dL_law_622 : decode cL_law 622 = .ok (.invokevirtual 84, 3) := by decide +kernel
theorem dL_law_625 : decode cL_law 625 = .ok (.pop, 1) := by decide +kernel
theorem dL_law_626 : decode cL_law 626 = .ok (.aload_n 2, 1) := by decide +kernel
theorem dL_law_627 : decode cL_law 627 = .ok (.aload_n 0, 1) := by decide +kernel
theorem dL_law_628 : decode cL_law 628 = .ok (.iload_n 3, 1) := by decide +kernel
theorem dL_law_629 : decode cL_law 629 = .ok (.iconst 1, 1) := by decide +kernel
theorem dL_law_630 : decode cL_law 630 = .ok (.iadd, 1) := by decide +kernel
theorem dL_law_631 : decode cL_law 631 = .ok (.iaload, 1) := by decide +kernel
theorem dL_law_632 : decode cL_law 632 = .ok (.invokevirtual 87, 3) := by decide +kernel
theorem dL_law_635 : decode cL_law 635 = .ok (.pop, 1) := by decide +kernel
theorem dL_law_636 : decode cL_law 636 = .ok (.goto 607, 3) := by decide +kernel
theorem dL_law_639 : decode cL_law 639 = .ok (.aload_n 1, 1) := by decide +kernel
theorem dL_law_640 : decode cL_law 640 = .ok (.aload_n 0, 1) := by decide +kernel
theorem dL_law_641 : decode cL_law 641 = .ok (.iload_n 3, 1) := by decide +kernel
theorem dL_law_642 : decode cL_law 642 = .ok (.iconst 1, 1) := by decide +kernel
theorem dL_law_643 : decode cL_law 643 = .ok (.iadd, 1) := by decide +kernel
theorem dL_law_644 : decode cL_law 644 = .ok (.iaload, 1) := by decide +kernel
theorem dL_law_645 : decode cL_law 645 = .ok (.aload_n 0, 1) := by decide +kernel
theorem dL_law_646 : decode cL_law 646 = .ok (.iload_n 3, 1) := by decide +kernel
theorem dL_law_647 : decode cL_law 647 = .ok (.iconst 2, 1) := by decide +kernel
theorem dL_law_648 : decode cL_law 648 = .ok (.iadd, 1) := by decide +kernel
theorem dL_law_649 : decode cL_law 649 = .ok (.iaload, 1) := by decide +kernel
theorem dL_law_650 : decode cL_law 650 = .ok (.invokevirtual 88, 3) := by decide +kernel
theorem dL_law_653 : decode cL_law 653 = .ok (.pop, 1) := by decide +kernel
theorem dL_law_654 : decode cL_law 654 = .ok (.aload_n 2, 1) := by decide +kernel
theorem dL_law_655 : decode cL_law 655 = .ok (.aload_n 0, 1) := by decide +kernel
theorem dL_law_656 : decode cL_law 656 = .ok (.iload_n 3, 1) := by decide +kernel
theorem dL_law_657 : decode cL_law 657 = .ok (.iconst 1, 1) := by decide +kernel
theorem dL_law_658 : decode cL_law 658 = .ok (.iadd, 1) := by decide +kernel
theorem dL_law_659 : decode cL_law 659 = .ok (.iaload, 1) := by decide +kernel
theorem dL_law_660 : decode cL_law 660 = .ok (.aload_n 0, 1) := by decide +kernel
theorem dL_law_661 : decode cL_law 661 = .ok (.iload_n 3, 1) := by decide +kernel
theorem dL_law_662 : decode cL_law 662 = .ok (.iconst 2, 1) := by decide +kernel
theorem dL_law_663 : decode cL_law 663 = .ok (.iadd, 1) := by decide +kernel
theorem dL_law_664 : decode cL_law 664 = .ok (.iaload, 1) := by decide +kernel
theorem dL_law_665 : decode cL_law 665 = .ok (.invokevirtual 91, 3) := by decide +kernel
theorem dL_law_668 : decode cL_law 668 = .ok (.pop, 1) := by decide +kernel
theorem dL_law_669 : decode cL_law 669 = .ok (.goto 574, 3) := by decide +kernel
theorem dL_law_672 : decode cL_law 672 = .ok (.aload_n 1, 1) := by decide +kernel
theorem dL_law_673 : decode cL_law 673 = .ok (.aload_n 0, 1) := by decide +kernel
theorem dL_law_674 : decode cL_law 674 = .ok (.iload_n 3, 1) := by decide +kernel
theorem dL_law_675 : decode cL_law 675 = .ok (.iconst 1, 1) := by decide +kernel
theorem dL_law_676 : decode cL_law 676 = .ok (.iadd, 1) := by decide +kernel
theorem dL_law_677 : decode cL_law 677 = .ok (.iaload, 1) := by decide +kernel
theorem dL_law_678 : decode cL_law 678 = .ok (.aload_n 0, 1) := by decide +kernel
theorem dL_law_679 : decode cL_law 679 = .ok (.iload_n 3, 1) := by decide +kernel
theorem dL_law_680 : decode cL_law 680 = .ok (.iconst 2, 1) := by decide +kernel
theorem dL_law_681 : decode cL_law 681 = .ok (.iadd, 1) := by decide +kernel
theorem dL_law_682 : decode cL_law 682 = .ok (.iaload, 1) := by decide +kernel
theorem dL_law_683 : decode cL_law 683 = .ok (.invokevirtual 92, 3) := by decide +kernel
theorem dL_law_686 : decode cL_law 686 = .ok (.pop, 1) := by decide +kernel
theorem dL_law_687 : decode cL_law 687 = .ok (.aload_n 2, 1) := by decide +kernel
theorem dL_law_688 : decode cL_law 688 = .ok (.aload_n 0, 1) := by decide +kernel
theorem dL_law_689 : decode cL_law 689 = .ok (.iload_n 3, 1) := by decide +kernel
theorem dL_law_690 : decode cL_law 690 = .ok (.iconst 1, 1) := by decide +kernel
theorem dL_law_691 : decode cL_law 691 = .ok (.iadd, 1) := by decide +kernel
theorem dL_law_692 : decode cL_law 692 = .ok (.iaload, 1) := by decide +kernel
theorem dL_law_693 : decode cL_law 693 = .ok (.aload_n 0, 1) := by decide +kernel
theorem dL_law_694 : decode cL_law 694 = .ok (.iload_n 3, 1) := by decide +kernel
theorem dL_law_695 : decode cL_law 695 = .ok (.iconst 2, 1) := by decide +kernel
theorem dL_law_696 : decode cL_law 696 = .ok (.iadd, 1) := by decide +kernel
theorem dL_law_697 : decode cL_law 697 = .ok (.iaload, 1) := by decide +kernel
theorem dL_law_698 : decode cL_law 698 = .ok (.invokevirtual 95, 3) := by decide +kernel
theorem dL_law_701 : decode cL_law 701 = .ok (.pop, 1) := by decide +kernel
theorem dL_law_702 : decode cL_law 702 = .ok (.goto 541, 3) := by decide +kernel
theorem dL_law_705 : decode cL_law 705 = .ok (.aload_n 1, 1) := by decide +kernel
theorem dL_law_706 : decode cL_law 706 = .ok (.aload_n 0, 1) := by decide +kernel
theorem dL_law_707 : decode cL_law 707 = .ok (.iload_n 3, 1) := by decide +kernel
theorem dL_law_708 : decode cL_law 708 = .ok (.iconst 1, 1) := by decide +kernel
theorem dL_law_709 : decode cL_law 709 = .ok (.iadd, 1) := by decide +kernel
theorem dL_law_710 : decode cL_law 710 = .ok (.iaload, 1) := by decide +kernel
theorem dL_law_711 : decode cL_law 711 = .ok (.aload_n 0, 1) := by decide +kernel
theorem dL_law_712 : decode cL_law 712 = .ok (.iload_n 3, 1) := by decide +kernel
theorem dL_law_713 : decode cL_law 713 = .ok (.iconst 2, 1) := by decide +kernel
theorem dL_law_714 : decode cL_law 714 = .ok (.iadd, 1) := by decide +kernel
theorem dL_law_715 : decode cL_law 715 = .ok (.iaload, 1) := by decide +kernel
theorem dL_law_716 : decode cL_law 716 = .ok (.aload_n 0, 1) := by decide +kernel
theorem dL_law_717 : decode cL_law 717 = .ok (.iload_n 3, 1) := by decide +kernel
theorem dL_law_718 : decode cL_law 718 = .ok (.iconst 3, 1) := by decide +kernel
theorem dL_law_719 : decode cL_law 719 = .ok (.iadd, 1) := by decide +kernel
theorem dL_law_720 : decode cL_law 720 = .ok (.iaload, 1) := by decide +kernel
theorem dL_law_721 : decode cL_law 721 = .ok (.invokevirtual 96, 3) := by decide +kernel
theorem dL_law_724 : decode cL_law 724 = .ok (.pop, 1) := by decide +kernel
theorem dL_law_725 : decode cL_law 725 = .ok (.aload_n 2, 1) := by decide +kernel
theorem dL_law_726 : decode cL_law 726 = .ok (.aload_n 0, 1) := by decide +kernel
theorem dL_law_727 : decode cL_law 727 = .ok (.iload_n 3, 1) := by decide +kernel
theorem dL_law_728 : decode cL_law 728 = .ok (.iconst 1, 1) := by decide +kernel
theorem dL_law_729 : decode cL_law 729 = .ok (.iadd, 1) := by decide +kernel
theorem dL_law_730 : decode cL_law 730 = .ok (.iaload, 1) := by decide +kernel
theorem dL_law_731 : decode cL_law 731 = .ok (.aload_n 0, 1) := by decide +kernel
theorem dL_law_732 : decode cL_law 732 = .ok (.iload_n 3, 1) := by decide +kernel
theorem dL_law_733 : decode cL_law 733 = .ok (.iconst 2, 1) := by decide +kernel
theorem dL_law_734 : decode cL_law 734 = .ok (.iadd, 1) := by decide +kernel
theorem dL_law_735 : decode cL_law 735 = .ok (.iaload, 1) := by decide +kernel
theorem dL_law_736 : decode cL_law 736 = .ok (.aload_n 0, 1) := by decide +kernel
theorem dL_law_737 : decode cL_law 737 = .ok (.iload_n 3, 1) := by decide +kernel
theorem dL_law_738 : decode cL_law 738 = .ok (.iconst 3, 1) := by decide +kernel
theorem dL_law_739 : decode cL_law 739 = .ok (.iadd, 1) := by decide +kernel
theorem dL_law_740 : decode cL_law 740 = .ok (.iaload, 1) := by decide +kernel
theorem dL_law_741 : decode cL_law 741 = .ok (.invokevirtual 99, 3) := by decide +kernel
theorem dL_law_744 : decode cL_law 744 = .ok (.pop, 1) := by decide +kernel
theorem dL_law_745 : decode cL_law 745 = .ok (.goto 498, 3) := by decide +kernel
theorem dL_law_748 : decode cL_law 748 = .ok (.aload_n 1, 1) := by decide +kernel
theorem dL_law_749 : decode cL_law 749 = .ok (.aload_n 0, 1) := by decide +kernel
theorem dL_law_750 : decode cL_law 750 = .ok (.iload_n 3, 1) := by decide +kernel
theorem dL_law_751 : decode cL_law 751 = .ok (.iconst 1, 1) := by decide +kernel
theorem dL_law_752 : decode cL_law 752 = .ok (.iadd, 1) := by decide +kernel
theorem dL_law_753 : decode cL_law 753 = .ok (.iaload, 1) := by decide +kernel
theorem dL_law_754 : decode cL_law 754 = .ok (.aload_n 0, 1) := by decide +kernel
theorem dL_law_755 : decode cL_law 755 = .ok (.iload_n 3, 1) := by decide +kernel
theorem dL_law_756 : decode cL_law 756 = .ok (.iconst 2, 1) := by decide +kernel
theorem dL_law_757 : decode cL_law 757 = .ok (.iadd, 1) := by decide +kernel
theorem dL_law_758 : decode cL_law 758 = .ok (.iaload, 1) := by decide +kernel
theorem dL_law_759 : decode cL_law 759 = .ok (.aload_n 0, 1) := by decide +kernel
theorem dL_law_760 : decode cL_law 760 = .ok (.iload_n 3, 1) := by decide +kernel
theorem dL_law_761 : decode cL_law 761 = .ok (.iconst 3, 1) := by decide +kernel
theorem dL_law_762 : decode cL_law 762 = .ok (.iadd, 1) := by decide +kernel
theorem dL_law_763 : decode cL_law 763 = .ok (.iaload, 1) := by decide +kernel
theorem dL_law_764 : decode cL_law 764 = .ok (.aload_n 0, 1) := by decide +kernel
theorem dL_law_765 : decode cL_law 765 = .ok (.iload_n 3, 1) := by decide +kernel
theorem dL_law_766 : decode cL_law 766 = .ok (.iconst 4, 1) := by decide +kernel
theorem dL_law_767 : decode cL_law 767 = .ok (.iadd, 1) := by decide +kernel
theorem dL_law_768 : decode cL_law 768 = .ok (.iaload, 1) := by decide +kernel
theorem dL_law_769 : decode cL_law 769 = .ok (.aload_n 0, 1) := by decide +kernel
theorem dL_law_770 : decode cL_law 770 = .ok (.iload_n 3, 1) := by decide +kernel
theorem dL_law_771 : decode cL_law 771 = .ok (.iconst 5, 1) := by decide +kernel
theorem dL_law_772 : decode cL_law 772 = .ok (.iadd, 1) := by decide +kernel
theorem dL_law_773 : decode cL_law 773 = .ok (.iaload, 1) := by decide +kernel
theorem dL_law_774 : decode cL_law 774 = .ok (.invokevirtual 100, 3) := by decide +kernel
theorem dL_law_777 : decode cL_law 777 = .ok (.pop, 1) := by decide +kernel
theorem dL_law_778 : decode cL_law 778 = .ok (.aload_n 2, 1) := by decide +kernel
theorem dL_law_779 : decode cL_law 779 = .ok (.aload_n 0, 1) := by decide +kernel
theorem dL_law_780 : decode cL_law 780 = .ok (.iload_n 3, 1) := by decide +kernel
theorem dL_law_781 : decode cL_law 781 = .ok (.iconst 1, 1) := by decide +kernel
theorem dL_law_782 : decode cL_law 782 = .ok (.iadd, 1) := by decide +kernel
theorem dL_law_783 : decode cL_law 783 = .ok (.iaload, 1) := by decide +kernel
theorem dL_law_784 : decode cL_law 784 = .ok (.aload_n 0, 1) := by decide +kernel
theorem dL_law_785 : decode cL_law 785 = .ok (.iload_n 3, 1) := by decide +kernel
theorem dL_law_786 : decode cL_law 786 = .ok (.iconst 2, 1) := by decide +kernel
theorem dL_law_787 : decode cL_law 787 = .ok (.iadd, 1) := by decide +kernel
theorem dL_law_788 : decode cL_law 788 = .ok (.iaload, 1) := by decide +kernel
theorem dL_law_789 : decode cL_law 789 = .ok (.aload_n 0, 1) := by decide +kernel
theorem dL_law_790 : decode cL_law 790 = .ok (.iload_n 3, 1) := by decide +kernel
theorem dL_law_791 : decode cL_law 791 = .ok (.iconst 3, 1) := by decide +kernel
theorem dL_law_792 : decode cL_law 792 = .ok (.iadd, 1) := by decide +kernel
theorem dL_law_793 : decode cL_law 793 = .ok (.iaload, 1) := by decide +kernel
theorem dL_law_794 : decode cL_law 794 = .ok (.aload_n 0, 1) := by decide +kernel
theorem dL_law_795 : decode cL_law 795 = .ok (.iload_n 3, 1) := by decide +kernel
theorem dL_law_796 : decode cL_law 796 = .ok (.iconst 4, 1) := by decide +kernel
theorem dL_law_797 : decode cL_law 797 = .ok (.iadd, 1) := by decide +kernel
theorem dL_law_798 : decode cL_law 798 = .ok (.iaload, 1) := by decide +kernel
theorem dL_law_799 : decode cL_law 799 = .ok (.aload_n 0, 1) := by decide +kernel
theorem dL_law_800 : decode cL_law 800 = .ok (.iload_n 3, 1) := by decide +kernel
theorem dL_law_801 : decode cL_law 801 = .ok (.iconst 5, 1) := by decide +kernel
theorem dL_law_802 : decode cL_law 802 = .ok (.iadd, 1) := by decide +kernel
theorem dL_law_803 : decode cL_law 803 = .ok (.iaload, 1) := by decide +kernel
theorem dL_law_804 : decode cL_law 804 = .ok (.invokevirtual 104, 3) := by decide +kernel
theorem dL_law_807 : decode cL_law 807 = .ok (.pop, 1) := by decide +kernel
theorem dL_law_808 : decode cL_law 808 = .ok (.goto 435, 3) := by decide +kernel
theorem dL_law_811 : decode cL_law 811 = .ok (.aload_n 1, 1) := by decide +kernel
theorem dL_law_812 : decode cL_law 812 = .ok (.aload_n 0, 1) := by decide +kernel
theorem dL_law_813 : decode cL_law 813 = .ok (.iload_n 3, 1) := by decide +kernel
theorem dL_law_814 : decode cL_law 814 = .ok (.iconst 1, 1) := by decide +kernel
theorem dL_law_815 : decode cL_law 815 = .ok (.iadd, 1) := by decide +kernel
theorem dL_law_816 : decode cL_law 816 = .ok (.iaload, 1) := by decide +kernel
theorem dL_law_817 : decode cL_law 817 = .ok (.invokevirtual 105, 3) := by decide +kernel
theorem dL_law_820 : decode cL_law 820 = .ok (.pop, 1) := by decide +kernel
theorem dL_law_821 : decode cL_law 821 = .ok (.aload_n 2, 1) := by decide +kernel
theorem dL_law_822 : decode cL_law 822 = .ok (.aload_n 0, 1) := by decide +kernel
theorem dL_law_823 : decode cL_law 823 = .ok (.iload_n 3, 1) := by decide +kernel
theorem dL_law_824 : decode cL_law 824 = .ok (.iconst 1, 1) := by decide +kernel
theorem dL_law_825 : decode cL_law 825 = .ok (.iadd, 1) := by decide +kernel
theorem dL_law_826 : decode cL_law 826 = .ok (.iaload, 1) := by decide +kernel
theorem dL_law_827 : decode cL_law 827 = .ok (.invokevirtual 108, 3) := by decide +kernel
theorem dL_law_830 : decode cL_law 830 = .ok (.pop, 1) := by decide +kernel
theorem dL_law_831 : decode cL_law 831 = .ok (.goto 412, 3) := by decide +kernel
theorem dL_law_834 : decode cL_law 834 = .ok (.aload_n 1, 1) := by decide +kernel
theorem dL_law_835 : decode cL_law 835 = .ok (.aload_n 0, 1) := by decide +kernel
theorem dL_law_836 : decode cL_law 836 = .ok (.iload_n 3, 1) := by decide +kernel
theorem dL_law_837 : decode cL_law 837 = .ok (.iconst 1, 1) := by decide +kernel
theorem dL_law_838 : decode cL_law 838 = .ok (.iadd, 1) := by decide +kernel
theorem dL_law_839 : decode cL_law 839 = .ok (.iaload, 1) := by decide +kernel
theorem dL_law_840 : decode cL_law 840 = .ok (.aload_n 0, 1) := by decide +kernel
theorem dL_law_841 : decode cL_law 841 = .ok (.iload_n 3, 1) := by decide +kernel
theorem dL_law_842 : decode cL_law 842 = .ok (.iconst 2, 1) := by decide +kernel
theorem dL_law_843 : decode cL_law 843 = .ok (.iadd, 1) := by decide +kernel
theorem dL_law_844 : decode cL_law 844 = .ok (.iaload, 1) := by decide +kernel
theorem dL_law_845 : decode cL_law 845 = .ok (.invokevirtual 109, 3) := by decide +kernel
theorem dL_law_848 : decode cL_law 848 = .ok (.pop, 1) := by decide +kernel
theorem dL_law_849 : decode cL_law 849 = .ok (.aload_n 2, 1) := by decide +kernel
theorem dL_law_850 : decode cL_law 850 = .ok (.aload_n 0, 1) := by decide +kernel
theorem dL_law_851 : decode cL_law 851 = .ok (.iload_n 3, 1) := by decide +kernel
theorem dL_law_852 : decode cL_law 852 = .ok (.iconst 1, 1) := by decide +kernel
theorem dL_law_853 : decode cL_law 853 = .ok (.iadd, 1) := by decide +kernel
theorem dL_law_854 : decode cL_law 854 = .ok (.iaload, 1) := by decide +kernel
theorem dL_law_855 : decode cL_law 855 = .ok (.aload_n 0, 1) := by decide +kernel
theorem dL_law_856 : decode cL_law 856 = .ok (.iload_n 3, 1) := by decide +kernel
theorem dL_law_857 : decode cL_law 857 = .ok (.iconst 2, 1) := by decide +kernel
theorem dL_law_858 : decode cL_law 858 = .ok (.iadd, 1) := by decide +kernel
theorem dL_law_859 : decode cL_law 859 = .ok (.iaload, 1) := by decide +kernel
theorem dL_law_860 : decode cL_law 860 = .ok (.invokevirtual 112, 3) := by decide +kernel
theorem dL_law_863 : decode cL_law 863 = .ok (.pop, 1) := by decide +kernel
theorem dL_law_864 : decode cL_law 864 = .ok (.goto 379, 3) := by decide +kernel
theorem dL_law_867 : decode cL_law 867 = .ok (.aload_n 1, 1) := by decide +kernel
theorem dL_law_868 : decode cL_law 868 = .ok (.aload_n 0, 1) := by decide +kernel
theorem dL_law_869 : decode cL_law 869 = .ok (.iload_n 3, 1) := by decide +kernel
theorem dL_law_870 : decode cL_law 870 = .ok (.iconst 1, 1) := by decide +kernel
theorem dL_law_871 : decode cL_law 871 = .ok (.iadd, 1) := by decide +kernel
theorem dL_law_872 : decode cL_law 872 = .ok (.iaload, 1) := by decide +kernel
theorem dL_law_873 : decode cL_law 873 = .ok (.invokevirtual 113, 3) := by decide +kernel
theorem dL_law_876 : decode cL_law 876 = .ok (.pop, 1) := by decide +kernel
theorem dL_law_877 : decode cL_law 877 = .ok (.aload_n 2, 1) := by decide +kernel
theorem dL_law_878 : decode cL_law 878 = .ok (.aload_n 0, 1) := by decide +kernel
theorem dL_law_879 : decode cL_law 879 = .ok (.iload_n 3, 1) := by decide +kernel
theorem dL_law_880 : decode cL_law 880 = .ok (.iconst 1, 1) := by decide +kernel
theorem dL_law_881 : decode cL_law 881 = .ok (.iadd, 1) := by decide +kernel
theorem dL_law_882 : decode cL_law 882 = .ok (.iaload, 1) := by decide +kernel
theorem dL_law_883 : decode cL_law 883 = .ok (.invokevirtual 116, 3) := by decide +kernel
theorem dL_law_886 : decode cL_law 886 = .ok (.pop, 1) := by decide +kernel
theorem dL_law_887 : decode cL_law 887 = .ok (.goto 356, 3) := by decide +kernel
theorem dL_law_890 : decode cL_law 890 = .ok (.aload_n 1, 1) := by decide +kernel
theorem dL_law_891 : decode cL_law 891 = .ok (.aload_n 0, 1) := by decide +kernel
theorem dL_law_892 : decode cL_law 892 = .ok (.iload_n 3, 1) := by decide +kernel
theorem dL_law_893 : decode cL_law 893 = .ok (.iconst 1, 1) := by decide +kernel
theorem dL_law_894 : decode cL_law 894 = .ok (.iadd, 1) := by decide +kernel
theorem dL_law_895 : decode cL_law 895 = .ok (.iaload, 1) := by decide +kernel
theorem dL_law_896 : decode cL_law 896 = .ok (.invokevirtual 117, 3) := by decide +kernel
theorem dL_law_899 : decode cL_law 899 = .ok (.pop2, 1) := by decide +kernel
theorem dL_law_900 : decode cL_law 900 = .ok (.aload_n 2, 1) := by decide +kernel
theorem dL_law_901 : decode cL_law 901 = .ok (.aload_n 0, 1) := by decide +kernel
theorem dL_law_902 : decode cL_law 902 = .ok (.iload_n 3, 1) := by decide +kernel
theorem dL_law_903 : decode cL_law 903 = .ok (.iconst 1, 1) := by decide +kernel
theorem dL_law_904 : decode cL_law 904 = .ok (.iadd, 1) := by decide +kernel
theorem dL_law_905 : decode cL_law 905 = .ok (.iaload, 1) := by decide +kernel
theorem dL_law_906 : decode cL_law 906 = .ok (.invokevirtual 121, 3) := by decide +kernel
theorem dL_law_909 : decode cL_law 909 = .ok (.pop2, 1) := by decide +kernel
theorem dL_law_910 : decode cL_law 910 = .ok (.goto 333, 3) := by decide +kernel
theorem dL_law_913 : decode cL_law 913 = .ok (.aload_n 1, 1) := by decide +kernel
theorem dL_law_914 : decode cL_law 914 = .ok (.aload_n 0, 1) := by decide +kernel
theorem dL_law_915 : decode cL_law 915 = .ok (.iload_n 3, 1) := by decide +kernel
theorem dL_law_916 : decode cL_law 916 = .ok (.iconst 1, 1) := by decide +kernel
theorem dL_law_917 : decode cL_law 917 = .ok (.iadd, 1) := by decide +kernel
theorem dL_law_918 : decode cL_law 918 = .ok (.iaload, 1) := by decide +kernel
theorem dL_law_919 : decode cL_law 919 = .ok (.aload_n 0, 1) := by decide +kernel
theorem dL_law_920 : decode cL_law 920 = .ok (.iload_n 3, 1) := by decide +kernel
theorem dL_law_921 : decode cL_law 921 = .ok (.iconst 2, 1) := by decide +kernel
theorem dL_law_922 : decode cL_law 922 = .ok (.iadd, 1) := by decide +kernel
theorem dL_law_923 : decode cL_law 923 = .ok (.iaload, 1) := by decide +kernel
theorem dL_law_924 : decode cL_law 924 = .ok (.invokevirtual 122, 3) := by decide +kernel
theorem dL_law_927 : decode cL_law 927 = .ok (.pop, 1) := by decide +kernel
theorem dL_law_928 : decode cL_law 928 = .ok (.aload_n 2, 1) := by decide +kernel
theorem dL_law_929 : decode cL_law 929 = .ok (.aload_n 0, 1) := by decide +kernel
theorem dL_law_930 : decode cL_law 930 = .ok (.iload_n 3, 1) := by decide +kernel
theorem dL_law_931 : decode cL_law 931 = .ok (.iconst 1, 1) := by decide +kernel
theorem dL_law_932 : decode cL_law 932 = .ok (.iadd, 1) := by decide +kernel
theorem dL_law_933 : decode cL_law 933 = .ok (.iaload, 1) := by decide +kernel
theorem dL_law_934 : decode cL_law 934 = .ok (.aload_n 0, 1) := by decide +kernel
theorem dL_law_935 : decode cL_law 935 = .ok (.iload_n 3, 1) := by decide +kernel
theorem dL_law_936 : decode cL_law 936 = .ok (.iconst 2, 1) := by decide +kernel
theorem dL_law_937 : decode cL_law 937 = .ok (.iadd, 1) := by decide +kernel
theorem dL_law_938 : decode cL_law 938 = .ok (.iaload, 1) := by decide +kernel
theorem dL_law_939 : decode cL_law 939 = .ok (.invokevirtual 125, 3) := by decide +kernel
theorem dL_law_942 : decode cL_law 942 = .ok (.pop, 1) := by decide +kernel
theorem dL_law_943 : decode cL_law 943 = .ok (.goto 300, 3) := by decide +kernel
theorem dL_law_946 : decode cL_law 946 = .ok (.aload_n 1, 1) := by decide +kernel
theorem dL_law_947 : decode cL_law 947 = .ok (.aload_n 0, 1) := by decide +kernel
theorem dL_law_948 : decode cL_law 948 = .ok (.iload_n 3, 1) := by decide +kernel
theorem dL_law_949 : decode cL_law 949 = .ok (.iconst 1, 1) := by decide +kernel
theorem dL_law_950 : decode cL_law 950 = .ok (.iadd, 1) := by decide +kernel
theorem dL_law_951 : decode cL_law 951 = .ok (.iaload, 1) := by decide +kernel
theorem dL_law_952 : decode cL_law 952 = .ok (.invokevirtual 126, 3) := by decide +kernel
theorem dL_law_955 : decode cL_law 955 = .ok (.pop, 1) := by decide +kernel
theorem dL_law_956 : decode cL_law 956 = .ok (.aload_n 2, 1) := by decide +kernel
theorem dL_law_957 : decode cL_law 957 = .ok (.aload_n 0, 1) := by decide +kernel
theorem dL_law_958 : decode cL_law 958 = .ok (.iload_n 3, 1) := by decide +kernel
theorem dL_law_959 : decode cL_law 959 = .ok (.iconst 1, 1) := by decide +kernel
theorem dL_law_960 : decode cL_law 960 = .ok (.iadd, 1) := by decide +kernel
theorem dL_law_961 : decode cL_law 961 = .ok (.iaload, 1) := by decide +kernel
theorem dL_law_962 : decode cL_law 962 = .ok (.invokevirtual 129, 3) := by decide +kernel
theorem dL_law_965 : decode cL_law 965 = .ok (.pop, 1) := by decide +kernel
theorem dL_law_966 : decode cL_law 966 = .ok (.goto 277, 3) := by decide +kernel
theorem dL_law_969 : decode cL_law 969 = .ok (.aload_n 1, 1) := by decide +kernel
theorem dL_law_970 : decode cL_law 970 = .ok (.aload_n 0, 1) := by decide +kernel
theorem dL_law_971 : decode cL_law 971 = .ok (.iload_n 3, 1) := by decide +kernel
theorem dL_law_972 : decode cL_law 972 = .ok (.iconst 1, 1) := by decide +kernel
theorem dL_law_973 : decode cL_law 973 = .ok (.iadd, 1) := by decide +kernel
theorem dL_law_974 : decode cL_law 974 = .ok (.iaload, 1) := by decide +kernel
theorem dL_law_975 : decode cL_law 975 = .ok (.aload_n 0, 1) := by decide +kernel
theorem dL_law_976 : decode cL_law 976 = .ok (.iload_n 3, 1) := by decide +kernel
theorem dL_law_977 : decode cL_law 977 = .ok (.iconst 2, 1) := by decide +kernel
theorem dL_law_978 : decode cL_law 978 = .ok (.iadd, 1) := by decide +kernel
theorem dL_law_979 : decode cL_law 979 = .ok (.iaload, 1) := by decide +kernel
theorem dL_law_980 : decode cL_law 980 = .ok (.invokevirtual 130, 3) := by decide +kernel
theorem dL_law_983 : decode cL_law 983 = .ok (.pop, 1) := by decide +kernel
theorem dL_law_984 : decode cL_law 984 = .ok (.aload_n 2, 1) := by decide +kernel
theorem dL_law_985 : decode cL_law 985 = .ok (.aload_n 0, 1) := by decide +kernel
theorem dL_law_986 : decode cL_law 986 = .ok (.iload_n 3, 1) := by decide +kernel
theorem dL_law_987 : decode cL_law 987 = .ok (.iconst 1, 1) := by decide +kernel
theorem dL_law_988 : decode cL_law 988 = .ok (.iadd, 1) := by decide +kernel
theorem dL_law_989 : decode cL_law 989 = .ok (.iaload, 1) := by decide +kernel
theorem dL_law_990 : decode cL_law 990 = .ok (.aload_n 0, 1) := by decide +kernel
theorem dL_law_991 : decode cL_law 991 = .ok (.iload_n 3, 1) := by decide +kernel
theorem dL_law_992 : decode cL_law 992 = .ok (.iconst 2, 1) := by decide +kernel
theorem dL_law_993 : decode cL_law 993 = .ok (.iadd, 1) := by decide +kernel
theorem dL_law_994 : decode cL_law 994 = .ok (.iaload, 1) := by decide +kernel
theorem dL_law_995 : decode cL_law 995 = .ok (.invokevirtual 133, 3) := by decide +kernel
theorem dL_law_998 : decode cL_law 998 = .ok (.pop, 1) := by decide +kernel
theorem dL_law_999 : decode cL_law 999 = .ok (.goto 244, 3) := by decide +kernel
theorem dL_law_1002 : decode cL_law 1002 = .ok (.aload_n 1, 1) := by decide +kernel
theorem dL_law_1003 : decode cL_law 1003 = .ok (.aload_n 0, 1) := by decide +kernel
theorem dL_law_1004 : decode cL_law 1004 = .ok (.iload_n 3, 1) := by decide +kernel
theorem dL_law_1005 : decode cL_law 1005 = .ok (.iconst 1, 1) := by decide +kernel
theorem dL_law_1006 : decode cL_law 1006 = .ok (.iadd, 1) := by decide +kernel
theorem dL_law_1007 : decode cL_law 1007 = .ok (.iaload, 1) := by decide +kernel
theorem dL_law_1008 : decode cL_law 1008 = .ok (.invokevirtual 134, 3) := by decide +kernel
theorem dL_law_1011 : decode cL_law 1011 = .ok (.pop, 1) := by decide +kernel
theorem dL_law_1012 : decode cL_law 1012 = .ok (.aload_n 2, 1) := by decide +kernel
theorem dL_law_1013 : decode cL_law 1013 = .ok (.aload_n 0, 1) := by decide +kernel
theorem dL_law_1014 : decode cL_law 1014 = .ok (.iload_n 3, 1) := by decide +kernel
theorem dL_law_1015 : decode cL_law 1015 = .ok (.iconst 1, 1) := by decide +kernel
theorem dL_law_1016 : decode cL_law 1016 = .ok (.iadd, 1) := by decide +kernel
theorem dL_law_1017 : decode cL_law 1017 = .ok (.iaload, 1) := by decide +kernel
theorem dL_law_1018 : decode cL_law 1018 = .ok (.invokevirtual 137, 3) := by decide +kernel
theorem dL_law_1021 : decode cL_law 1021 = .ok (.pop, 1) := by decide +kernel
theorem dL_law_1022 : decode cL_law 1022 = .ok (.goto 221, 3) := by decide +kernel
theorem dL_law_1025 : decode cL_law 1025 = .ok (.aload_n 1, 1) := by decide +kernel
theorem dL_law_1026 : decode cL_law 1026 = .ok (.aload_n 0, 1) := by decide +kernel
theorem dL_law_1027 : decode cL_law 1027 = .ok (.iload_n 3, 1) := by decide +kernel
theorem dL_law_1028 : decode cL_law 1028 = .ok (.iconst 1, 1) := by decide +kernel
theorem dL_law_1029 : decode cL_law 1029 = .ok (.iadd, 1) := by decide +kernel
theorem dL_law_1030 : decode cL_law 1030 = .ok (.iaload, 1) := by decide +kernel
theorem dL_law_1031 : decode cL_law 1031 = .ok (.aload_n 0, 1) := by decide +kernel
theorem dL_law_1032 : decode cL_law 1032 = .ok (.iload_n 3, 1) := by decide +kernel
theorem dL_law_1033 : decode cL_law 1033 = .ok (.iconst 2, 1) := by decide +kernel
theorem dL_law_1034 : decode cL_law 1034 = .ok (.iadd, 1) := by decide +kernel
theorem dL_law_1035 : decode cL_law 1035 = .ok (.iaload, 1) := by decide +kernel
theorem dL_law_1036 : decode cL_law 1036 = .ok (.invokevirtual 138, 3) := by decide +kernel
theorem dL_law_1039 : decode cL_law 1039 = .ok (.pop, 1) := by decide +kernel
theorem dL_law_1040 : decode cL_law 1040 = .ok (.aload_n 2, 1) := by decide +kernel
theorem dL_law_1041 : decode cL_law 1041 = .ok (.aload_n 0, 1) := by decide +kernel
theorem dL_law_1042 : decode cL_law 1042 = .ok (.iload_n 3, 1) := by decide +kernel
theorem dL_law_1043 : decode cL_law 1043 = .ok (.iconst 1, 1) := by decide +kernel
theorem dL_law_1044 : decode cL_law 1044 = .ok (.iadd, 1) := by decide +kernel
theorem dL_law_1045 : decode cL_law 1045 = .ok (.iaload, 1) := by decide +kernel
theorem dL_law_1046 : decode cL_law 1046 = .ok (.aload_n 0, 1) := by decide +kernel
theorem dL_law_1047 : decode cL_law 1047 = .ok (.iload_n 3, 1) := by decide +kernel
theorem dL_law_1048 : decode cL_law 1048 = .ok (.iconst 2, 1) := by decide +kernel
theorem dL_law_1049 : decode cL_law 1049 = .ok (.iadd, 1) := by decide +kernel
theorem dL_law_1050 : decode cL_law 1050 = .ok (.iaload, 1) := by decide +kernel
theorem dL_law_1051 : decode cL_law 1051 = .ok (.invokevirtual 141, 3) := by decide +kernel
theorem dL_law_1054 : decode cL_law 1054 = .ok (.pop, 1) := by decide +kernel
theorem dL_law_1055 : decode cL_law 1055 = .ok (.goto 188, 3) := by decide +kernel
theorem dL_law_1058 : decode cL_law 1058 = .ok (.aload_n 1, 1) := by decide +kernel
theorem dL_law_1059 : decode cL_law 1059 = .ok (.aload_n 0, 1) := by decide +kernel
theorem dL_law_1060 : decode cL_law 1060 = .ok (.iload_n 3, 1) := by decide +kernel
theorem dL_law_1061 : decode cL_law 1061 = .ok (.iconst 1, 1) := by decide +kernel
theorem dL_law_1062 : decode cL_law 1062 = .ok (.iadd, 1) := by decide +kernel
theorem dL_law_1063 : decode cL_law 1063 = .ok (.iaload, 1) := by decide +kernel
theorem dL_law_1064 : decode cL_law 1064 = .ok (.aload_n 0, 1) := by decide +kernel
theorem dL_law_1065 : decode cL_law 1065 = .ok (.iload_n 3, 1) := by decide +kernel
theorem dL_law_1066 : decode cL_law 1066 = .ok (.iconst 2, 1) := by decide +kernel
theorem dL_law_1067 : decode cL_law 1067 = .ok (.iadd, 1) := by decide +kernel
theorem dL_law_1068 : decode cL_law 1068 = .ok (.iaload, 1) := by decide +kernel
theorem dL_law_1069 : decode cL_law 1069 = .ok (.aload_n 0, 1) := by decide +kernel
theorem dL_law_1070 : decode cL_law 1070 = .ok (.iload_n 3, 1) := by decide +kernel
theorem dL_law_1071 : decode cL_law 1071 = .ok (.iconst 3, 1) := by decide +kernel
theorem dL_law_1072 : decode cL_law 1072 = .ok (.iadd, 1) := by decide +kernel
theorem dL_law_1073 : decode cL_law 1073 = .ok (.iaload, 1) := by decide +kernel
theorem dL_law_1074 : decode cL_law 1074 = .ok (.invokevirtual 142, 3) := by decide +kernel
theorem dL_law_1077 : decode cL_law 1077 = .ok (.pop, 1) := by decide +kernel
theorem dL_law_1078 : decode cL_law 1078 = .ok (.aload_n 2, 1) := by decide +kernel
theorem dL_law_1079 : decode cL_law 1079 = .ok (.aload_n 0, 1) := by decide +kernel
theorem dL_law_1080 : decode cL_law 1080 = .ok (.iload_n 3, 1) := by decide +kernel
theorem dL_law_1081 : decode cL_law 1081 = .ok (.iconst 1, 1) := by decide +kernel
theorem dL_law_1082 : decode cL_law 1082 = .ok (.iadd, 1) := by decide +kernel
theorem dL_law_1083 : decode cL_law 1083 = .ok (.iaload, 1) := by decide +kernel
theorem dL_law_1084 : decode cL_law 1084 = .ok (.aload_n 0, 1) := by decide +kernel
theorem dL_law_1085 : decode cL_law 1085 = .ok (.iload_n 3, 1) := by decide +kernel
theorem dL_law_1086 : decode cL_law 1086 = .ok (.iconst 2, 1) := by decide +kernel
theorem dL_law_1087 : decode cL_law 1087 = .ok (.iadd, 1) := by decide +kernel
theorem dL_law_1088 : decode cL_law 1088 = .ok (.iaload, 1) := by decide +kernel
theorem dL_law_1089 : decode cL_law 1089 = .ok (.aload_n 0, 1) := by decide +kernel
theorem dL_law_1090 : decode cL_law 1090 = .ok (.iload_n 3, 1) := by decide +kernel
theorem dL_law_1091 : decode cL_law 1091 = .ok (.iconst 3, 1) := by decide +kernel
theorem dL_law_1092 : decode cL_law 1092 = .ok (.iadd, 1) := by decide +kernel
theorem dL_law_1093 : decode cL_law 1093 = .ok (.iaload, 1) := by decide +kernel
theorem dL_law_1094 : decode cL_law 1094 = .ok (.invokevirtual 145, 3) := by decide +kernel
theorem dL_law_1097 : decode cL_law 1097 = .ok (.pop, 1) := by decide +kernel
theorem dL_law_1098 : decode cL_law 1098 = .ok (.goto 145, 3) := by decide +kernel
theorem dL_law_1101 : decode cL_law 1101 = .ok (.aload_n 1, 1) := by decide +kernel
theorem dL_law_1102 : decode cL_law 1102 = .ok (.aload_n 0, 1) := by decide +kernel
theorem dL_law_1103 : decode cL_law 1103 = .ok (.iload_n 3, 1) := by decide +kernel
theorem dL_law_1104 : decode cL_law 1104 = .ok (.iconst 1, 1) := by decide +kernel
theorem dL_law_1105 : decode cL_law 1105 = .ok (.iadd, 1) := by decide +kernel
theorem dL_law_1106 : decode cL_law 1106 = .ok (.iaload, 1) := by decide +kernel
theorem dL_law_1107 : decode cL_law 1107 = .ok (.aload_n 0, 1) := by decide +kernel
theorem dL_law_1108 : decode cL_law 1108 = .ok (.iload_n 3, 1) := by decide +kernel
theorem dL_law_1109 : decode cL_law 1109 = .ok (.iconst 2, 1) := by decide +kernel
theorem dL_law_1110 : decode cL_law 1110 = .ok (.iadd, 1) := by decide +kernel
theorem dL_law_1111 : decode cL_law 1111 = .ok (.iaload, 1) := by decide +kernel
theorem dL_law_1112 : decode cL_law 1112 = .ok (.aload_n 0, 1) := by decide +kernel
theorem dL_law_1113 : decode cL_law 1113 = .ok (.iload_n 3, 1) := by decide +kernel
theorem dL_law_1114 : decode cL_law 1114 = .ok (.iconst 3, 1) := by decide +kernel
theorem dL_law_1115 : decode cL_law 1115 = .ok (.iadd, 1) := by decide +kernel
theorem dL_law_1116 : decode cL_law 1116 = .ok (.iaload, 1) := by decide +kernel
theorem dL_law_1117 : decode cL_law 1117 = .ok (.invokevirtual 146, 3) := by decide +kernel
theorem dL_law_1120 : decode cL_law 1120 = .ok (.pop, 1) := by decide +kernel
theorem dL_law_1121 : decode cL_law 1121 = .ok (.aload_n 2, 1) := by decide +kernel
theorem dL_law_1122 : decode cL_law 1122 = .ok (.aload_n 0, 1) := by decide +kernel
theorem dL_law_1123 : decode cL_law 1123 = .ok (.iload_n 3, 1) := by decide +kernel
theorem dL_law_1124 : decode cL_law 1124 = .ok (.iconst 1, 1) := by decide +kernel
theorem dL_law_1125 : decode cL_law 1125 = .ok (.iadd, 1) := by decide +kernel
theorem dL_law_1126 : decode cL_law 1126 = .ok (.iaload, 1) := by decide +kernel
theorem dL_law_1127 : decode cL_law 1127 = .ok (.aload_n 0, 1) := by decide +kernel
theorem dL_law_1128 : decode cL_law 1128 = .ok (.iload_n 3, 1) := by decide +kernel
theorem dL_law_1129 : decode cL_law 1129 = .ok (.iconst 2, 1) := by decide +kernel
theorem dL_law_1130 : decode cL_law 1130 = .ok (.iadd, 1) := by decide +kernel
theorem dL_law_1131 : decode cL_law 1131 = .ok (.iaload, 1) := by decide +kernel
theorem dL_law_1132 : decode cL_law 1132 = .ok (.aload_n 0, 1) := by decide +kernel
theorem dL_law_1133 : decode cL_law 1133 = .ok (.iload_n 3, 1) := by decide +kernel
theorem dL_law_1134 : decode cL_law 1134 = .ok (.iconst 3, 1) := by decide +kernel
theorem dL_law_1135 : decode cL_law 1135 = .ok (.iadd, 1) := by decide +kernel
theorem dL_law_1136 : decode cL_law 1136 = .ok (.iaload, 1) := by decide +kernel
theorem dL_law_1137 : decode cL_law 1137 = .ok (.invokevirtual 149, 3) := by decide +kernel
theorem dL_law_1140 : decode cL_law 1140 = .ok (.pop, 1) := by decide +kernel
theorem dL_law_1141 : decode cL_law 1141 = .ok (.goto 102, 3) := by decide +kernel
theorem dL_law_1144 : decode cL_law 1144 = .ok (.aload_n 1, 1) := by decide +kernel
theorem dL_law_1145 : decode cL_law 1145 = .ok (.aload_n 0, 1) := by decide +kernel
theorem dL_law_1146 : decode cL_law 1146 = .ok (.iload_n 3, 1) := by decide +kernel
theorem dL_law_1147 : decode cL_law 1147 = .ok (.iconst 1, 1) := by decide +kernel
theorem dL_law_1148 : decode cL_law 1148 = .ok (.iadd, 1) := by decide +kernel
theorem dL_law_1149 : decode cL_law 1149 = .ok (.iaload, 1) := by decide +kernel
theorem dL_law_1150 : decode cL_law 1150 = .ok (.aload_n 0, 1) := by decide +kernel
theorem dL_law_1151 : decode cL_law 1151 = .ok (.iload_n 3, 1) := by decide +kernel
theorem dL_law_1152 : decode cL_law 1152 = .ok (.iconst 2, 1) := by decide +kernel
theorem dL_law_1153 : decode cL_law 1153 = .ok (.iadd, 1) := by decide +kernel
theorem dL_law_1154 : decode cL_law 1154 = .ok (.iaload, 1) := by decide +kernel
theorem dL_law_1155 : decode cL_law 1155 = .ok (.aload_n 0, 1) := by decide +kernel
theorem dL_law_1156 : decode cL_law 1156 = .ok (.iload_n 3, 1) := by decide +kernel
theorem dL_law_1157 : decode cL_law 1157 = .ok (.iconst 3, 1) := by decide +kernel
theorem dL_law_1158 : decode cL_law 1158 = .ok (.iadd, 1) := by decide +kernel
theorem dL_law_1159 : decode cL_law 1159 = .ok (.iaload, 1) := by decide +kernel
theorem dL_law_1160 : decode cL_law 1160 = .ok (.aload_n 0, 1) := by decide +kernel
theorem dL_law_1161 : decode cL_law 1161 = .ok (.iload_n 3, 1) := by decide +kernel
theorem dL_law_1162 : decode cL_law 1162 = .ok (.iconst 4, 1) := by decide +kernel
theorem dL_law_1163 : decode cL_law 1163 = .ok (.iadd, 1) := by decide +kernel
theorem dL_law_1164 : decode cL_law 1164 = .ok (.iaload, 1) := by decide +kernel
theorem dL_law_1165 : decode cL_law 1165 = .ok (.aload_n 0, 1) := by decide +kernel
theorem dL_law_1166 : decode cL_law 1166 = .ok (.iload_n 3, 1) := by decide +kernel
theorem dL_law_1167 : decode cL_law 1167 = .ok (.iconst 5, 1) := by decide +kernel
theorem dL_law_1168 : decode cL_law 1168 = .ok (.iadd, 1) := by decide +kernel
theorem dL_law_1169 : decode cL_law 1169 = .ok (.iaload, 1) := by decide +kernel
theorem dL_law_1170 : decode cL_law 1170 = .ok (.invokevirtual 150, 3) := by decide +kernel
theorem dL_law_1173 : decode cL_law 1173 = .ok (.pop, 1) := by decide +kernel
theorem dL_law_1174 : decode cL_law 1174 = .ok (.aload_n 2, 1) := by decide +kernel
theorem dL_law_1175 : decode cL_law 1175 = .ok (.aload_n 0, 1) := by decide +kernel
theorem dL_law_1176 : decode cL_law 1176 = .ok (.iload_n 3, 1) := by decide +kernel
theorem dL_law_1177 : decode cL_law 1177 = .ok (.iconst 1, 1) := by decide +kernel
theorem dL_law_1178 : decode cL_law 1178 = .ok (.iadd, 1) := by decide +kernel
theorem dL_law_1179 : decode cL_law 1179 = .ok (.iaload, 1) := by decide +kernel
theorem dL_law_1180 : decode cL_law 1180 = .ok (.aload_n 0, 1) := by decide +kernel
theorem dL_law_1181 : decode cL_law 1181 = .ok (.iload_n 3, 1) := by decide +kernel
theorem dL_law_1182 : decode cL_law 1182 = .ok (.iconst 2, 1) := by decide +kernel
theorem dL_law_1183 : decode cL_law 1183 = .ok (.iadd, 1) := by decide +kernel
theorem dL_law_1184 : decode cL_law 1184 = .ok (.iaload, 1) := by decide +kernel
theorem dL_law_1185 : decode cL_law 1185 = .ok (.aload_n 0, 1) := by decide +kernel
theorem dL_law_1186 : decode cL_law 1186 = .ok (.iload_n 3, 1) := by decide +kernel
theorem dL_law_1187 : decode cL_law 1187 = .ok (.iconst 3, 1) := by decide +kernel
theorem dL_law_1188 : decode cL_law 1188 = .ok (.iadd, 1) := by decide +kernel
theorem dL_law_1189 : decode cL_law 1189 = .ok (.iaload, 1) := by decide +kernel
theorem dL_law_1190 : decode cL_law 1190 = .ok (.aload_n 0, 1) := by decide +kernel
theorem dL_law_1191 : decode cL_law 1191 = .ok (.iload_n 3, 1) := by decide +kernel
theorem dL_law_1192 : decode cL_law 1192 = .ok (.iconst 4, 1) := by decide +kernel
theorem dL_law_1193 : decode cL_law 1193 = .ok (.iadd, 1) := by decide +kernel
theorem dL_law_1194 : decode cL_law 1194 = .ok (.iaload, 1) := by decide +kernel
theorem dL_law_1195 : decode cL_law 1195 = .ok (.aload_n 0, 1) := by decide +kernel
theorem dL_law_1196 : decode cL_law 1196 = .ok (.iload_n 3, 1) := by decide +kernel
theorem dL_law_1197 : decode cL_law 1197 = .ok (.iconst 5, 1) := by decide +kernel
theorem dL_law_1198 : decode cL_law 1198 = .ok (.iadd, 1) := by decide +kernel
theorem dL_law_1199 : decode cL_law 1199 = .ok (.iaload, 1) := by decide +kernel
theorem dL_law_1200 : decode cL_law 1200 = .ok (.invokevirtual 153, 3) := by decide +kernel
theorem dL_law_1203 : decode cL_law 1203 = .ok (.pop, 1) := by decide +kernel
theorem dL_law_1204 : decode cL_law 1204 = .ok (.goto 39, 3) := by decide +kernel
theorem dL_law_1207 : decode cL_law 1207 = .ok (.aload_n 1, 1) := by decide +kernel
theorem dL_law_1208 : decode cL_law 1208 = .ok (.invokevirtual 154, 3) := by decide +kernel
theorem dL_law_1211 : decode cL_law 1211 = .ok (.pop, 1) := by decide +kernel
theorem dL_law_1212 : decode cL_law 1212 = .ok (.aload_n 2, 1) := by decide +kernel
theorem dL_law_1213 : decode cL_law 1213 = .ok (.invokevirtual 157, 3) := by decide +kernel
theorem dL_law_1216 : decode cL_law 1216 = .ok (.pop, 1) := by decide +kernel
theorem dL_law_1217 : decode cL_law 1217 = .ok (.goto 26, 3) := by decide +kernel
theorem dL_law_1220 : decode cL_law 1220 = .ok (.aload_n 1, 1) := by decide +kernel
theorem dL_law_1221 : decode cL_law 1221 = .ok (.aload_n 0, 1) := by decide +kernel
theorem dL_law_1222 : decode cL_law 1222 = .ok (.iload_n 3, 1) := by decide +kernel
theorem dL_law_1223 : decode cL_law 1223 = .ok (.iconst 1, 1) := by decide +kernel
theorem dL_law_1224 : decode cL_law 1224 = .ok (.iadd, 1) := by decide +kernel
theorem dL_law_1225 : decode cL_law 1225 = .ok (.iaload, 1) := by decide +kernel
theorem dL_law_1226 : decode cL_law 1226 = .ok (.invokevirtual 158, 3) := by decide +kernel
theorem dL_law_1229 : decode cL_law 1229 = .ok (.pop, 1) := by decide +kernel
theorem dL_law_1230 : decode cL_law 1230 = .ok (.aload_n 2, 1) := by decide +kernel
theorem dL_law_1231 : decode cL_law 1231 = .ok (.aload_n 0, 1) := by decide +kernel
theorem dL_law_1232 : decode cL_law 1232 = .ok (.iload_n 3, 1) := by decide +kernel
theorem dL_law_1233 : decode cL_law 1233 = .ok (.iconst 1, 1) := by decide +kernel
theorem dL_law_1234 : decode cL_law 1234 = .ok (.iadd, 1) := by decide +kernel
theorem dL_law_1235 : decode cL_law 1235 = .ok (.iaload, 1) := by decide +kernel
theorem dL_law_1236 : decode cL_law 1236 = .ok (.invokevirtual 161, 3) := by decide +kernel
theorem dL_law_1239 : decode cL_law 1239 = .ok (.pop, 1) := by decide +kernel
theorem dL_law_1240 : decode cL_law 1240 = .ok (.goto 3, 3) := by decide +kernel
theorem dL_law_1243 : decode cL_law 1243 = .ok (.iinc 3 6, 3) := by decide +kernel
theorem dL_law_1246 : decode cL_law 1246 = .ok (.goto (-1228), 3) := by decide +kernel
theorem dL_law_1249 : decode cL_law 1249 = .ok (.iconst 1, 1) := by decide +kernel
theorem dL_law_1250 : decode cL_law 1250 = .ok (.ireturn, 1) := by decide +kernel
