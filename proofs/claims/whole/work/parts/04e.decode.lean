theorem dX9_order_58 : decode cX9_order 58 = .ok (.aload_n 0, 1) := by decide +kernel
theorem dX9_order_59 : decode cX9_order 59 = .ok (.aload_n 0, 1) := by decide +kernel
theorem dX9_order_60 : decode cX9_order 60 = .ok (.getfield 34, 3) := by decide +kernel
theorem dX9_order_63 : decode cX9_order 63 = .ok (.iconst 1, 1) := by decide +kernel
theorem dX9_order_64 : decode cX9_order 64 = .ok (.iload_n 2, 1) := by decide +kernel
theorem dX9_order_65 : decode cX9_order 65 = .ok (.ishl, 1) := by decide +kernel
theorem dX9_order_66 : decode cX9_order 66 = .ok (.invokevirtual 287, 3) := by decide +kernel
theorem dX9_order_69 : decode cX9_order 69 = .ok (.if_icmp .le 7, 3) := by decide +kernel
theorem dX9_order_72 : decode cX9_order 72 = .ok (.iload_n 3, 1) := by decide +kernel
theorem dX9_order_73 : decode cX9_order 73 = .ok (.goto 4, 3) := by decide +kernel
theorem dX9_order_76 : decode cX9_order 76 = .ok (.iload_n 2, 1) := by decide +kernel
theorem dX9_order_77 : decode cX9_order 77 = .ok (.istore_n 2, 1) := by decide +kernel
theorem dX9_order_78 : decode cX9_order 78 = .ok (.iinc 3 1, 3) := by decide +kernel
theorem dX9_order_81 : decode cX9_order 81 = .ok (.goto (-54), 3) := by decide +kernel
theorem dX9_order_84 : decode cX9_order 84 = .ok (.iload_n 1, 1) := by decide +kernel
theorem dX9_order_85 : decode cX9_order 85 = .ok (.iconst 1, 1) := by decide +kernel
theorem dX9_order_86 : decode cX9_order 86 = .ok (.iload_n 2, 1) := by decide +kernel
theorem dX9_order_87 : decode cX9_order 87 = .ok (.ishl, 1) := by decide +kernel
theorem dX9_order_88 : decode cX9_order 88 = .ok (.iconst (-1), 1) := by decide +kernel
theorem dX9_order_89 : decode cX9_order 89 = .ok (.ixor, 1) := by decide +kernel
theorem dX9_order_90 : decode cX9_order 90 = .ok (.iand, 1) := by decide +kernel
theorem dX9_order_91 : decode cX9_order 91 = .ok (.istore_n 1, 1) := by decide +kernel
theorem dX9_order_92 : decode cX9_order 92 = .ok (.aload_n 0, 1) := by decide +kernel
theorem dX9_order_93 : decode cX9_order 93 = .ok (.iload_n 2, 1) := by decide +kernel
theorem dX9_order_94 : decode cX9_order 94 = .ok (.i2l, 1) := by decide +kernel
theorem dX9_order_95 : decode cX9_order 95 = .ok (.invokevirtual 327, 3) := by decide +kernel
theorem dX9_order_98 : decode cX9_order 98 = .ok (.goto (-79), 3) := by decide +kernel
theorem dX9_order_101 : decode cX9_order 101 = .ok (.aload_n 0, 1) := by decide +kernel
theorem dX9_order_102 : decode cX9_order 102 = .ok (.getfield 15, 3) := by decide +kernel
theorem dX9_order_105 : decode cX9_order 105 = .ok (.ireturn, 1) := by decide +kernel
theorem dX9_storm_0 : decode cX9_storm 0 = .ok (.aload_n 0, 1) := by decide +kernel
theorem dX9_storm_1 : decode cX9_storm 1 = .ok (.iconst 0, 1) := by decide +kernel
theorem dX9_storm_2 : decode cX9_storm 2 = .ok (.putfield 3, 3) := by decide +kernel
theorem dX9_storm_5 : decode cX9_storm 5 = .ok (.aload_n 0, 1) := by decide +kernel
theorem dX9_storm_6 : decode cX9_storm 6 = .ok (.iload_n 1, 1) := by decide +kernel
theorem dX9_storm_7 : decode cX9_storm 7 = .ok (.invokevirtual 123, 3) := by decide +kernel
theorem dX9_storm_10 : decode cX9_storm 10 = .ok (.ifCond .eq 15, 3) := by decide +kernel
theorem dX9_storm_13 : decode cX9_storm 13 = .ok (.iload_n 2, 1) := by decide +kernel
theorem dX9_storm_14 : decode cX9_storm 14 = .ok (.i2l, 1) := by decide +kernel
theorem dX9_storm_15 : decode cX9_storm 15 = .ok (.lconst 0, 1) := by decide +kernel
theorem dX9_storm_16 : decode cX9_storm 16 = .ok (.ldc2_w 401, 3) := by decide +kernel
theorem dX9_storm_19 : decode cX9_storm 19 = .ok (.invokestatic 119, 3) := by decide +kernel
theorem dX9_storm_22 : decode cX9_storm 22 = .ok (.ifCond .ne 5, 3) := by decide +kernel
theorem dX9_storm_25 : decode cX9_storm 25 = .ok (.iconst (-1), 1) := by decide +kernel
theorem dX9_storm_26 : decode cX9_storm 26 = .ok (.ireturn, 1) := by decide +kernel
theorem dX9_storm_27 : decode cX9_storm 27 = .ok (.aload_n 0, 1) := by decide +kernel
theorem dX9_storm_28 : decode cX9_storm 28 = .ok (.aload_n 0, 1) := by decide +kernel
theorem dX9_storm_29 : decode cX9_storm 29 = .ok (.getfield 34, 3) := by decide +kernel
theorem dX9_storm_32 : decode cX9_storm 32 = .ok (.invokevirtual 319, 3) := by decide +kernel
theorem dX9_storm_35 : decode cX9_storm 35 = .ok (.istore_n 3, 1) := by decide +kernel
theorem dX9_storm_36 : decode cX9_storm 36 = .ok (.aload_n 0, 1) := by decide +kernel
theorem dX9_storm_37 : decode cX9_storm 37 = .ok (.aload_n 0, 1) := by decide +kernel
theorem dX9_storm_38 : decode cX9_storm 38 = .ok (.getfield 34, 3) := by decide +kernel
theorem dX9_storm_41 : decode cX9_storm 41 = .ok (.iload_n 1, 1) := by decide +kernel
theorem dX9_storm_42 : decode cX9_storm 42 = .ok (.invokevirtual 202, 3) := by decide +kernel
theorem dX9_storm_45 : decode cX9_storm 45 = .ok (.ifCond .eq 9, 3) := by decide +kernel
theorem dX9_storm_48 : decode cX9_storm 48 = .ok (.iload_n 3, 1) := by decide +kernel
theorem dX9_storm_49 : decode cX9_storm 49 = .ok (.bipush 12, 2) := by decide +kernel
theorem dX9_storm_51 : decode cX9_storm 51 = .ok (.if_icmp .le 6, 3) := by decide +kernel
theorem dX9_storm_54 : decode cX9_storm 54 = .ok (.bipush (-2), 2) := by decide +kernel
theorem dX9_storm_56 : decode cX9_storm 56 = .ok (.ireturn, 1) := by decide +kernel
theorem dX9_storm_57 : decode cX9_storm 57 = .ok (.iconst 0, 1) := by decide +kernel
theorem dX9_storm_58 : decode cX9_storm 58 = .ok (.istore 4, 2) := by decide +kernel
theorem dX9_storm_60 : decode cX9_storm 60 = .ok (.iconst 0, 1) := by decide +kernel
theorem dX9_storm_61 : decode cX9_storm 61 = .ok (.istore 5, 2) := by decide +kernel
theorem dX9_storm_63 : decode cX9_storm 63 = .ok (.iload 5, 2) := by decide +kernel
theorem dX9_storm_65 : decode cX9_storm 65 = .ok (.aload_n 0, 1) := by decide +kernel
theorem dX9_storm_66 : decode cX9_storm 66 = .ok (.getfield 116, 3) := by decide +kernel
theorem dX9_storm_69 : decode cX9_storm 69 = .ok (.if_icmp .ge 69, 3) := by decide +kernel
theorem dX9_storm_72 : decode cX9_storm 72 = .ok (.iload 5, 2) := by decide +kernel
theorem dX9_storm_74 : decode cX9_storm 74 = .ok (.iconst 1, 1) := by decide +kernel
theorem dX9_storm_75 : decode cX9_storm 75 = .ok (.iadd, 1) := by decide +kernel
theorem dX9_storm_76 : decode cX9_storm 76 = .ok (.istore 6, 2) := by decide +kernel
theorem dX9_storm_78 : decode cX9_storm 78 = .ok (.iload 6, 2) := by decide +kernel
theorem dX9_storm_80 : decode cX9_storm 80 = .ok (.aload_n 0, 1) := by decide +kernel
theorem dX9_storm_81 : decode cX9_storm 81 = .ok (.getfield 116, 3) := by decide +kernel
theorem dX9_storm_84 : decode cX9_storm 84 = .ok (.if_icmp .ge 48, 3) := by decide +kernel
theorem dX9_storm_87 : decode cX9_storm 87 = .ok (.aload_n 0, 1) := by decide +kernel
theorem dX9_storm_88 : decode cX9_storm 88 = .ok (.getfield 34, 3) := by decide +kernel
theorem dX9_storm_91 : decode cX9_storm 91 = .ok (.bipush 24, 2) := by decide +kernel
theorem dX9_storm_93 : decode cX9_storm 93 = .ok (.iload 5, 2) := by decide +kernel
theorem dX9_storm_95 : decode cX9_storm 95 = .ok (.iadd, 1) := by decide +kernel
theorem dX9_storm_96 : decode cX9_storm 96 = .ok (.iaload, 1) := by decide +kernel
theorem dX9_storm_97 : decode cX9_storm 97 = .ok (.iload 6, 2) := by decide +kernel
theorem dX9_storm_99 : decode cX9_storm 99 = .ok (.invokestatic 127, 3) := by decide +kernel
theorem dX9_storm_102 : decode cX9_storm 102 = .ok (.ifCond .eq 24, 3) := by decide +kernel
theorem dX9_storm_105 : decode cX9_storm 105 = .ok (.aload_n 0, 1) := by decide +kernel
theorem dX9_storm_106 : decode cX9_storm 106 = .ok (.getfield 94, 3) := by decide +kernel
theorem dX9_storm_109 : decode cX9_storm 109 = .ok (.iload 4, 2) := by decide +kernel
theorem dX9_storm_111 : decode cX9_storm 111 = .ok (.iload 5, 2) := by decide +kernel
theorem dX9_storm_113 : decode cX9_storm 113 = .ok (.iastore, 1) := by decide +kernel
theorem dX9_storm_114 : decode cX9_storm 114 = .ok (.aload_n 0, 1) := by decide +kernel
theorem dX9_storm_115 : decode cX9_storm 115 = .ok (.getfield 97, 3) := by decide +kernel
theorem dX9_storm_118 : decode cX9_storm 118 = .ok (.iload 4, 2) := by decide +kernel
theorem dX9_storm_120 : decode cX9_storm 120 = .ok (.iload 6, 2) := by decide +kernel
theorem dX9_storm_122 : decode cX9_storm 122 = .ok (.iastore, 1) := by decide +kernel
theorem dX9_storm_123 : decode cX9_storm 123 = .ok (.iinc 4 1, 3) := by decide +kernel
theorem dX9_storm_126 : decode cX9_storm 126 = .ok (.iinc 6 1, 3) := by decide +kernel
theorem dX9_storm_129 : decode cX9_storm 129 = .ok (.goto (-51), 3) := by decide +kernel
theorem dX9_storm_132 : decode cX9_storm 132 = .ok (.iinc 5 1, 3) := by decide +kernel
theorem dX9_storm_135 : decode cX9_storm 135 = .ok (.goto (-72), 3) := by decide +kernel
theorem dX9_storm_138 : decode cX9_storm 138 = .ok (.lconst 0, 1) := by decide +kernel
theorem dX9_storm_139 : decode cX9_storm 139 = .ok (.lstore 5, 2) := by decide +kernel
theorem dX9_storm_141 : decode cX9_storm 141 = .ok (.lconst 1, 1) := by decide +kernel
theorem dX9_storm_142 : decode cX9_storm 142 = .ok (.lstore 7, 2) := by decide +kernel
theorem dX9_storm_144 : decode cX9_storm 144 = .ok (.iconst 0, 1) := by decide +kernel
theorem dX9_storm_145 : decode cX9_storm 145 = .ok (.istore 9, 2) := by decide +kernel
theorem dX9_storm_147 : decode cX9_storm 147 = .ok (.iload 9, 2) := by decide +kernel
theorem dX9_storm_149 : decode cX9_storm 149 = .ok (.iload_n 3, 1) := by decide +kernel
theorem dX9_storm_150 : decode cX9_storm 150 = .ok (.if_icmp .ge 17, 3) := by decide +kernel
theorem dX9_storm_153 : decode cX9_storm 153 = .ok (.lload 7, 2) := by decide +kernel
theorem dX9_storm_155 : decode cX9_storm 155 = .ok (.ldc2_w 401, 3) := by decide +kernel
theorem dX9_storm_158 : decode cX9_storm 158 = .ok (.lmul, 1) := by decide +kernel
theorem dX9_storm_159 : decode cX9_storm 159 = .ok (.lstore 7, 2) := by decide +kernel
theorem dX9_storm_161 : decode cX9_storm 161 = .ok (.iinc 9 1, 3) := by decide +kernel
theorem dX9_storm_164 : decode cX9_storm 164 = .ok (.goto (-17), 3) := by decide +kernel
theorem dX9_storm_167 : decode cX9_storm 167 = .ok (.iconst 0, 1) := by decide +kernel
theorem dX9_storm_168 : decode cX9_storm 168 = .ok (.istore 9, 2) := by decide +kernel
theorem dX9_storm_170 : decode cX9_storm 170 = .ok (.iload 9, 2) := by decide +kernel
theorem dX9_storm_172 : decode cX9_storm 172 = .ok (.iconst 1, 1) := by decide +kernel
theorem dX9_storm_173 : decode cX9_storm 173 = .ok (.iload_n 3, 1) := by decide +kernel
theorem dX9_storm_174 : decode cX9_storm 174 = .ok (.ishl, 1) := by decide +kernel
theorem dX9_storm_175 : decode cX9_storm 175 = .ok (.if_icmp .ge 118, 3) := by decide +kernel
theorem dX9_storm_178 : decode cX9_storm 178 = .ok (.aload_n 0, 1) := by decide +kernel
theorem dX9_storm_179 : decode cX9_storm 179 = .ok (.invokevirtual 362, 3) := by decide +kernel
theorem dX9_storm_182 : decode cX9_storm 182 = .ok (.lconst 1, 1) := by decide +kernel
theorem dX9_storm_183 : decode cX9_storm 183 = .ok (.lstore 10, 2) := by decide +kernel
theorem dX9_storm_185 : decode cX9_storm 185 = .ok (.iconst 0, 1) := by decide +kernel
theorem dX9_storm_186 : decode cX9_storm 186 = .ok (.istore 12, 2) := by decide +kernel
theorem dX9_storm_188 : decode cX9_storm 188 = .ok (.iload 12, 2) := by decide +kernel
theorem dX9_storm_190 : decode cX9_storm 190 = .ok (.iload_n 3, 1) := by decide +kernel
theorem dX9_storm_191 : decode cX9_storm 191 = .ok (.if_icmp .ge 65, 3) := by decide +kernel
theorem dX9_storm_194 : decode cX9_storm 194 = .ok (.lload 10, 2) := by decide +kernel
theorem dX9_storm_196 : decode cX9_storm 196 = .ok (.iload 9, 2) := by decide +kernel
theorem dX9_storm_198 : decode cX9_storm 198 = .ok (.iload 12, 2) := by decide +kernel
theorem dX9_storm_200 : decode cX9_storm 200 = .ok (.invokestatic 127, 3) := by decide +kernel
theorem dX9_storm_203 : decode cX9_storm 203 = .ok (.ifCond .eq 8, 3) := by decide +kernel
theorem dX9_storm_206 : decode cX9_storm 206 = .ok (.iload_n 2, 1) := by decide +kernel
theorem dX9_storm_207 : decode cX9_storm 207 = .ok (.i2l, 1) := by decide +kernel
theorem dX9_storm_208 : decode cX9_storm 208 = .ok (.goto 8, 3) := by decide +kernel
theorem dX9_storm_211 : decode cX9_storm 211 = .ok (.bipush 10, 2) := by decide +kernel
theorem dX9_storm_213 : decode cX9_storm 213 = .ok (.iload_n 2, 1) := by decide +kernel
theorem dX9_storm_214 : decode cX9_storm 214 = .ok (.isub, 1) := by decide +kernel
theorem dX9_storm_215 : decode cX9_storm 215 = .ok (.i2l, 1) := by decide +kernel
theorem dX9_storm_216 : decode cX9_storm 216 = .ok (.lmul, 1) := by decide +kernel
theorem dX9_storm_217 : decode cX9_storm 217 = .ok (.lstore 10, 2) := by decide +kernel
theorem dX9_storm_219 : decode cX9_storm 219 = .ok (.iload 9, 2) := by decide +kernel
theorem dX9_storm_221 : decode cX9_storm 221 = .ok (.iload 12, 2) := by decide +kernel
theorem dX9_storm_223 : decode cX9_storm 223 = .ok (.invokestatic 127, 3) := by decide +kernel
theorem dX9_storm_226 : decode cX9_storm 226 = .ok (.ifCond .eq 24, 3) := by decide +kernel
theorem dX9_storm_229 : decode cX9_storm 229 = .ok (.aload_n 0, 1) := by decide +kernel
theorem dX9_storm_230 : decode cX9_storm 230 = .ok (.getfield 37, 3) := by decide +kernel
theorem dX9_storm_233 : decode cX9_storm 233 = .ok (.aload_n 0, 1) := by decide +kernel
theorem dX9_storm_234 : decode cX9_storm 234 = .ok (.getfield 94, 3) := by decide +kernel
theorem dX9_storm_237 : decode cX9_storm 237 = .ok (.iload 12, 2) := by decide +kernel
theorem dX9_storm_239 : decode cX9_storm 239 = .ok (.iaload, 1) := by decide +kernel
theorem dX9_storm_240 : decode cX9_storm 240 = .ok (.aload_n 0, 1) := by decide +kernel
theorem dX9_storm_241 : decode cX9_storm 241 = .ok (.getfield 97, 3) := by decide +kernel
theorem dX9_storm_244 : decode cX9_storm 244 = .ok (.iload 12, 2) := by decide +kernel
theorem dX9_storm_246 : decode cX9_storm 246 = .ok (.iaload, 1) := by decide +kernel
theorem dX9_storm_247 : decode cX9_storm 247 = .ok (.invokestatic 212, 3) := by decide +kernel
theorem dX9_storm_250 : decode cX9_storm 250 = .ok (.iinc 12 1, 3) := by decide +kernel
theorem dX9_storm_253 : decode cX9_storm 253 = .ok (.goto (-65), 3) := by decide +kernel
theorem dX9_storm_256 : decode cX9_storm 256 = .ok (.lload 5, 2) := by decide +kernel
theorem dX9_storm_258 : decode cX9_storm 258 = .ok (.aload_n 0, 1) := by decide +kernel
theorem dX9_storm_259 : decode cX9_storm 259 = .ok (.aload_n 0, 1) := by decide +kernel
theorem dX9_storm_260 : decode cX9_storm 260 = .ok (.getfield 34, 3) := by decide +kernel
theorem dX9_storm_263 : decode cX9_storm 263 = .ok (.aload_n 0, 1) := by decide +kernel
theorem dX9_storm_264 : decode cX9_storm 264 = .ok (.aload_n 0, 1) := by decide +kernel
theorem dX9_storm_265 : decode cX9_storm 265 = .ok (.getfield 37, 3) := by decide +kernel
theorem dX9_storm_268 : decode cX9_storm 268 = .ok (.iload_n 1, 1) := by decide +kernel
theorem dX9_storm_269 : decode cX9_storm 269 = .ok (.invokevirtual 281, 3) := by decide +kernel
theorem dX9_storm_272 : decode cX9_storm 272 = .ok (.invokevirtual 287, 3) := by decide +kernel
theorem dX9_storm_275 : decode cX9_storm 275 = .ok (.ifCond .lt 8, 3) := by decide +kernel
theorem dX9_storm_278 : decode cX9_storm 278 = .ok (.lload 10, 2) := by decide +kernel
theorem dX9_storm_280 : decode cX9_storm 280 = .ok (.goto 4, 3) := by decide +kernel
theorem dX9_storm_283 : decode cX9_storm 283 = .ok (.lconst 0, 1) := by decide +kernel
theorem dX9_storm_284 : decode cX9_storm 284 = .ok (.ladd, 1) := by decide +kernel
theorem dX9_storm_285 : decode cX9_storm 285 = .ok (.lstore 5, 2) := by decide +kernel
theorem dX9_storm_287 : decode cX9_storm 287 = .ok (.iinc 9 1, 3) := by decide +kernel
theorem dX9_storm_290 : decode cX9_storm 290 = .ok (.goto (-120), 3) := by decide +kernel
theorem dX9_storm_293 : decode cX9_storm 293 = .ok (.lload 5, 2) := by decide +kernel
theorem dX9_storm_295 : decode cX9_storm 295 = .ok (.lload 7, 2) := by decide +kernel
theorem dX9_storm_297 : decode cX9_storm 297 = .ok (.invokestatic 7, 3) := by decide +kernel
theorem dX9_storm_300 : decode cX9_storm 300 = .ok (.lstore 9, 2) := by decide +kernel
theorem dX9_storm_302 : decode cX9_storm 302 = .ok (.aload_n 0, 1) := by decide +kernel
theorem dX9_storm_303 : decode cX9_storm 303 = .ok (.iconst 0, 1) := by decide +kernel
theorem dX9_storm_304 : decode cX9_storm 304 = .ok (.putfield 15, 3) := by decide +kernel
theorem dX9_storm_307 : decode cX9_storm 307 = .ok (.aload_n 0, 1) := by decide +kernel
theorem dX9_storm_308 : decode cX9_storm 308 = .ok (.lload 5, 2) := by decide +kernel
theorem dX9_storm_310 : decode cX9_storm 310 = .ok (.lload 9, 2) := by decide +kernel
theorem dX9_storm_312 : decode cX9_storm 312 = .ok (.ldiv, 1) := by decide +kernel
theorem dX9_storm_313 : decode cX9_storm 313 = .ok (.invokevirtual 327, 3) := by decide +kernel
theorem dX9_storm_316 : decode cX9_storm 316 = .ok (.aload_n 0, 1) := by decide +kernel
theorem dX9_storm_317 : decode cX9_storm 317 = .ok (.lload 7, 2) := by decide +kernel
theorem dX9_storm_319 : decode cX9_storm 319 = .ok (.lload 9, 2) := by decide +kernel
theorem dX9_storm_321 : decode cX9_storm 321 = .ok (.ldiv, 1) := by decide +kernel
theorem dX9_storm_322 : decode cX9_storm 322 = .ok (.invokevirtual 327, 3) := by decide +kernel
theorem dX9_storm_325 : decode cX9_storm 325 = .ok (.iconst 0, 1) := by decide +kernel
theorem dX9_storm_326 : decode cX9_storm 326 = .ok (.ireturn, 1) := by decide +kernel
theorem dX9_pile_0 : decode cX9_pile 0 = .ok (.bipush 21, 2) := by decide +kernel
theorem dX9_pile_2 : decode cX9_pile 2 = .ok (.iload_n 0, 1) := by decide +kernel
theorem dX9_pile_3 : decode cX9_pile 3 = .ok (.imul, 1) := by decide +kernel
theorem dX9_pile_4 : decode cX9_pile 4 = .ok (.iload_n 1, 1) := by decide +kernel
theorem dX9_pile_5 : decode cX9_pile 5 = .ok (.iadd, 1) := by decide +kernel
theorem dX9_pile_6 : decode cX9_pile 6 = .ok (.ireturn, 1) := by decide +kernel
theorem dX9_isGood_0 : decode cX9_isGood 0 = .ok (.iload_n 3, 1) := by decide +kernel
theorem dX9_isGood_1 : decode cX9_isGood 1 = .ok (.iload 4, 2) := by decide +kernel
theorem dX9_isGood_3 : decode cX9_isGood 3 = .ok (.iadd, 1) := by decide +kernel
theorem dX9_isGood_4 : decode cX9_isGood 4 = .ok (.ifCond .le 44, 3) := by decide +kernel
theorem dX9_isGood_7 : decode cX9_isGood 7 = .ok (.iload_n 3, 1) := by decide +kernel
theorem dX9_isGood_8 : decode cX9_isGood 8 = .ok (.iload 4, 2) := by decide +kernel
theorem dX9_isGood_10 : decode cX9_isGood 10 = .ok (.iadd, 1) := by decide +kernel
theorem dX9_isGood_11 : decode cX9_isGood 11 = .ok (.iconst 3, 1) := by decide +kernel
theorem dX9_isGood_12 : decode cX9_isGood 12 = .ok (.if_icmp .ge 36, 3) := by decide +kernel
theorem dX9_isGood_15 : decode cX9_isGood 15 = .ok (.iload_n 3, 1) := by decide +kernel
theorem dX9_isGood_16 : decode cX9_isGood 16 = .ok (.iload_n 1, 1) := by decide +kernel
theorem dX9_isGood_17 : decode cX9_isGood 17 = .ok (.if_icmp .gt 31, 3) := by decide +kernel
theorem dX9_isGood_20 : decode cX9_isGood 20 = .ok (.iload 4, 2) := by decide +kernel
theorem dX9_isGood_22 : decode cX9_isGood 22 = .ok (.iload_n 2, 1) := by decide +kernel
theorem dX9_isGood_23 : decode cX9_isGood 23 = .ok (.if_icmp .gt 25, 3) := by decide +kernel
theorem dX9_isGood_26 : decode cX9_isGood 26 = .ok (.aload_n 0, 1) := by decide +kernel
theorem dX9_isGood_27 : decode cX9_isGood 27 = .ok (.getfield 100, 3) := by decide +kernel
theorem dX9_isGood_30 : decode cX9_isGood 30 = .ok (.iload_n 1, 1) := by decide +kernel
theorem dX9_isGood_31 : decode cX9_isGood 31 = .ok (.iload_n 3, 1) := by decide +kernel
theorem dX9_isGood_32 : decode cX9_isGood 32 = .ok (.isub, 1) := by decide +kernel
theorem dX9_isGood_33 : decode cX9_isGood 33 = .ok (.iload_n 2, 1) := by decide +kernel
theorem dX9_isGood_34 : decode cX9_isGood 34 = .ok (.iload 4, 2) := by decide +kernel
theorem dX9_isGood_36 : decode cX9_isGood 36 = .ok (.isub, 1) := by decide +kernel
theorem dX9_isGood_37 : decode cX9_isGood 37 = .ok (.invokestatic 403, 3) := by decide +kernel
theorem dX9_isGood_40 : decode cX9_isGood 40 = .ok (.baload, 1) := by decide +kernel
theorem dX9_isGood_41 : decode cX9_isGood 41 = .ok (.ifCond .ne 7, 3) := by decide +kernel
theorem dX9_isGood_44 : decode cX9_isGood 44 = .ok (.iconst 1, 1) := by decide +kernel
theorem dX9_isGood_45 : decode cX9_isGood 45 = .ok (.goto 4, 3) := by decide +kernel
theorem dX9_isGood_48 : decode cX9_isGood 48 = .ok (.iconst 0, 1) := by decide +kernel
theorem dX9_isGood_49 : decode cX9_isGood 49 = .ok (.ireturn, 1) := by decide +kernel
theorem dX9_run_0 : decode cX9_run 0 = .ok (.aload_n 0, 1) := by decide +kernel
theorem dX9_run_1 : decode cX9_run 1 = .ok (.iconst 0, 1) := by decide +kernel
theorem dX9_run_2 : decode cX9_run 2 = .ok (.putfield 3, 3) := by decide +kernel
theorem dX9_run_5 : decode cX9_run 5 = .ok (.iload_n 1, 1) := by decide +kernel
theorem dX9_run_6 : decode cX9_run 6 = .ok (.i2l, 1) := by decide +kernel
theorem dX9_run_7 : decode cX9_run 7 = .ok (.lconst 0, 1) := by decide +kernel
theorem dX9_run_8 : decode cX9_run 8 = .ok (.ldc2_w 379, 3) := by decide +kernel
theorem dX9_run_11 : decode cX9_run 11 = .ok (.invokestatic 119, 3) := by decide +kernel
theorem dX9_run_14 : decode cX9_run 14 = .ok (.ifCond .eq 15, 3) := by decide +kernel
theorem dX9_run_17 : decode cX9_run 17 = .ok (.iload_n 2, 1) := by decide +kernel
theorem dX9_run_18 : decode cX9_run 18 = .ok (.i2l, 1) := by decide +kernel
theorem dX9_run_19 : decode cX9_run 19 = .ok (.lconst 0, 1) := by decide +kernel
theorem dX9_run_20 : decode cX9_run 20 = .ok (.ldc2_w 379, 3) := by decide +kernel
theorem dX9_run_23 : decode cX9_run 23 = .ok (.invokestatic 119, 3) := by decide +kernel
theorem dX9_run_26 : decode cX9_run 26 = .ok (.ifCond .ne 5, 3) := by decide +kernel
theorem dX9_run_29 : decode cX9_run 29 = .ok (.iconst (-1), 1) := by decide +kernel
theorem dX9_run_30 : decode cX9_run 30 = .ok (.ireturn, 1) := by decide +kernel
theorem dX9_run_31 : decode cX9_run 31 = .ok (.iconst 0, 1) := by decide +kernel
theorem dX9_run_32 : decode cX9_run 32 = .ok (.istore_n 3, 1) := by decide +kernel
theorem dX9_run_33 : decode cX9_run 33 = .ok (.iload_n 3, 1) := by decide +kernel
theorem dX9_run_34 : decode cX9_run 34 = .ok (.iload_n 1, 1) := by decide +kernel
theorem dX9_run_35 : decode cX9_run 35 = .ok (.if_icmp .gt 96, 3) := by decide +kernel
theorem dX9_run_38 : decode cX9_run 38 = .ok (.iconst 0, 1) := by decide +kernel
theorem dX9_run_39 : decode cX9_run 39 = .ok (.istore 4, 2) := by decide +kernel
theorem dX9_run_41 : decode cX9_run 41 = .ok (.iload 4, 2) := by decide +kernel
theorem dX9_run_43 : decode cX9_run 43 = .ok (.iload_n 2, 1) := by decide +kernel
theorem dX9_run_44 : decode cX9_run 44 = .ok (.if_icmp .gt 81, 3) := by decide +kernel
theorem dX9_run_47 : decode cX9_run 47 = .ok (.iconst 0, 1) := by decide +kernel
theorem dX9_run_48 : decode cX9_run 48 = .ok (.istore 5, 2) := by decide +kernel
theorem dX9_run_50 : decode cX9_run 50 = .ok (.iconst 0, 1) := by decide +kernel
theorem dX9_run_51 : decode cX9_run 51 = .ok (.istore 6, 2) := by decide +kernel
theorem dX9_run_53 : decode cX9_run 53 = .ok (.iload 6, 2) := by decide +kernel
theorem dX9_run_55 : decode cX9_run 55 = .ok (.iconst 3, 1) := by decide +kernel
theorem dX9_run_56 : decode cX9_run 56 = .ok (.if_icmp .ge 50, 3) := by decide +kernel
theorem dX9_run_59 : decode cX9_run 59 = .ok (.iconst 0, 1) := by decide +kernel
theorem dX9_run_60 : decode cX9_run 60 = .ok (.istore 7, 2) := by decide +kernel
theorem dX9_run_62 : decode cX9_run 62 = .ok (.iload 7, 2) := by decide +kernel
theorem dX9_run_64 : decode cX9_run 64 = .ok (.iconst 3, 1) := by decide +kernel
theorem dX9_run_65 : decode cX9_run 65 = .ok (.if_icmp .ge 35, 3) := by decide +kernel
theorem dX9_run_68 : decode cX9_run 68 = .ok (.iload 5, 2) := by decide +kernel
theorem dX9_run_70 : decode cX9_run 70 = .ok (.ifCond .ne 17, 3) := by decide +kernel
theorem dX9_run_73 : decode cX9_run 73 = .ok (.aload_n 0, 1) := by decide +kernel
theorem dX9_run_74 : decode cX9_run 74 = .ok (.iload_n 3, 1) := by decide +kernel
theorem dX9_run_75 : decode cX9_run 75 = .ok (.iload 4, 2) := by decide +kernel
theorem dX9_run_77 : decode cX9_run 77 = .ok (.iload 6, 2) := by decide +kernel
theorem dX9_run_79 : decode cX9_run 79 = .ok (.iload 7, 2) := by decide +kernel
theorem dX9_run_81 : decode cX9_run 81 = .ok (.invokevirtual 406, 3) := by decide +kernel
theorem dX9_run_84 : decode cX9_run 84 = .ok (.ifCond .eq 7, 3) := by decide +kernel
theorem dX9_run_87 : decode cX9_run 87 = .ok (.iconst 1, 1) := by decide +kernel
theorem dX9_run_88 : decode cX9_run 88 = .ok (.goto 4, 3) := by decide +kernel
theorem dX9_run_91 : decode cX9_run 91 = .ok (.iconst 0, 1) := by decide +kernel
theorem dX9_run_92 : decode cX9_run 92 = .ok (.istore 5, 2) := by decide +kernel
theorem dX9_run_94 : decode cX9_run 94 = .ok (.iinc 7 1, 3) := by decide +kernel
theorem dX9_run_97 : decode cX9_run 97 = .ok (.goto (-35), 3) := by decide +kernel
theorem dX9_run_100 : decode cX9_run 100 = .ok (.iinc 6 1, 3) := by decide +kernel
theorem dX9_run_103 : decode cX9_run 103 = .ok (.goto (-50), 3) := by decide +kernel
theorem dX9_run_106 : decode cX9_run 106 = .ok (.aload_n 0, 1) := by decide +kernel
theorem dX9_run_107 : decode cX9_run 107 = .ok (.getfield 100, 3) := by decide +kernel
theorem dX9_run_110 : decode cX9_run 110 = .ok (.iload_n 3, 1) := by decide +kernel
theorem dX9_run_111 : decode cX9_run 111 = .ok (.iload 4, 2) := by decide +kernel
theorem dX9_run_113 : decode cX9_run 113 = .ok (.invokestatic 403, 3) := by decide +kernel
theorem dX9_run_116 : decode cX9_run 116 = .ok (.iload 5, 2) := by decide +kernel
theorem dX9_run_118 : decode cX9_run 118 = .ok (.bastore, 1) := by decide +kernel
theorem dX9_run_119 : decode cX9_run 119 = .ok (.iinc 4 1, 3) := by decide +kernel
theorem dX9_run_122 : decode cX9_run 122 = .ok (.goto (-81), 3) := by decide +kernel
theorem dX9_run_125 : decode cX9_run 125 = .ok (.iinc 3 1, 3) := by decide +kernel
theorem dX9_run_128 : decode cX9_run 128 = .ok (.goto (-95), 3) := by decide +kernel
theorem dX9_run_131 : decode cX9_run 131 = .ok (.aload_n 0, 1) := by decide +kernel
theorem dX9_run_132 : decode cX9_run 132 = .ok (.iconst 0, 1) := by decide +kernel
theorem dX9_run_133 : decode cX9_run 133 = .ok (.putfield 15, 3) := by decide +kernel
theorem dX9_run_136 : decode cX9_run 136 = .ok (.iconst 0, 1) := by decide +kernel
theorem dX9_run_137 : decode cX9_run 137 = .ok (.istore_n 3, 1) := by decide +kernel
theorem dX9_run_138 : decode cX9_run 138 = .ok (.iload_n 3, 1) := by decide +kernel
theorem dX9_run_139 : decode cX9_run 139 = .ok (.iconst 3, 1) := by decide +kernel
theorem dX9_run_140 : decode cX9_run 140 = .ok (.if_icmp .ge 56, 3) := by decide +kernel
theorem dX9_run_143 : decode cX9_run 143 = .ok (.iconst 0, 1) := by decide +kernel
theorem dX9_run_144 : decode cX9_run 144 = .ok (.istore 4, 2) := by decide +kernel
theorem dX9_run_146 : decode cX9_run 146 = .ok (.iload 4, 2) := by decide +kernel
theorem dX9_run_148 : decode cX9_run 148 = .ok (.iconst 3, 1) := by decide +kernel
theorem dX9_run_149 : decode cX9_run 149 = .ok (.if_icmp .ge 41, 3) := by decide +kernel
theorem dX9_run_152 : decode cX9_run 152 = .ok (.aload_n 0, 1) := by decide +kernel
theorem dX9_run_153 : decode cX9_run 153 = .ok (.getfield 15, 3) := by decide +kernel
theorem dX9_run_156 : decode cX9_run 156 = .ok (.ifCond .ne 28, 3) := by decide +kernel
theorem dX9_run_159 : decode cX9_run 159 = .ok (.aload_n 0, 1) := by decide +kernel
theorem dX9_run_160 : decode cX9_run 160 = .ok (.iload_n 1, 1) := by decide +kernel
theorem dX9_run_161 : decode cX9_run 161 = .ok (.iload_n 2, 1) := by decide +kernel
theorem dX9_run_162 : decode cX9_run 162 = .ok (.iload_n 3, 1) := by decide +kernel
theorem dX9_run_163 : decode cX9_run 163 = .ok (.iload 4, 2) := by decide +kernel
theorem dX9_run_165 : decode cX9_run 165 = .ok (.invokevirtual 406, 3) := by decide +kernel
theorem dX9_run_168 : decode cX9_run 168 = .ok (.ifCond .eq 16, 3) := by decide +kernel
theorem dX9_run_171 : decode cX9_run 171 = .ok (.aload_n 0, 1) := by decide +kernel
theorem dX9_run_172 : decode cX9_run 172 = .ok (.iload_n 3, 1) := by decide +kernel
theorem dX9_run_173 : decode cX9_run 173 = .ok (.i2l, 1) := by decide +kernel
theorem dX9_run_174 : decode cX9_run 174 = .ok (.invokevirtual 327, 3) := by decide +kernel
theorem dX9_run_177 : decode cX9_run 177 = .ok (.aload_n 0, 1) := by decide +kernel
theorem dX9_run_178 : decode cX9_run 178 = .ok (.iload 4, 2) := by decide +kernel
theorem dX9_run_180 : decode cX9_run 180 = .ok (.i2l, 1) := by decide +kernel
theorem dX9_run_181 : decode cX9_run 181 = .ok (.invokevirtual 327, 3) := by decide +kernel
theorem dX9_run_184 : decode cX9_run 184 = .ok (.iinc 4 1, 3) := by decide +kernel
theorem dX9_run_187 : decode cX9_run 187 = .ok (.goto (-41), 3) := by decide +kernel
theorem dX9_run_190 : decode cX9_run 190 = .ok (.iinc 3 1, 3) := by decide +kernel
theorem dX9_run_193 : decode cX9_run 193 = .ok (.goto (-55), 3) := by decide +kernel
theorem dX9_run_196 : decode cX9_run 196 = .ok (.aload_n 0, 1) := by decide +kernel
theorem dX9_run_197 : decode cX9_run 197 = .ok (.getfield 15, 3) := by decide +kernel
theorem dX9_run_200 : decode cX9_run 200 = .ok (.ifCond .le 7, 3) := by decide +kernel
theorem dX9_run_203 : decode cX9_run 203 = .ok (.iconst 1, 1) := by decide +kernel
theorem dX9_run_204 : decode cX9_run 204 = .ok (.goto 4, 3) := by decide +kernel
theorem dX9_run_207 : decode cX9_run 207 = .ok (.iconst 0, 1) := by decide +kernel
theorem dX9_run_208 : decode cX9_run 208 = .ok (.invokestatic 159, 3) := by decide +kernel
theorem dX9_run_211 : decode cX9_run 211 = .ok (.ireturn, 1) := by decide +kernel
theorem dX9_law_0 : decode cX9_law 0 = .ok (.aload_n 0, 1) := by decide +kernel
theorem dX9_law_1 : decode cX9_law 1 = .ok (.iconst 0, 1) := by decide +kernel
theorem dX9_law_2 : decode cX9_law 2 = .ok (.putfield 3, 3) := by decide +kernel
theorem dX9_law_5 : decode cX9_law 5 = .ok (.aload_n 0, 1) := by decide +kernel
theorem dX9_law_6 : decode cX9_law 6 = .ok (.invokevirtual 250, 3) := by decide +kernel
theorem dX9_law_9 : decode cX9_law 9 = .ok (.istore_n 1, 1) := by decide +kernel
theorem dX9_law_10 : decode cX9_law 10 = .ok (.iload_n 1, 1) := by decide +kernel
theorem dX9_law_11 : decode cX9_law 11 = .ok (.ifCond .ge 11, 3) := by decide +kernel
theorem dX9_law_14 : decode cX9_law 14 = .ok (.iload_n 1, 1) := by decide +kernel
theorem dX9_law_15 : decode cX9_law 15 = .ok (.iconst 1, 1) := by decide +kernel
theorem dX9_law_16 : decode cX9_law 16 = .ok (.iadd, 1) := by decide +kernel
theorem dX9_law_17 : decode cX9_law 17 = .ok (.sipush 10000, 3) := by decide +kernel
theorem dX9_law_20 : decode cX9_law 20 = .ok (.isub, 1) := by decide +kernel
theorem dX9_law_21 : decode cX9_law 21 = .ok (.ireturn, 1) := by decide +kernel
theorem dX9_law_22 : decode cX9_law 22 = .ok (.aload_n 0, 1) := by decide +kernel
theorem dX9_law_23 : decode cX9_law 23 = .ok (.aload_n 0, 1) := by decide +kernel
theorem dX9_law_24 : decode cX9_law 24 = .ok (.getfield 34, 3) := by decide +kernel
theorem dX9_law_27 : decode cX9_law 27 = .ok (.invokevirtual 303, 3) := by decide +kernel
theorem dX9_law_30 : decode cX9_law 30 = .ok (.invokestatic 135, 3) := by decide +kernel
theorem dX9_law_33 : decode cX9_law 33 = .ok (.istore_n 2, 1) := by decide +kernel
theorem dX9_law_34 : decode cX9_law 34 = .ok (.aload_n 0, 1) := by decide +kernel
theorem dX9_law_35 : decode cX9_law 35 = .ok (.getfield 247, 3) := by decide +kernel
theorem dX9_law_38 : decode cX9_law 38 = .ok (.istore_n 3, 1) := by decide +kernel
theorem dX9_law_39 : decode cX9_law 39 = .ok (.iconst 0, 1) := by decide +kernel
theorem dX9_law_40 : decode cX9_law 40 = .ok (.istore 4, 2) := by decide +kernel
theorem dX9_law_42 : decode cX9_law 42 = .ok (.iload 4, 2) := by decide +kernel
theorem dX9_law_44 : decode cX9_law 44 = .ok (.aload_n 0, 1) := by decide +kernel
theorem dX9_law_45 : decode cX9_law 45 = .ok (.getfield 247, 3) := by decide +kernel
theorem dX9_law_48 : decode cX9_law 48 = .ok (.if_icmp .ge 23, 3) := by decide +kernel
theorem dX9_law_51 : decode cX9_law 51 = .ok (.aload_n 0, 1) := by decide +kernel
theorem dX9_law_52 : decode cX9_law 52 = .ok (.getfield 104, 3) := by decide +kernel
theorem dX9_law_55 : decode cX9_law 55 = .ok (.iload 4, 2) := by decide +kernel
theorem dX9_law_57 : decode cX9_law 57 = .ok (.aload_n 0, 1) := by decide +kernel
theorem dX9_law_58 : decode cX9_law 58 = .ok (.getfield 46, 3) := by decide +kernel
theorem dX9_law_61 : decode cX9_law 61 = .ok (.iload 4, 2) := by decide +kernel
theorem dX9_law_63 : decode cX9_law 63 = .ok (.iaload, 1) := by decide +kernel
theorem dX9_law_64 : decode cX9_law 64 = .ok (.iastore, 1) := by decide +kernel
theorem dX9_law_65 : decode cX9_law 65 = .ok (.iinc 4 1, 3) := by decide +kernel
theorem dX9_law_68 : decode cX9_law 68 = .ok (.goto (-26), 3) := by decide +kernel
theorem dX9_law_71 : decode cX9_law 71 = .ok (.aload_n 0, 1) := by decide +kernel
theorem dX9_law_72 : decode cX9_law 72 = .ok (.aload_n 0, 1) := by decide +kernel
theorem dX9_law_73 : decode cX9_law 73 = .ok (.getfield 49, 3) := by decide +kernel
theorem dX9_law_76 : decode cX9_law 76 = .ok (.aload_n 0, 1) := by decide +kernel
theorem dX9_law_77 : decode cX9_law 77 = .ok (.getfield 222, 3) := by decide +kernel
theorem dX9_law_80 : decode cX9_law 80 = .ok (.invokevirtual 253, 3) := by decide +kernel
theorem dX9_law_83 : decode cX9_law 83 = .ok (.aload_n 0, 1) := by decide +kernel
theorem dX9_law_84 : decode cX9_law 84 = .ok (.aload_n 0, 1) := by decide +kernel
theorem dX9_law_85 : decode cX9_law 85 = .ok (.getfield 34, 3) := by decide +kernel
theorem dX9_law_88 : decode cX9_law 88 = .ok (.invokevirtual 303, 3) := by decide +kernel
theorem dX9_law_91 : decode cX9_law 91 = .ok (.invokestatic 135, 3) := by decide +kernel
theorem dX9_law_94 : decode cX9_law 94 = .ok (.istore 4, 2) := by decide +kernel
theorem dX9_law_96 : decode cX9_law 96 = .ok (.aload_n 0, 1) := by decide +kernel
theorem dX9_law_97 : decode cX9_law 97 = .ok (.iconst 0, 1) := by decide +kernel
theorem dX9_law_98 : decode cX9_law 98 = .ok (.putfield 15, 3) := by decide +kernel
theorem dX9_law_101 : decode cX9_law 101 = .ok (.aload_n 0, 1) := by decide +kernel
theorem dX9_law_102 : decode cX9_law 102 = .ok (.iload 4, 2) := by decide +kernel
theorem dX9_law_104 : decode cX9_law 104 = .ok (.i2l, 1) := by decide +kernel
theorem dX9_law_105 : decode cX9_law 105 = .ok (.invokevirtual 327, 3) := by decide +kernel
theorem dX9_law_108 : decode cX9_law 108 = .ok (.aload_n 0, 1) := by decide +kernel
theorem dX9_law_109 : decode cX9_law 109 = .ok (.iload_n 2, 1) := by decide +kernel
theorem dX9_law_110 : decode cX9_law 110 = .ok (.i2l, 1) := by decide +kernel
theorem dX9_law_111 : decode cX9_law 111 = .ok (.invokevirtual 327, 3) := by decide +kernel
theorem dX9_law_114 : decode cX9_law 114 = .ok (.iconst 0, 1) := by decide +kernel
theorem dX9_law_115 : decode cX9_law 115 = .ok (.istore 5, 2) := by decide +kernel
theorem dX9_law_117 : decode cX9_law 117 = .ok (.iload 5, 2) := by decide +kernel
theorem dX9_law_119 : decode cX9_law 119 = .ok (.aload_n 0, 1) := by decide +kernel
theorem dX9_law_120 : decode cX9_law 120 = .ok (.getfield 116, 3) := by decide +kernel
theorem dX9_law_123 : decode cX9_law 123 = .ok (.if_icmp .ge 24, 3) := by decide +kernel
theorem dX9_law_126 : decode cX9_law 126 = .ok (.aload_n 0, 1) := by decide +kernel
theorem dX9_law_127 : decode cX9_law 127 = .ok (.aload_n 0, 1) := by decide +kernel
theorem dX9_law_128 : decode cX9_law 128 = .ok (.aload_n 0, 1) := by decide +kernel
theorem dX9_law_129 : decode cX9_law 129 = .ok (.getfield 34, 3) := by decide +kernel
theorem dX9_law_132 : decode cX9_law 132 = .ok (.iload 5, 2) := by decide +kernel
theorem dX9_law_134 : decode cX9_law 134 = .ok (.invokevirtual 270, 3) := by decide +kernel
theorem dX9_law_137 : decode cX9_law 137 = .ok (.i2l, 1) := by decide +kernel
theorem dX9_law_138 : decode cX9_law 138 = .ok (.invokevirtual 327, 3) := by decide +kernel
theorem dX9_law_141 : decode cX9_law 141 = .ok (.iinc 5 1, 3) := by decide +kernel
theorem dX9_law_144 : decode cX9_law 144 = .ok (.goto (-27), 3) := by decide +kernel
theorem dX9_law_147 : decode cX9_law 147 = .ok (.aload_n 0, 1) := by decide +kernel
theorem dX9_law_148 : decode cX9_law 148 = .ok (.aload_n 0, 1) := by decide +kernel
theorem dX9_law_149 : decode cX9_law 149 = .ok (.getfield 104, 3) := by decide +kernel
theorem dX9_law_152 : decode cX9_law 152 = .ok (.iload_n 3, 1) := by decide +kernel
theorem dX9_law_153 : decode cX9_law 153 = .ok (.invokevirtual 253, 3) := by decide +kernel
theorem dX9_law_156 : decode cX9_law 156 = .ok (.iload 4, 2) := by decide +kernel
theorem dX9_law_158 : decode cX9_law 158 = .ok (.iload_n 2, 1) := by decide +kernel
theorem dX9_law_159 : decode cX9_law 159 = .ok (.isub, 1) := by decide +kernel
theorem dX9_law_160 : decode cX9_law 160 = .ok (.ireturn, 1) := by decide +kernel
theorem dX9_gets_0 : decode cX9_gets 0 = .ok (.iload_n 0, 1) := by decide +kernel
theorem dX9_gets_1 : decode cX9_gets 1 = .ok (.iload_n 1, 1) := by decide +kernel
theorem dX9_gets_2 : decode cX9_gets 2 = .ok (.if_icmp .le 13, 3) := by decide +kernel
theorem dX9_gets_5 : decode cX9_gets 5 = .ok (.iload_n 2, 1) := by decide +kernel
theorem dX9_gets_6 : decode cX9_gets 6 = .ok (.iload_n 0, 1) := by decide +kernel
theorem dX9_gets_7 : decode cX9_gets 7 = .ok (.iload_n 1, 1) := by decide +kernel
theorem dX9_gets_8 : decode cX9_gets 8 = .ok (.iadd, 1) := by decide +kernel
theorem dX9_gets_9 : decode cX9_gets 9 = .ok (.iconst 2, 1) := by decide +kernel
theorem dX9_gets_10 : decode cX9_gets 10 = .ok (.idiv, 1) := by decide +kernel
theorem dX9_gets_11 : decode cX9_gets 11 = .ok (.isub, 1) := by decide +kernel
theorem dX9_gets_12 : decode cX9_gets 12 = .ok (.goto 15, 3) := by decide +kernel
theorem dX9_gets_15 : decode cX9_gets 15 = .ok (.iload_n 0, 1) := by decide +kernel
theorem dX9_gets_16 : decode cX9_gets 16 = .ok (.iload_n 1, 1) := by decide +kernel
theorem dX9_gets_17 : decode cX9_gets 17 = .ok (.if_icmp .ne 9, 3) := by decide +kernel
theorem dX9_gets_20 : decode cX9_gets 20 = .ok (.iload_n 2, 1) := by decide +kernel
theorem dX9_gets_21 : decode cX9_gets 21 = .ok (.iconst 3, 1) := by decide +kernel
theorem dX9_gets_22 : decode cX9_gets 22 = .ok (.idiv, 1) := by decide +kernel
theorem dX9_gets_23 : decode cX9_gets 23 = .ok (.goto 4, 3) := by decide +kernel
theorem dX9_gets_26 : decode cX9_gets 26 = .ok (.iconst 0, 1) := by decide +kernel
theorem dX9_gets_27 : decode cX9_gets 27 = .ok (.ireturn, 1) := by decide +kernel
theorem dX9_isRest_0 : decode cX9_isRest 0 = .ok (.iconst 1, 1) := by decide +kernel
theorem dX9_isRest_1 : decode cX9_isRest 1 = .ok (.istore_n 3, 1) := by decide +kernel
theorem dX9_isRest_2 : decode cX9_isRest 2 = .ok (.iconst 0, 1) := by decide +kernel
theorem dX9_isRest_3 : decode cX9_isRest 3 = .ok (.istore 4, 2) := by decide +kernel
theorem dX9_isRest_5 : decode cX9_isRest 5 = .ok (.iload 4, 2) := by decide +kernel
theorem dX9_isRest_7 : decode cX9_isRest 7 = .ok (.bipush 9, 2) := by decide +kernel
theorem dX9_isRest_9 : decode cX9_isRest 9 = .ok (.if_icmp .gt 35, 3) := by decide +kernel
theorem dX9_isRest_12 : decode cX9_isRest 12 = .ok (.iload_n 3, 1) := by decide +kernel
theorem dX9_isRest_13 : decode cX9_isRest 13 = .ok (.ifCond .eq 23, 3) := by decide +kernel
theorem dX9_isRest_16 : decode cX9_isRest 16 = .ok (.iload 4, 2) := by decide +kernel
theorem dX9_isRest_18 : decode cX9_isRest 18 = .ok (.iload_n 1, 1) := by decide +kernel
theorem dX9_isRest_19 : decode cX9_isRest 19 = .ok (.iload_n 2, 1) := by decide +kernel
theorem dX9_isRest_20 : decode cX9_isRest 20 = .ok (.invokestatic 410, 3) := by decide +kernel
theorem dX9_isRest_23 : decode cX9_isRest 23 = .ok (.iload_n 0, 1) := by decide +kernel
theorem dX9_isRest_24 : decode cX9_isRest 24 = .ok (.iload_n 1, 1) := by decide +kernel
theorem dX9_isRest_25 : decode cX9_isRest 25 = .ok (.iload_n 2, 1) := by decide +kernel
theorem dX9_isRest_26 : decode cX9_isRest 26 = .ok (.invokestatic 410, 3) := by decide +kernel
theorem dX9_isRest_29 : decode cX9_isRest 29 = .ok (.if_icmp .gt 7, 3) := by decide +kernel
theorem dX9_isRest_32 : decode cX9_isRest 32 = .ok (.iconst 1, 1) := by decide +kernel
theorem dX9_isRest_33 : decode cX9_isRest 33 = .ok (.goto 4, 3) := by decide +kernel
theorem dX9_isRest_36 : decode cX9_isRest 36 = .ok (.iconst 0, 1) := by decide +kernel
theorem dX9_isRest_37 : decode cX9_isRest 37 = .ok (.istore_n 3, 1) := by decide +kernel
theorem dX9_isRest_38 : decode cX9_isRest 38 = .ok (.iinc 4 1, 3) := by decide +kernel
theorem dX9_isRest_41 : decode cX9_isRest 41 = .ok (.goto (-36), 3) := by decide +kernel
theorem dX9_isRest_44 : decode cX9_isRest 44 = .ok (.iload_n 3, 1) := by decide +kernel
theorem dX9_isRest_45 : decode cX9_isRest 45 = .ok (.ireturn, 1) := by decide +kernel
theorem dX9_rests_0 : decode cX9_rests 0 = .ok (.aload_n 0, 1) := by decide +kernel
theorem dX9_rests_1 : decode cX9_rests 1 = .ok (.iconst 0, 1) := by decide +kernel
theorem dX9_rests_2 : decode cX9_rests 2 = .ok (.putfield 3, 3) := by decide +kernel
theorem dX9_rests_5 : decode cX9_rests 5 = .ok (.iload_n 1, 1) := by decide +kernel
theorem dX9_rests_6 : decode cX9_rests 6 = .ok (.i2l, 1) := by decide +kernel
theorem dX9_rests_7 : decode cX9_rests 7 = .ok (.lconst 0, 1) := by decide +kernel
theorem dX9_rests_8 : decode cX9_rests 8 = .ok (.ldc2_w 379, 3) := by decide +kernel
theorem dX9_rests_11 : decode cX9_rests 11 = .ok (.invokestatic 119, 3) := by decide +kernel
theorem dX9_rests_14 : decode cX9_rests 14 = .ok (.ifCond .ne 5, 3) := by decide +kernel
theorem dX9_rests_17 : decode cX9_rests 17 = .ok (.iconst (-1), 1) := by decide +kernel
theorem dX9_rests_18 : decode cX9_rests 18 = .ok (.ireturn, 1) := by decide +kernel
theorem dX9_rests_19 : decode cX9_rests 19 = .ok (.iconst 0, 1) := by decide +kernel
theorem dX9_rests_20 : decode cX9_rests 20 = .ok (.istore_n 2, 1) := by decide +kernel
theorem dX9_rests_21 : decode cX9_rests 21 = .ok (.aload_n 0, 1) := by decide +kernel
theorem dX9_rests_22 : decode cX9_rests 22 = .ok (.iconst 0, 1) := by decide +kernel
theorem dX9_rests_23 : decode cX9_rests 23 = .ok (.putfield 15, 3) := by decide +kernel
theorem dX9_rests_26 : decode cX9_rests 26 = .ok (.iconst 0, 1) := by decide +kernel
theorem dX9_rests_27 : decode cX9_rests 27 = .ok (.istore_n 3, 1) := by decide +kernel
theorem dX9_rests_28 : decode cX9_rests 28 = .ok (.iload_n 3, 1) := by decide +kernel
theorem dX9_rests_29 : decode cX9_rests 29 = .ok (.bipush 9, 2) := by decide +kernel
theorem dX9_rests_31 : decode cX9_rests 31 = .ok (.if_icmp .gt 65, 3) := by decide +kernel
theorem dX9_rests_34 : decode cX9_rests 34 = .ok (.iconst 0, 1) := by decide +kernel
theorem dX9_rests_35 : decode cX9_rests 35 = .ok (.istore 4, 2) := by decide +kernel
theorem dX9_rests_37 : decode cX9_rests 37 = .ok (.iload 4, 2) := by decide +kernel
theorem dX9_rests_39 : decode cX9_rests 39 = .ok (.bipush 9, 2) := by decide +kernel
theorem dX9_rests_41 : decode cX9_rests 41 = .ok (.if_icmp .gt 49, 3) := by decide +kernel
theorem dX9_rests_44 : decode cX9_rests 44 = .ok (.iload_n 3, 1) := by decide +kernel
theorem dX9_rests_45 : decode cX9_rests 45 = .ok (.iload 4, 2) := by decide +kernel
theorem dX9_rests_47 : decode cX9_rests 47 = .ok (.iload_n 1, 1) := by decide +kernel
theorem dX9_rests_48 : decode cX9_rests 48 = .ok (.invokestatic 413, 3) := by decide +kernel
theorem dX9_rests_51 : decode cX9_rests 51 = .ok (.ifCond .eq 33, 3) := by decide +kernel
theorem dX9_rests_54 : decode cX9_rests 54 = .ok (.iload 4, 2) := by decide +kernel
theorem dX9_rests_56 : decode cX9_rests 56 = .ok (.iload_n 3, 1) := by decide +kernel
theorem dX9_rests_57 : decode cX9_rests 57 = .ok (.iload_n 1, 1) := by decide +kernel
theorem dX9_rests_58 : decode cX9_rests 58 = .ok (.invokestatic 413, 3) := by decide +kernel
theorem dX9_rests_61 : decode cX9_rests 61 = .ok (.ifCond .eq 23, 3) := by decide +kernel
theorem dX9_rests_64 : decode cX9_rests 64 = .ok (.iload_n 2, 1) := by decide +kernel
theorem dX9_rests_65 : decode cX9_rests 65 = .ok (.ifCond .ne 16, 3) := by decide +kernel
theorem dX9_rests_68 : decode cX9_rests 68 = .ok (.aload_n 0, 1) := by decide +kernel
theorem dX9_rests_69 : decode cX9_rests 69 = .ok (.iload_n 3, 1) := by decide +kernel
theorem dX9_rests_70 : decode cX9_rests 70 = .ok (.i2l, 1) := by decide +kernel
theorem dX9_rests_71 : decode cX9_rests 71 = .ok (.invokevirtual 327, 3) := by decide +kernel
theorem dX9_rests_74 : decode cX9_rests 74 = .ok (.aload_n 0, 1) := by decide +kernel
theorem dX9_rests_75 : decode cX9_rests 75 = .ok (.iload 4, 2) := by decide +kernel
theorem dX9_rests_77 : decode cX9_rests 77 = .ok (.i2l, 1) := by decide +kernel
theorem dX9_rests_78 : decode cX9_rests 78 = .ok (.invokevirtual 327, 3) := by decide +kernel
theorem dX9_rests_81 : decode cX9_rests 81 = .ok (.iinc 2 1, 3) := by decide +kernel
theorem dX9_rests_84 : decode cX9_rests 84 = .ok (.iinc 4 1, 3) := by decide +kernel
theorem dX9_rests_87 : decode cX9_rests 87 = .ok (.goto (-50), 3) := by decide +kernel
theorem dX9_rests_90 : decode cX9_rests 90 = .ok (.iinc 3 1, 3) := by decide +kernel
theorem dX9_rests_93 : decode cX9_rests 93 = .ok (.goto (-65), 3) := by decide +kernel
theorem dX9_rests_96 : decode cX9_rests 96 = .ok (.iload_n 2, 1) := by decide +kernel
theorem dX9_rests_97 : decode cX9_rests 97 = .ok (.ireturn, 1) := by decide +kernel
theorem dX9_draws_0 : decode cX9_draws 0 = .ok (.aload_n 0, 1) := by decide +kernel
theorem dX9_draws_1 : decode cX9_draws 1 = .ok (.aload_n 0, 1) := by decide +kernel
theorem dX9_draws_2 : decode cX9_draws 2 = .ok (.getfield 417, 3) := by decide +kernel
theorem dX9_draws_5 : decode cX9_draws 5 = .ok (.ldc_w 420, 3) := by decide +kernel
theorem dX9_draws_8 : decode cX9_draws 8 = .ok (.imul, 1) := by decide +kernel
theorem dX9_draws_9 : decode cX9_draws 9 = .ok (.sipush 12345, 3) := by decide +kernel
theorem dX9_draws_12 : decode cX9_draws 12 = .ok (.iadd, 1) := by decide +kernel
theorem dX9_draws_13 : decode cX9_draws 13 = .ok (.putfield 417, 3) := by decide +kernel
theorem dX9_draws_16 : decode cX9_draws 16 = .ok (.aload_n 0, 1) := by decide +kernel
theorem dX9_draws_17 : decode cX9_draws 17 = .ok (.getfield 417, 3) := by decide +kernel
theorem dX9_draws_20 : decode cX9_draws 20 = .ok (.bipush 16, 2) := by decide +kernel
theorem dX9_draws_22 : decode cX9_draws 22 = .ok (.iushr, 1) := by decide +kernel
theorem dX9_draws_23 : decode cX9_draws 23 = .ok (.iload_n 1, 1) := by decide +kernel
theorem dX9_draws_24 : decode cX9_draws 24 = .ok (.irem, 1) := by decide +kernel
theorem dX9_draws_25 : decode cX9_draws 25 = .ok (.ireturn, 1) := by decide +kernel
theorem dX9_years_0 : decode cX9_years 0 = .ok (.aload_n 0, 1) := by decide +kernel
theorem dX9_years_1 : decode cX9_years 1 = .ok (.iconst 0, 1) := by decide +kernel
theorem dX9_years_2 : decode cX9_years 2 = .ok (.putfield 3, 3) := by decide +kernel
theorem dX9_years_5 : decode cX9_years 5 = .ok (.iload_n 2, 1) := by decide +kernel
theorem dX9_years_6 : decode cX9_years 6 = .ok (.i2l, 1) := by decide +kernel
theorem dX9_years_7 : decode cX9_years 7 = .ok (.lconst 1, 1) := by decide +kernel
theorem dX9_years_8 : decode cX9_years 8 = .ok (.ldc2_w 322, 3) := by decide +kernel
theorem dX9_years_11 : decode cX9_years 11 = .ok (.invokestatic 119, 3) := by decide +kernel
theorem dX9_years_14 : decode cX9_years 14 = .ok (.ifCond .ne 5, 3) := by decide +kernel
theorem dX9_years_17 : decode cX9_years 17 = .ok (.iconst (-1), 1) := by decide +kernel
theorem dX9_years_18 : decode cX9_years 18 = .ok (.ireturn, 1) := by decide +kernel
theorem dX9_years_19 : decode cX9_years 19 = .ok (.aload_n 0, 1) := by decide +kernel
theorem dX9_years_20 : decode cX9_years 20 = .ok (.iload_n 1, 1) := by decide +kernel
theorem dX9_years_21 : decode cX9_years 21 = .ok (.putfield 417, 3) := by decide +kernel
theorem dX9_years_24 : decode cX9_years 24 = .ok (.aload_n 0, 1) := by decide +kernel
theorem dX9_years_25 : decode cX9_years 25 = .ok (.invokevirtual 362, 3) := by decide +kernel
theorem dX9_years_28 : decode cX9_years 28 = .ok (.aload_n 0, 1) := by decide +kernel
theorem dX9_years_29 : decode cX9_years 29 = .ok (.aload_n 0, 1) := by decide +kernel
theorem dX9_years_30 : decode cX9_years 30 = .ok (.getfield 37, 3) := by decide +kernel
theorem dX9_years_33 : decode cX9_years 33 = .ok (.iconst 0, 1) := by decide +kernel
theorem dX9_years_34 : decode cX9_years 34 = .ok (.invokevirtual 324, 3) := by decide +kernel
theorem dX9_years_37 : decode cX9_years 37 = .ok (.iconst 0, 1) := by decide +kernel
theorem dX9_years_38 : decode cX9_years 38 = .ok (.istore_n 3, 1) := by decide +kernel
theorem dX9_years_39 : decode cX9_years 39 = .ok (.iload_n 3, 1) := by decide +kernel
theorem dX9_years_40 : decode cX9_years 40 = .ok (.iload_n 2, 1) := by decide +kernel
theorem dX9_years_41 : decode cX9_years 41 = .ok (.if_icmp .ge 96, 3) := by decide +kernel
theorem dX9_years_44 : decode cX9_years 44 = .ok (.aload_n 0, 1) := by decide +kernel
theorem dX9_years_45 : decode cX9_years 45 = .ok (.iconst 4, 1) := by decide +kernel
theorem dX9_years_46 : decode cX9_years 46 = .ok (.invokevirtual 421, 3) := by decide +kernel
theorem dX9_years_49 : decode cX9_years 49 = .ok (.istore 4, 2) := by decide +kernel
theorem dX9_years_51 : decode cX9_years 51 = .ok (.iload 4, 2) := by decide +kernel
theorem dX9_years_53 : decode cX9_years 53 = .ok (.iconst 2, 1) := by decide +kernel
theorem dX9_years_54 : decode cX9_years 54 = .ok (.if_icmp .ge 14, 3) := by decide +kernel
theorem dX9_years_57 : decode cX9_years 57 = .ok (.aload_n 0, 1) := by decide +kernel
theorem dX9_years_58 : decode cX9_years 58 = .ok (.aload_n 0, 1) := by decide +kernel
theorem dX9_years_59 : decode cX9_years 59 = .ok (.getfield 37, 3) := by decide +kernel
theorem dX9_years_62 : decode cX9_years 62 = .ok (.invokevirtual 313, 3) := by decide +kernel
theorem dX9_years_65 : decode cX9_years 65 = .ok (.goto 66, 3) := by decide +kernel
theorem dX9_years_68 : decode cX9_years 68 = .ok (.aload_n 0, 1) := by decide +kernel
theorem dX9_years_69 : decode cX9_years 69 = .ok (.getfield 116, 3) := by decide +kernel
theorem dX9_years_72 : decode cX9_years 72 = .ok (.ifCond .le 59, 3) := by decide +kernel
theorem dX9_years_75 : decode cX9_years 75 = .ok (.aload_n 0, 1) := by decide +kernel
theorem dX9_years_76 : decode cX9_years 76 = .ok (.aload_n 0, 1) := by decide +kernel
theorem dX9_years_77 : decode cX9_years 77 = .ok (.getfield 116, 3) := by decide +kernel
theorem dX9_years_80 : decode cX9_years 80 = .ok (.invokevirtual 421, 3) := by decide +kernel
theorem dX9_years_83 : decode cX9_years 83 = .ok (.istore 5, 2) := by decide +kernel
theorem dX9_years_85 : decode cX9_years 85 = .ok (.iload 4, 2) := by decide +kernel
theorem dX9_years_87 : decode cX9_years 87 = .ok (.iconst 2, 1) := by decide +kernel
theorem dX9_years_88 : decode cX9_years 88 = .ok (.if_icmp .ne 24, 3) := by decide +kernel
theorem dX9_years_91 : decode cX9_years 91 = .ok (.aload_n 0, 1) := by decide +kernel
theorem dX9_years_92 : decode cX9_years 92 = .ok (.aload_n 0, 1) := by decide +kernel
theorem dX9_years_93 : decode cX9_years 93 = .ok (.getfield 37, 3) := by decide +kernel
theorem dX9_years_96 : decode cX9_years 96 = .ok (.iload 5, 2) := by decide +kernel
theorem dX9_years_98 : decode cX9_years 98 = .ok (.iconst 1, 1) := by decide +kernel
theorem dX9_years_99 : decode cX9_years 99 = .ok (.aload_n 0, 1) := by decide +kernel
theorem dX9_years_100 : decode cX9_years 100 = .ok (.iconst 3, 1) := by decide +kernel
theorem dX9_years_101 : decode cX9_years 101 = .ok (.invokevirtual 421, 3) := by decide +kernel
theorem dX9_years_104 : decode cX9_years 104 = .ok (.iadd, 1) := by decide +kernel
theorem dX9_years_105 : decode cX9_years 105 = .ok (.invokevirtual 331, 3) := by decide +kernel
theorem dX9_years_108 : decode cX9_years 108 = .ok (.pop, 1) := by decide +kernel
theorem dX9_years_109 : decode cX9_years 109 = .ok (.goto 22, 3) := by decide +kernel
theorem dX9_years_112 : decode cX9_years 112 = .ok (.aload_n 0, 1) := by decide +kernel
theorem dX9_years_113 : decode cX9_years 113 = .ok (.aload_n 0, 1) := by decide +kernel
theorem dX9_years_114 : decode cX9_years 114 = .ok (.getfield 37, 3) := by decide +kernel
theorem dX9_years_117 : decode cX9_years 117 = .ok (.iload 5, 2) := by decide +kernel
theorem dX9_years_119 : decode cX9_years 119 = .ok (.aload_n 0, 1) := by decide +kernel
theorem dX9_years_120 : decode cX9_years 120 = .ok (.aload_n 0, 1) := by decide +kernel
theorem dX9_years_121 : decode cX9_years 121 = .ok (.getfield 116, 3) := by decide +kernel
theorem dX9_years_124 : decode cX9_years 124 = .ok (.invokevirtual 421, 3) := by decide +kernel
theorem dX9_years_127 : decode cX9_years 127 = .ok (.invokevirtual 340, 3) := by decide +kernel
theorem dX9_years_130 : decode cX9_years 130 = .ok (.pop, 1) := by decide +kernel
theorem dX9_years_131 : decode cX9_years 131 = .ok (.iinc 3 1, 3) := by decide +kernel
theorem dX9_years_134 : decode cX9_years 134 = .ok (.goto (-95), 3) := by decide +kernel
theorem dX9_years_137 : decode cX9_years 137 = .ok (.aload_n 0, 1) := by decide +kernel
theorem dX9_years_138 : decode cX9_years 138 = .ok (.iconst 0, 1) := by decide +kernel
theorem dX9_years_139 : decode cX9_years 139 = .ok (.putfield 15, 3) := by decide +kernel
theorem dX9_years_142 : decode cX9_years 142 = .ok (.aload_n 0, 1) := by decide +kernel
theorem dX9_years_143 : decode cX9_years 143 = .ok (.aload_n 0, 1) := by decide +kernel
theorem dX9_years_144 : decode cX9_years 144 = .ok (.getfield 37, 3) := by decide +kernel
theorem dX9_years_147 : decode cX9_years 147 = .ok (.bipush 33, 2) := by decide +kernel
theorem dX9_years_149 : decode cX9_years 149 = .ok (.iaload, 1) := by decide +kernel
theorem dX9_years_150 : decode cX9_years 150 = .ok (.i2l, 1) := by decide +kernel
theorem dX9_years_151 : decode cX9_years 151 = .ok (.invokevirtual 327, 3) := by decide +kernel
theorem dX9_years_154 : decode cX9_years 154 = .ok (.aload_n 0, 1) := by decide +kernel
theorem dX9_years_155 : decode cX9_years 155 = .ok (.aload_n 0, 1) := by decide +kernel
theorem dX9_years_156 : decode cX9_years 156 = .ok (.getfield 300, 3) := by decide +kernel
theorem dX9_years_159 : decode cX9_years 159 = .ok (.i2l, 1) := by decide +kernel
theorem dX9_years_160 : decode cX9_years 160 = .ok (.invokevirtual 327, 3) := by decide +kernel
theorem dX9_years_163 : decode cX9_years 163 = .ok (.aload_n 0, 1) := by decide +kernel
theorem dX9_years_164 : decode cX9_years 164 = .ok (.aload_n 0, 1) := by decide +kernel
theorem dX9_years_165 : decode cX9_years 165 = .ok (.getfield 37, 3) := by decide +kernel
theorem dX9_years_168 : decode cX9_years 168 = .ok (.invokevirtual 307, 3) := by decide +kernel
theorem dX9_years_171 : decode cX9_years 171 = .ok (.ireturn, 1) := by decide +kernel
theorem dX9_keep_0 : decode cX9_keep 0 = .ok (.aload_n 0, 1) := by decide +kernel
theorem dX9_keep_1 : decode cX9_keep 1 = .ok (.iconst 0, 1) := by decide +kernel
theorem dX9_keep_2 : decode cX9_keep 2 = .ok (.putfield 3, 3) := by decide +kernel
theorem dX9_keep_5 : decode cX9_keep 5 = .ok (.iload_n 1, 1) := by decide +kernel
theorem dX9_keep_6 : decode cX9_keep 6 = .ok (.i2l, 1) := by decide +kernel
theorem dX9_keep_7 : decode cX9_keep 7 = .ok (.lconst 0, 1) := by decide +kernel
theorem dX9_keep_8 : decode cX9_keep 8 = .ok (.ldc2_w 424, 3) := by decide +kernel
theorem dX9_keep_11 : decode cX9_keep 11 = .ok (.invokestatic 119, 3) := by decide +kernel
theorem dX9_keep_14 : decode cX9_keep 14 = .ok (.ifCond .ne 5, 3) := by decide +kernel
theorem dX9_keep_17 : decode cX9_keep 17 = .ok (.iconst 0, 1) := by decide +kernel
theorem dX9_keep_18 : decode cX9_keep 18 = .ok (.ireturn, 1) := by decide +kernel
theorem dX9_keep_19 : decode cX9_keep 19 = .ok (.aload_n 0, 1) := by decide +kernel
theorem dX9_keep_20 : decode cX9_keep 20 = .ok (.getfield 107, 3) := by decide +kernel
theorem dX9_keep_23 : decode cX9_keep 23 = .ok (.iload_n 1, 1) := by decide +kernel
theorem dX9_keep_24 : decode cX9_keep 24 = .ok (.iconst 1, 1) := by decide +kernel
theorem dX9_keep_25 : decode cX9_keep 25 = .ok (.bastore, 1) := by decide +kernel
theorem dX9_keep_26 : decode cX9_keep 26 = .ok (.aload_n 0, 1) := by decide +kernel
theorem dX9_keep_27 : decode cX9_keep 27 = .ok (.getfield 110, 3) := by decide +kernel
theorem dX9_keep_30 : decode cX9_keep 30 = .ok (.iload_n 1, 1) := by decide +kernel
theorem dX9_keep_31 : decode cX9_keep 31 = .ok (.aload_n 0, 1) := by decide +kernel
theorem dX9_keep_32 : decode cX9_keep 32 = .ok (.getfield 199, 3) := by decide +kernel
theorem dX9_keep_35 : decode cX9_keep 35 = .ok (.iastore, 1) := by decide +kernel
theorem dX9_keep_36 : decode cX9_keep 36 = .ok (.iconst 0, 1) := by decide +kernel
theorem dX9_keep_37 : decode cX9_keep 37 = .ok (.istore_n 2, 1) := by decide +kernel
theorem dX9_keep_38 : decode cX9_keep 38 = .ok (.iload_n 2, 1) := by decide +kernel
theorem dX9_keep_39 : decode cX9_keep 39 = .ok (.bipush 37, 2) := by decide +kernel
theorem dX9_keep_41 : decode cX9_keep 41 = .ok (.if_icmp .ge 26, 3) := by decide +kernel
theorem dX9_keep_44 : decode cX9_keep 44 = .ok (.aload_n 0, 1) := by decide +kernel
theorem dX9_keep_45 : decode cX9_keep 45 = .ok (.getfield 113, 3) := by decide +kernel
theorem dX9_keep_48 : decode cX9_keep 48 = .ok (.bipush 37, 2) := by decide +kernel
theorem dX9_keep_50 : decode cX9_keep 50 = .ok (.iload_n 1, 1) := by decide +kernel
theorem dX9_keep_51 : decode cX9_keep 51 = .ok (.imul, 1) := by decide +kernel
theorem dX9_keep_52 : decode cX9_keep 52 = .ok (.iload_n 2, 1) := by decide +kernel
theorem dX9_keep_53 : decode cX9_keep 53 = .ok (.iadd, 1) := by decide +kernel
theorem dX9_keep_54 : decode cX9_keep 54 = .ok (.aload_n 0, 1) := by decide +kernel
theorem dX9_keep_55 : decode cX9_keep 55 = .ok (.getfield 34, 3) := by decide +kernel
theorem dX9_keep_58 : decode cX9_keep 58 = .ok (.iload_n 2, 1) := by decide +kernel
theorem dX9_keep_59 : decode cX9_keep 59 = .ok (.iaload, 1) := by decide +kernel
theorem dX9_keep_60 : decode cX9_keep 60 = .ok (.iastore, 1) := by decide +kernel
theorem dX9_keep_61 : decode cX9_keep 61 = .ok (.iinc 2 1, 3) := by decide +kernel
theorem dX9_keep_64 : decode cX9_keep 64 = .ok (.goto (-26), 3) := by decide +kernel
theorem dX9_keep_67 : decode cX9_keep 67 = .ok (.iconst 1, 1) := by decide +kernel
theorem dX9_keep_68 : decode cX9_keep 68 = .ok (.ireturn, 1) := by decide +kernel
theorem dX9_again_0 : decode cX9_again 0 = .ok (.aload_n 0, 1) := by decide +kernel
theorem dX9_again_1 : decode cX9_again 1 = .ok (.iconst 0, 1) := by decide +kernel
theorem dX9_again_2 : decode cX9_again 2 = .ok (.putfield 3, 3) := by decide +kernel
theorem dX9_again_5 : decode cX9_again 5 = .ok (.iload_n 1, 1) := by decide +kernel
theorem dX9_again_6 : decode cX9_again 6 = .ok (.i2l, 1) := by decide +kernel
theorem dX9_again_7 : decode cX9_again 7 = .ok (.lconst 0, 1) := by decide +kernel
theorem dX9_again_8 : decode cX9_again 8 = .ok (.ldc2_w 424, 3) := by decide +kernel
theorem dX9_again_11 : decode cX9_again 11 = .ok (.invokestatic 119, 3) := by decide +kernel
theorem dX9_again_14 : decode cX9_again 14 = .ok (.ifCond .eq 25, 3) := by decide +kernel
theorem dX9_again_17 : decode cX9_again 17 = .ok (.aload_n 0, 1) := by decide +kernel
theorem dX9_again_18 : decode cX9_again 18 = .ok (.getfield 107, 3) := by decide +kernel
theorem dX9_again_21 : decode cX9_again 21 = .ok (.iload_n 1, 1) := by decide +kernel
theorem dX9_again_22 : decode cX9_again 22 = .ok (.baload, 1) := by decide +kernel
theorem dX9_again_23 : decode cX9_again 23 = .ok (.ifCond .eq 16, 3) := by decide +kernel
theorem dX9_again_26 : decode cX9_again 26 = .ok (.aload_n 0, 1) := by decide +kernel
theorem dX9_again_27 : decode cX9_again 27 = .ok (.getfield 110, 3) := by decide +kernel
theorem dX9_again_30 : decode cX9_again 30 = .ok (.iload_n 1, 1) := by decide +kernel
theorem dX9_again_31 : decode cX9_again 31 = .ok (.iaload, 1) := by decide +kernel
theorem dX9_again_32 : decode cX9_again 32 = .ok (.aload_n 0, 1) := by decide +kernel
theorem dX9_again_33 : decode cX9_again 33 = .ok (.getfield 199, 3) := by decide +kernel
theorem dX9_again_36 : decode cX9_again 36 = .ok (.if_icmp .eq 5, 3) := by decide +kernel
theorem dX9_again_39 : decode cX9_again 39 = .ok (.iconst 0, 1) := by decide +kernel
theorem dX9_again_40 : decode cX9_again 40 = .ok (.ireturn, 1) := by decide +kernel
theorem dX9_again_41 : decode cX9_again 41 = .ok (.iconst 0, 1) := by decide +kernel
theorem dX9_again_42 : decode cX9_again 42 = .ok (.istore_n 2, 1) := by decide +kernel
theorem dX9_again_43 : decode cX9_again 43 = .ok (.iload_n 2, 1) := by decide +kernel
theorem dX9_again_44 : decode cX9_again 44 = .ok (.bipush 37, 2) := by decide +kernel
theorem dX9_again_46 : decode cX9_again 46 = .ok (.if_icmp .ge 26, 3) := by decide +kernel
theorem dX9_again_49 : decode cX9_again 49 = .ok (.aload_n 0, 1) := by decide +kernel
theorem dX9_again_50 : decode cX9_again 50 = .ok (.getfield 34, 3) := by decide +kernel
theorem dX9_again_53 : decode cX9_again 53 = .ok (.iload_n 2, 1) := by decide +kernel
theorem dX9_again_54 : decode cX9_again 54 = .ok (.aload_n 0, 1) := by decide +kernel
theorem dX9_again_55 : decode cX9_again 55 = .ok (.getfield 113, 3) := by decide +kernel
theorem dX9_again_58 : decode cX9_again 58 = .ok (.bipush 37, 2) := by decide +kernel
theorem dX9_again_60 : decode cX9_again 60 = .ok (.iload_n 1, 1) := by decide +kernel
theorem dX9_again_61 : decode cX9_again 61 = .ok (.imul, 1) := by decide +kernel
theorem dX9_again_62 : decode cX9_again 62 = .ok (.iload_n 2, 1) := by decide +kernel
theorem dX9_again_63 : decode cX9_again 63 = .ok (.iadd, 1) := by decide +kernel
theorem dX9_again_64 : decode cX9_again 64 = .ok (.iaload, 1) := by decide +kernel
theorem dX9_again_65 : decode cX9_again 65 = .ok (.iastore, 1) := by decide +kernel
theorem dX9_again_66 : decode cX9_again 66 = .ok (.iinc 2 1, 3) := by decide +kernel
theorem dX9_again_69 : decode cX9_again 69 = .ok (.goto (-26), 3) := by decide +kernel
theorem dX9_again_72 : decode cX9_again 72 = .ok (.aload_n 0, 1) := by decide +kernel
theorem dX9_again_73 : decode cX9_again 73 = .ok (.iconst 0, 1) := by decide +kernel
theorem dX9_again_74 : decode cX9_again 74 = .ok (.putfield 196, 3) := by decide +kernel
theorem dX9_again_77 : decode cX9_again 77 = .ok (.iconst 1, 1) := by decide +kernel
theorem dX9_again_78 : decode cX9_again 78 = .ok (.ireturn, 1) := by decide +kernel
theorem dX9_count_0 : decode cX9_count 0 = .ok (.aload_n 0, 1) := by decide +kernel
theorem dX9_count_1 : decode cX9_count 1 = .ok (.iconst 0, 1) := by decide +kernel
theorem dX9_count_2 : decode cX9_count 2 = .ok (.putfield 3, 3) := by decide +kernel
theorem dX9_count_5 : decode cX9_count 5 = .ok (.iload_n 1, 1) := by decide +kernel
theorem dX9_count_6 : decode cX9_count 6 = .ok (.tableswitch 167 0 12 #[66, 71, 80, 89, 97, 105, 113, 121, 133, 147, 152, 157, 162], 66) := by decide +kernel
theorem dX9_count_72 : decode cX9_count 72 = .ok (.aload_n 0, 1) := by decide +kernel
theorem dX9_count_73 : decode cX9_count 73 = .ok (.getfield 116, 3) := by decide +kernel
theorem dX9_count_76 : decode cX9_count 76 = .ok (.ireturn, 1) := by decide +kernel
theorem dX9_count_77 : decode cX9_count 77 = .ok (.aload_n 0, 1) := by decide +kernel
theorem dX9_count_78 : decode cX9_count 78 = .ok (.aload_n 0, 1) := by decide +kernel
theorem dX9_count_79 : decode cX9_count 79 = .ok (.getfield 34, 3) := by decide +kernel
theorem dX9_count_82 : decode cX9_count 82 = .ok (.invokevirtual 307, 3) := by decide +kernel
theorem dX9_count_85 : decode cX9_count 85 = .ok (.ireturn, 1) := by decide +kernel
theorem dX9_count_86 : decode cX9_count 86 = .ok (.aload_n 0, 1) := by decide +kernel
theorem dX9_count_87 : decode cX9_count 87 = .ok (.aload_n 0, 1) := by decide +kernel
theorem dX9_count_88 : decode cX9_count 88 = .ok (.getfield 34, 3) := by decide +kernel
theorem dX9_count_91 : decode cX9_count 91 = .ok (.invokevirtual 319, 3) := by decide +kernel
theorem dX9_count_94 : decode cX9_count 94 = .ok (.ireturn, 1) := by decide +kernel
theorem dX9_count_95 : decode cX9_count 95 = .ok (.aload_n 0, 1) := by decide +kernel
theorem dX9_count_96 : decode cX9_count 96 = .ok (.getfield 34, 3) := by decide +kernel
theorem dX9_count_99 : decode cX9_count 99 = .ok (.bipush 33, 2) := by decide +kernel
theorem dX9_count_101 : decode cX9_count 101 = .ok (.iaload, 1) := by decide +kernel
theorem dX9_count_102 : decode cX9_count 102 = .ok (.ireturn, 1) := by decide +kernel
theorem dX9_count_103 : decode cX9_count 103 = .ok (.aload_n 0, 1) := by decide +kernel
theorem dX9_count_104 : decode cX9_count 104 = .ok (.getfield 34, 3) := by decide +kernel
theorem dX9_count_107 : decode cX9_count 107 = .ok (.bipush 34, 2) := by decide +kernel
theorem dX9_count_109 : decode cX9_count 109 = .ok (.iaload, 1) := by decide +kernel
theorem dX9_count_110 : decode cX9_count 110 = .ok (.ireturn, 1) := by decide +kernel
theorem dX9_count_111 : decode cX9_count 111 = .ok (.aload_n 0, 1) := by decide +kernel
theorem dX9_count_112 : decode cX9_count 112 = .ok (.getfield 34, 3) := by decide +kernel
theorem dX9_count_115 : decode cX9_count 115 = .ok (.bipush 35, 2) := by decide +kernel
theorem dX9_count_117 : decode cX9_count 117 = .ok (.iaload, 1) := by decide +kernel
theorem dX9_count_118 : decode cX9_count 118 = .ok (.ireturn, 1) := by decide +kernel
theorem dX9_count_119 : decode cX9_count 119 = .ok (.aload_n 0, 1) := by decide +kernel
theorem dX9_count_120 : decode cX9_count 120 = .ok (.getfield 34, 3) := by decide +kernel
theorem dX9_count_123 : decode cX9_count 123 = .ok (.bipush 36, 2) := by decide +kernel
theorem dX9_count_125 : decode cX9_count 125 = .ok (.iaload, 1) := by decide +kernel
theorem dX9_count_126 : decode cX9_count 126 = .ok (.ireturn, 1) := by decide +kernel
theorem dX9_count_127 : decode cX9_count 127 = .ok (.aload_n 0, 1) := by decide +kernel
theorem dX9_count_128 : decode cX9_count 128 = .ok (.aload_n 0, 1) := by decide +kernel
theorem dX9_count_129 : decode cX9_count 129 = .ok (.getfield 34, 3) := by decide +kernel
theorem dX9_count_132 : decode cX9_count 132 = .ok (.bipush 36, 2) := by decide +kernel
theorem dX9_count_134 : decode cX9_count 134 = .ok (.iaload, 1) := by decide +kernel
theorem dX9_count_135 : decode cX9_count 135 = .ok (.invokevirtual 261, 3) := by decide +kernel
theorem dX9_count_138 : decode cX9_count 138 = .ok (.ireturn, 1) := by decide +kernel
theorem dX9_count_139 : decode cX9_count 139 = .ok (.aload_n 0, 1) := by decide +kernel
theorem dX9_count_140 : decode cX9_count 140 = .ok (.aload_n 0, 1) := by decide +kernel
theorem dX9_count_141 : decode cX9_count 141 = .ok (.getfield 34, 3) := by decide +kernel
theorem dX9_count_144 : decode cX9_count 144 = .ok (.iconst 0, 1) := by decide +kernel
theorem dX9_count_145 : decode cX9_count 145 = .ok (.aload_n 0, 1) := by decide +kernel
theorem dX9_count_146 : decode cX9_count 146 = .ok (.invokevirtual 131, 3) := by decide +kernel
theorem dX9_count_149 : decode cX9_count 149 = .ok (.invokevirtual 274, 3) := by decide +kernel
theorem dX9_count_152 : decode cX9_count 152 = .ok (.ireturn, 1) := by decide +kernel
theorem dX9_count_153 : decode cX9_count 153 = .ok (.aload_n 0, 1) := by decide +kernel
theorem dX9_count_154 : decode cX9_count 154 = .ok (.getfield 381, 3) := by decide +kernel
theorem dX9_count_157 : decode cX9_count 157 = .ok (.ireturn, 1) := by decide +kernel
theorem dX9_count_158 : decode cX9_count 158 = .ok (.aload_n 0, 1) := by decide +kernel
theorem dX9_count_159 : decode cX9_count 159 = .ok (.getfield 196, 3) := by decide +kernel
theorem dX9_count_162 : decode cX9_count 162 = .ok (.ireturn, 1) := by decide +kernel
theorem dX9_count_163 : decode cX9_count 163 = .ok (.aload_n 0, 1) := by decide +kernel
theorem dX9_count_164 : decode cX9_count 164 = .ok (.getfield 15, 3) := by decide +kernel
theorem dX9_count_167 : decode cX9_count 167 = .ok (.ireturn, 1) := by decide +kernel
theorem dX9_count_168 : decode cX9_count 168 = .ok (.aload_n 0, 1) := by decide +kernel
theorem dX9_count_169 : decode cX9_count 169 = .ok (.getfield 141, 3) := by decide +kernel
theorem dX9_count_172 : decode cX9_count 172 = .ok (.ireturn, 1) := by decide +kernel
theorem dX9_count_173 : decode cX9_count 173 = .ok (.bipush (-100), 2) := by decide +kernel
theorem dX9_count_175 : decode cX9_count 175 = .ok (.ireturn, 1) := by decide +kernel
theorem dX9_row_0 : decode cX9_row 0 = .ok (.aload_n 0, 1) := by decide +kernel
theorem dX9_row_1 : decode cX9_row 1 = .ok (.iconst 0, 1) := by decide +kernel
theorem dX9_row_2 : decode cX9_row 2 = .ok (.putfield 3, 3) := by decide +kernel
theorem dX9_row_5 : decode cX9_row 5 = .ok (.iload_n 1, 1) := by decide +kernel
theorem dX9_row_6 : decode cX9_row 6 = .ok (.i2l, 1) := by decide +kernel
theorem dX9_row_7 : decode cX9_row 7 = .ok (.lconst 0, 1) := by decide +kernel
theorem dX9_row_8 : decode cX9_row 8 = .ok (.aload_n 0, 1) := by decide +kernel
theorem dX9_row_9 : decode cX9_row 9 = .ok (.getfield 15, 3) := by decide +kernel
theorem dX9_row_12 : decode cX9_row 12 = .ok (.iconst 1, 1) := by decide +kernel
theorem dX9_row_13 : decode cX9_row 13 = .ok (.isub, 1) := by decide +kernel
theorem dX9_row_14 : decode cX9_row 14 = .ok (.i2l, 1) := by decide +kernel
theorem dX9_row_15 : decode cX9_row 15 = .ok (.invokestatic 119, 3) := by decide +kernel
theorem dX9_row_18 : decode cX9_row 18 = .ok (.ifCond .ne 10, 3) := by decide +kernel
theorem dX9_row_21 : decode cX9_row 21 = .ok (.aload_n 0, 1) := by decide +kernel
theorem dX9_row_22 : decode cX9_row 22 = .ok (.iconst 1, 1) := by decide +kernel
theorem dX9_row_23 : decode cX9_row 23 = .ok (.putfield 3, 3) := by decide +kernel
theorem dX9_row_26 : decode cX9_row 26 = .ok (.lconst 0, 1) := by decide +kernel
theorem dX9_row_27 : decode cX9_row 27 = .ok (.lreturn, 1) := by decide +kernel
theorem dX9_row_28 : decode cX9_row 28 = .ok (.aload_n 0, 1) := by decide +kernel
theorem dX9_row_29 : decode cX9_row 29 = .ok (.getfield 11, 3) := by decide +kernel
theorem dX9_row_32 : decode cX9_row 32 = .ok (.iload_n 1, 1) := by decide +kernel
theorem dX9_row_33 : decode cX9_row 33 = .ok (.laload, 1) := by decide +kernel
theorem dX9_row_34 : decode cX9_row 34 = .ok (.lreturn, 1) := by decide +kernel
theorem dJ6_numberOfTrailingZeros_0f7a4_0 : decode cJ6_numberOfTrailingZeros_0f7a4 0 = .ok (.iload_n 0, 1) := by decide +kernel
theorem dJ6_numberOfTrailingZeros_0f7a4_1 : decode cJ6_numberOfTrailingZeros_0f7a4 1 = .ok (.iconst (-1), 1) := by decide +kernel
theorem dJ6_numberOfTrailingZeros_0f7a4_2 : decode cJ6_numberOfTrailingZeros_0f7a4 2 = .ok (.ixor, 1) := by decide +kernel
theorem dJ6_numberOfTrailingZeros_0f7a4_3 : decode cJ6_numberOfTrailingZeros_0f7a4 3 = .ok (.iload_n 0, 1) := by decide +kernel
theorem dJ6_numberOfTrailingZeros_0f7a4_4 : decode cJ6_numberOfTrailingZeros_0f7a4 4 = .ok (.iconst 1, 1) := by decide +kernel
theorem dJ6_numberOfTrailingZeros_0f7a4_5 : decode cJ6_numberOfTrailingZeros_0f7a4 5 = .ok (.isub, 1) := by decide +kernel
theorem dJ6_numberOfTrailingZeros_0f7a4_6 : decode cJ6_numberOfTrailingZeros_0f7a4 6 = .ok (.iand, 1) := by decide +kernel
theorem dJ6_numberOfTrailingZeros_0f7a4_7 : decode cJ6_numberOfTrailingZeros_0f7a4 7 = .ok (.istore_n 0, 1) := by decide +kernel
theorem dJ6_numberOfTrailingZeros_0f7a4_8 : decode cJ6_numberOfTrailingZeros_0f7a4 8 = .ok (.iload_n 0, 1) := by decide +kernel
theorem dJ6_numberOfTrailingZeros_0f7a4_9 : decode cJ6_numberOfTrailingZeros_0f7a4 9 = .ok (.ifCond .gt 8, 3) := by decide +kernel
theorem dJ6_numberOfTrailingZeros_0f7a4_12 : decode cJ6_numberOfTrailingZeros_0f7a4 12 = .ok (.iload_n 0, 1) := by decide +kernel
theorem dJ6_numberOfTrailingZeros_0f7a4_13 : decode cJ6_numberOfTrailingZeros_0f7a4 13 = .ok (.bipush 32, 2) := by decide +kernel
theorem dJ6_numberOfTrailingZeros_0f7a4_15 : decode cJ6_numberOfTrailingZeros_0f7a4 15 = .ok (.iand, 1) := by decide +kernel
theorem dJ6_numberOfTrailingZeros_0f7a4_16 : decode cJ6_numberOfTrailingZeros_0f7a4 16 = .ok (.ireturn, 1) := by decide +kernel
theorem dJ6_numberOfTrailingZeros_0f7a4_17 : decode cJ6_numberOfTrailingZeros_0f7a4 17 = .ok (.iconst 1, 1) := by decide +kernel
theorem dJ6_numberOfTrailingZeros_0f7a4_18 : decode cJ6_numberOfTrailingZeros_0f7a4 18 = .ok (.istore_n 1, 1) := by decide +kernel
theorem dJ6_numberOfTrailingZeros_0f7a4_19 : decode cJ6_numberOfTrailingZeros_0f7a4 19 = .ok (.iload_n 0, 1) := by decide +kernel
theorem dJ6_numberOfTrailingZeros_0f7a4_20 : decode cJ6_numberOfTrailingZeros_0f7a4 20 = .ok (.ldc_w 264, 3) := by decide +kernel
theorem dJ6_numberOfTrailingZeros_0f7a4_23 : decode cJ6_numberOfTrailingZeros_0f7a4 23 = .ok (.if_icmp .le 11, 3) := by decide +kernel
theorem dJ6_numberOfTrailingZeros_0f7a4_26 : decode cJ6_numberOfTrailingZeros_0f7a4 26 = .ok (.iinc 1 16, 3) := by decide +kernel
theorem dJ6_numberOfTrailingZeros_0f7a4_29 : decode cJ6_numberOfTrailingZeros_0f7a4 29 = .ok (.iload_n 0, 1) := by decide +kernel
theorem dJ6_numberOfTrailingZeros_0f7a4_30 : decode cJ6_numberOfTrailingZeros_0f7a4 30 = .ok (.bipush 16, 2) := by decide +kernel
theorem dJ6_numberOfTrailingZeros_0f7a4_32 : decode cJ6_numberOfTrailingZeros_0f7a4 32 = .ok (.iushr, 1) := by decide +kernel
theorem dJ6_numberOfTrailingZeros_0f7a4_33 : decode cJ6_numberOfTrailingZeros_0f7a4 33 = .ok (.istore_n 0, 1) := by decide +kernel
theorem dJ6_numberOfTrailingZeros_0f7a4_34 : decode cJ6_numberOfTrailingZeros_0f7a4 34 = .ok (.iload_n 0, 1) := by decide +kernel
theorem dJ6_numberOfTrailingZeros_0f7a4_35 : decode cJ6_numberOfTrailingZeros_0f7a4 35 = .ok (.sipush 256, 3) := by decide +kernel
theorem dJ6_numberOfTrailingZeros_0f7a4_38 : decode cJ6_numberOfTrailingZeros_0f7a4 38 = .ok (.if_icmp .le 11, 3) := by decide +kernel
theorem dJ6_numberOfTrailingZeros_0f7a4_41 : decode cJ6_numberOfTrailingZeros_0f7a4 41 = .ok (.iinc 1 8, 3) := by decide +kernel
theorem dJ6_numberOfTrailingZeros_0f7a4_44 : decode cJ6_numberOfTrailingZeros_0f7a4 44 = .ok (.iload_n 0, 1) := by decide +kernel
theorem dJ6_numberOfTrailingZeros_0f7a4_45 : decode cJ6_numberOfTrailingZeros_0f7a4 45 = .ok (.bipush 8, 2) := by decide +kernel
theorem dJ6_numberOfTrailingZeros_0f7a4_47 : decode cJ6_numberOfTrailingZeros_0f7a4 47 = .ok (.iushr, 1) := by decide +kernel
theorem dJ6_numberOfTrailingZeros_0f7a4_48 : decode cJ6_numberOfTrailingZeros_0f7a4 48 = .ok (.istore_n 0, 1) := by decide +kernel
theorem dJ6_numberOfTrailingZeros_0f7a4_49 : decode cJ6_numberOfTrailingZeros_0f7a4 49 = .ok (.iload_n 0, 1) := by decide +kernel
theorem dJ6_numberOfTrailingZeros_0f7a4_50 : decode cJ6_numberOfTrailingZeros_0f7a4 50 = .ok (.bipush 16, 2) := by decide +kernel
theorem dJ6_numberOfTrailingZeros_0f7a4_52 : decode cJ6_numberOfTrailingZeros_0f7a4 52 = .ok (.if_icmp .le 10, 3) := by decide +kernel
theorem dJ6_numberOfTrailingZeros_0f7a4_55 : decode cJ6_numberOfTrailingZeros_0f7a4 55 = .ok (.iinc 1 4, 3) := by decide +kernel
theorem dJ6_numberOfTrailingZeros_0f7a4_58 : decode cJ6_numberOfTrailingZeros_0f7a4 58 = .ok (.iload_n 0, 1) := by decide +kernel
theorem dJ6_numberOfTrailingZeros_0f7a4_59 : decode cJ6_numberOfTrailingZeros_0f7a4 59 = .ok (.iconst 4, 1) := by decide +kernel
theorem dJ6_numberOfTrailingZeros_0f7a4_60 : decode cJ6_numberOfTrailingZeros_0f7a4 60 = .ok (.iushr, 1) := by decide +kernel
theorem dJ6_numberOfTrailingZeros_0f7a4_61 : decode cJ6_numberOfTrailingZeros_0f7a4 61 = .ok (.istore_n 0, 1) := by decide +kernel
theorem dJ6_numberOfTrailingZeros_0f7a4_62 : decode cJ6_numberOfTrailingZeros_0f7a4 62 = .ok (.iload_n 0, 1) := by decide +kernel
theorem dJ6_numberOfTrailingZeros_0f7a4_63 : decode cJ6_numberOfTrailingZeros_0f7a4 63 = .ok (.iconst 4, 1) := by decide +kernel
theorem dJ6_numberOfTrailingZeros_0f7a4_64 : decode cJ6_numberOfTrailingZeros_0f7a4 64 = .ok (.if_icmp .le 10, 3) := by decide +kernel
theorem dJ6_numberOfTrailingZeros_0f7a4_67 : decode cJ6_numberOfTrailingZeros_0f7a4 67 = .ok (.iinc 1 2, 3) := by decide +kernel
theorem dJ6_numberOfTrailingZeros_0f7a4_70 : decode cJ6_numberOfTrailingZeros_0f7a4 70 = .ok (.iload_n 0, 1) := by decide +kernel
theorem dJ6_numberOfTrailingZeros_0f7a4_71 : decode cJ6_numberOfTrailingZeros_0f7a4 71 = .ok (.iconst 2, 1) := by decide +kernel
theorem dJ6_numberOfTrailingZeros_0f7a4_72 : decode cJ6_numberOfTrailingZeros_0f7a4 72 = .ok (.iushr, 1) := by decide +kernel
theorem dJ6_numberOfTrailingZeros_0f7a4_73 : decode cJ6_numberOfTrailingZeros_0f7a4 73 = .ok (.istore_n 0, 1) := by decide +kernel
theorem dJ6_numberOfTrailingZeros_0f7a4_74 : decode cJ6_numberOfTrailingZeros_0f7a4 74 = .ok (.iload_n 1, 1) := by decide +kernel
theorem dJ6_numberOfTrailingZeros_0f7a4_75 : decode cJ6_numberOfTrailingZeros_0f7a4 75 = .ok (.iload_n 0, 1) := by decide +kernel
theorem dJ6_numberOfTrailingZeros_0f7a4_76 : decode cJ6_numberOfTrailingZeros_0f7a4 76 = .ok (.iconst 1, 1) := by decide +kernel
theorem dJ6_numberOfTrailingZeros_0f7a4_77 : decode cJ6_numberOfTrailingZeros_0f7a4 77 = .ok (.iushr, 1) := by decide +kernel
theorem dJ6_numberOfTrailingZeros_0f7a4_78 : decode cJ6_numberOfTrailingZeros_0f7a4 78 = .ok (.iadd, 1) := by decide +kernel
theorem dJ6_numberOfTrailingZeros_0f7a4_79 : decode cJ6_numberOfTrailingZeros_0f7a4 79 = .ok (.ireturn, 1) := by decide +kernel
theorem dJ6_bitCount_0f7a4_0 : decode cJ6_bitCount_0f7a4 0 = .ok (.iload_n 0, 1) := by decide +kernel
theorem dJ6_bitCount_0f7a4_1 : decode cJ6_bitCount_0f7a4 1 = .ok (.iload_n 0, 1) := by decide +kernel
theorem dJ6_bitCount_0f7a4_2 : decode cJ6_bitCount_0f7a4 2 = .ok (.iconst 1, 1) := by decide +kernel
theorem dJ6_bitCount_0f7a4_3 : decode cJ6_bitCount_0f7a4 3 = .ok (.iushr, 1) := by decide +kernel
theorem dJ6_bitCount_0f7a4_4 : decode cJ6_bitCount_0f7a4 4 = .ok (.ldc_w 265, 3) := by decide +kernel
theorem dJ6_bitCount_0f7a4_7 : decode cJ6_bitCount_0f7a4 7 = .ok (.iand, 1) := by decide +kernel
theorem dJ6_bitCount_0f7a4_8 : decode cJ6_bitCount_0f7a4 8 = .ok (.isub, 1) := by decide +kernel
theorem dJ6_bitCount_0f7a4_9 : decode cJ6_bitCount_0f7a4 9 = .ok (.istore_n 0, 1) := by decide +kernel
theorem dJ6_bitCount_0f7a4_10 : decode cJ6_bitCount_0f7a4 10 = .ok (.iload_n 0, 1) := by decide +kernel
theorem dJ6_bitCount_0f7a4_11 : decode cJ6_bitCount_0f7a4 11 = .ok (.ldc_w 266, 3) := by decide +kernel
theorem dJ6_bitCount_0f7a4_14 : decode cJ6_bitCount_0f7a4 14 = .ok (.iand, 1) := by decide +kernel
theorem dJ6_bitCount_0f7a4_15 : decode cJ6_bitCount_0f7a4 15 = .ok (.iload_n 0, 1) := by decide +kernel
theorem dJ6_bitCount_0f7a4_16 : decode cJ6_bitCount_0f7a4 16 = .ok (.iconst 2, 1) := by decide +kernel
theorem dJ6_bitCount_0f7a4_17 : decode cJ6_bitCount_0f7a4 17 = .ok (.iushr, 1) := by decide +kernel
theorem dJ6_bitCount_0f7a4_18 : decode cJ6_bitCount_0f7a4 18 = .ok (.ldc_w 266, 3) := by decide +kernel
theorem dJ6_bitCount_0f7a4_21 : decode cJ6_bitCount_0f7a4 21 = .ok (.iand, 1) := by decide +kernel
theorem dJ6_bitCount_0f7a4_22 : decode cJ6_bitCount_0f7a4 22 = .ok (.iadd, 1) := by decide +kernel
theorem dJ6_bitCount_0f7a4_23 : decode cJ6_bitCount_0f7a4 23 = .ok (.istore_n 0, 1) := by decide +kernel
theorem dJ6_bitCount_0f7a4_24 : decode cJ6_bitCount_0f7a4 24 = .ok (.iload_n 0, 1) := by decide +kernel
theorem dJ6_bitCount_0f7a4_25 : decode cJ6_bitCount_0f7a4 25 = .ok (.iload_n 0, 1) := by decide +kernel
theorem dJ6_bitCount_0f7a4_26 : decode cJ6_bitCount_0f7a4 26 = .ok (.iconst 4, 1) := by decide +kernel
theorem dJ6_bitCount_0f7a4_27 : decode cJ6_bitCount_0f7a4 27 = .ok (.iushr, 1) := by decide +kernel
theorem dJ6_bitCount_0f7a4_28 : decode cJ6_bitCount_0f7a4 28 = .ok (.iadd, 1) := by decide +kernel
theorem dJ6_bitCount_0f7a4_29 : decode cJ6_bitCount_0f7a4 29 = .ok (.ldc_w 267, 3) := by decide +kernel
theorem dJ6_bitCount_0f7a4_32 : decode cJ6_bitCount_0f7a4 32 = .ok (.iand, 1) := by decide +kernel
theorem dJ6_bitCount_0f7a4_33 : decode cJ6_bitCount_0f7a4 33 = .ok (.istore_n 0, 1) := by decide +kernel
theorem dJ6_bitCount_0f7a4_34 : decode cJ6_bitCount_0f7a4 34 = .ok (.iload_n 0, 1) := by decide +kernel
theorem dJ6_bitCount_0f7a4_35 : decode cJ6_bitCount_0f7a4 35 = .ok (.iload_n 0, 1) := by decide +kernel
theorem dJ6_bitCount_0f7a4_36 : decode cJ6_bitCount_0f7a4 36 = .ok (.bipush 8, 2) := by decide +kernel
theorem dJ6_bitCount_0f7a4_38 : decode cJ6_bitCount_0f7a4 38 = .ok (.iushr, 1) := by decide +kernel
theorem dJ6_bitCount_0f7a4_39 : decode cJ6_bitCount_0f7a4 39 = .ok (.iadd, 1) := by decide +kernel
theorem dJ6_bitCount_0f7a4_40 : decode cJ6_bitCount_0f7a4 40 = .ok (.istore_n 0, 1) := by decide +kernel
theorem dJ6_bitCount_0f7a4_41 : decode cJ6_bitCount_0f7a4 41 = .ok (.iload_n 0, 1) := by decide +kernel
theorem dJ6_bitCount_0f7a4_42 : decode cJ6_bitCount_0f7a4 42 = .ok (.iload_n 0, 1) := by decide +kernel
theorem dJ6_bitCount_0f7a4_43 : decode cJ6_bitCount_0f7a4 43 = .ok (.bipush 16, 2) := by decide +kernel
theorem dJ6_bitCount_0f7a4_45 : decode cJ6_bitCount_0f7a4 45 = .ok (.iushr, 1) := by decide +kernel
theorem dJ6_bitCount_0f7a4_46 : decode cJ6_bitCount_0f7a4 46 = .ok (.iadd, 1) := by decide +kernel
theorem dJ6_bitCount_0f7a4_47 : decode cJ6_bitCount_0f7a4 47 = .ok (.istore_n 0, 1) := by decide +kernel
theorem dJ6_bitCount_0f7a4_48 : decode cJ6_bitCount_0f7a4 48 = .ok (.iload_n 0, 1) := by decide +kernel
theorem dJ6_bitCount_0f7a4_49 : decode cJ6_bitCount_0f7a4 49 = .ok (.bipush 63, 2) := by decide +kernel
theorem dJ6_bitCount_0f7a4_51 : decode cJ6_bitCount_0f7a4 51 = .ok (.iand, 1) := by decide +kernel
theorem dJ6_bitCount_0f7a4_52 : decode cJ6_bitCount_0f7a4 52 = .ok (.ireturn, 1) := by decide +kernel
theorem dJ9_floorMod_7cf53_0 : decode cJ9_floorMod_7cf53 0 = .ok (.iload_n 0, 1) := by decide +kernel
theorem dJ9_floorMod_7cf53_1 : decode cJ9_floorMod_7cf53 1 = .ok (.iload_n 1, 1) := by decide +kernel
theorem dJ9_floorMod_7cf53_2 : decode cJ9_floorMod_7cf53 2 = .ok (.irem, 1) := by decide +kernel
theorem dJ9_floorMod_7cf53_3 : decode cJ9_floorMod_7cf53 3 = .ok (.istore_n 2, 1) := by decide +kernel
theorem dJ9_floorMod_7cf53_4 : decode cJ9_floorMod_7cf53 4 = .ok (.iload_n 0, 1) := by decide +kernel
theorem dJ9_floorMod_7cf53_5 : decode cJ9_floorMod_7cf53 5 = .ok (.iload_n 1, 1) := by decide +kernel
theorem dJ9_floorMod_7cf53_6 : decode cJ9_floorMod_7cf53 6 = .ok (.ixor, 1) := by decide +kernel
theorem dJ9_floorMod_7cf53_7 : decode cJ9_floorMod_7cf53 7 = .ok (.ifCond .ge 11, 3) := by decide +kernel
theorem dJ9_floorMod_7cf53_10 : decode cJ9_floorMod_7cf53 10 = .ok (.iload_n 2, 1) := by decide +kernel
theorem dJ9_floorMod_7cf53_11 : decode cJ9_floorMod_7cf53 11 = .ok (.ifCond .eq 7, 3) := by decide +kernel
theorem dJ9_floorMod_7cf53_14 : decode cJ9_floorMod_7cf53 14 = .ok (.iload_n 2, 1) := by decide +kernel
theorem dJ9_floorMod_7cf53_15 : decode cJ9_floorMod_7cf53 15 = .ok (.iload_n 1, 1) := by decide +kernel
theorem dJ9_floorMod_7cf53_16 : decode cJ9_floorMod_7cf53 16 = .ok (.iadd, 1) := by decide +kernel
theorem dJ9_floorMod_7cf53_17 : decode cJ9_floorMod_7cf53 17 = .ok (.ireturn, 1) := by decide +kernel
theorem dJ9_floorMod_7cf53_18 : decode cJ9_floorMod_7cf53 18 = .ok (.iload_n 2, 1) := by decide +kernel
theorem dJ9_floorMod_7cf53_19 : decode cJ9_floorMod_7cf53 19 = .ok (.ireturn, 1) := by decide +kernel
theorem dJ9_abs_0f7a4_0 : decode cJ9_abs_0f7a4 0 = .ok (.iload_n 0, 1) := by decide +kernel
theorem dJ9_abs_0f7a4_1 : decode cJ9_abs_0f7a4 1 = .ok (.ifCond .ge 8, 3) := by decide +kernel
theorem dJ9_abs_0f7a4_4 : decode cJ9_abs_0f7a4 4 = .ok (.iload_n 0, 1) := by decide +kernel
theorem dJ9_abs_0f7a4_5 : decode cJ9_abs_0f7a4 5 = .ok (.ineg, 1) := by decide +kernel
theorem dJ9_abs_0f7a4_6 : decode cJ9_abs_0f7a4 6 = .ok (.goto 4, 3) := by decide +kernel
theorem dJ9_abs_0f7a4_9 : decode cJ9_abs_0f7a4 9 = .ok (.iload_n 0, 1) := by decide +kernel
theorem dJ9_abs_0f7a4_10 : decode cJ9_abs_0f7a4 10 = .ok (.ireturn, 1) := by decide +kernel
theorem dJ9_max_7cf53_0 : decode cJ9_max_7cf53 0 = .ok (.iload_n 0, 1) := by decide +kernel
theorem dJ9_max_7cf53_1 : decode cJ9_max_7cf53 1 = .ok (.iload_n 1, 1) := by decide +kernel
theorem dJ9_max_7cf53_2 : decode cJ9_max_7cf53 2 = .ok (.if_icmp .lt 7, 3) := by decide +kernel
theorem dJ9_max_7cf53_5 : decode cJ9_max_7cf53 5 = .ok (.iload_n 0, 1) := by decide +kernel
theorem dJ9_max_7cf53_6 : decode cJ9_max_7cf53 6 = .ok (.goto 4, 3) := by decide +kernel
theorem dJ9_max_7cf53_9 : decode cJ9_max_7cf53 9 = .ok (.iload_n 1, 1) := by decide +kernel
theorem dJ9_max_7cf53_10 : decode cJ9_max_7cf53 10 = .ok (.ireturn, 1) := by decide +kernel
theorem dJ9_min_7cf53_0 : decode cJ9_min_7cf53 0 = .ok (.iload_n 0, 1) := by decide +kernel
theorem dJ9_min_7cf53_1 : decode cJ9_min_7cf53 1 = .ok (.iload_n 1, 1) := by decide +kernel
theorem dJ9_min_7cf53_2 : decode cJ9_min_7cf53 2 = .ok (.if_icmp .gt 7, 3) := by decide +kernel
theorem dJ9_min_7cf53_5 : decode cJ9_min_7cf53 5 = .ok (.iload_n 0, 1) := by decide +kernel
theorem dJ9_min_7cf53_6 : decode cJ9_min_7cf53 6 = .ok (.goto 4, 3) := by decide +kernel
theorem dJ9_min_7cf53_9 : decode cJ9_min_7cf53 9 = .ok (.iload_n 1, 1) := by decide +kernel
theorem dJ9_min_7cf53_10 : decode cJ9_min_7cf53 10 = .ok (.ireturn, 1) := by decide +kernel
theorem dJ0_length_8abf5_0 : decode cJ0_length_8abf5 0 = .ok (.aload_n 0, 1) := by decide +kernel
theorem dJ0_length_8abf5_1 : decode cJ0_length_8abf5 1 = .ok (.getfield 9, 3) := by decide +kernel
theorem dJ0_length_8abf5_4 : decode cJ0_length_8abf5 4 = .ok (.arraylength, 1) := by decide +kernel
theorem dJ0_length_8abf5_5 : decode cJ0_length_8abf5 5 = .ok (.aload_n 0, 1) := by decide +kernel
theorem dJ0_length_8abf5_6 : decode cJ0_length_8abf5 6 = .ok (.invokevirtual 335, 3) := by decide +kernel
theorem dJ0_length_8abf5_9 : decode cJ0_length_8abf5 9 = .ok (.ishr, 1) := by decide +kernel
theorem dJ0_length_8abf5_10 : decode cJ0_length_8abf5 10 = .ok (.ireturn, 1) := by decide +kernel
theorem dJ0_charAt_5068e_0 : decode cJ0_charAt_5068e 0 = .ok (.aload_n 0, 1) := by decide +kernel
theorem dJ0_charAt_5068e_1 : decode cJ0_charAt_5068e 1 = .ok (.invokevirtual 492, 3) := by decide +kernel
theorem dJ0_charAt_5068e_4 : decode cJ0_charAt_5068e 4 = .ok (.ifCond .eq 12, 3) := by decide +kernel
theorem dJ0_charAt_5068e_7 : decode cJ0_charAt_5068e 7 = .ok (.aload_n 0, 1) := by decide +kernel
theorem dJ0_charAt_5068e_8 : decode cJ0_charAt_5068e 8 = .ok (.getfield 9, 3) := by decide +kernel
theorem dJ0_charAt_5068e_11 : decode cJ0_charAt_5068e 11 = .ok (.iload_n 1, 1) := by decide +kernel
theorem dJ0_charAt_5068e_12 : decode cJ0_charAt_5068e 12 = .ok (.invokestatic 495, 3) := by decide +kernel
theorem dJ0_charAt_5068e_15 : decode cJ0_charAt_5068e 15 = .ok (.ireturn, 1) := by decide +kernel
theorem dJ0_charAt_5068e_16 : decode cJ0_charAt_5068e 16 = .ok (.aload_n 0, 1) := by decide +kernel
theorem dJ0_charAt_5068e_17 : decode cJ0_charAt_5068e 17 = .ok (.getfield 9, 3) := by decide +kernel
theorem dJ0_charAt_5068e_20 : decode cJ0_charAt_5068e 20 = .ok (.iload_n 1, 1) := by decide +kernel
theorem dJ0_charAt_5068e_21 : decode cJ0_charAt_5068e 21 = .ok (.invokestatic 498, 3) := by decide +kernel
theorem dJ0_charAt_5068e_24 : decode cJ0_charAt_5068e 24 = .ok (.ireturn, 1) := by decide +kernel
theorem dJ0_coder_7d493_0 : decode cJ0_coder_7d493 0 = .ok (.getstatic 38, 3) := by decide +kernel
theorem dJ0_coder_7d493_3 : decode cJ0_coder_7d493 3 = .ok (.ifCond .eq 10, 3) := by decide +kernel
theorem dJ0_coder_7d493_6 : decode cJ0_coder_7d493 6 = .ok (.aload_n 0, 1) := by decide +kernel
theorem dJ0_coder_7d493_7 : decode cJ0_coder_7d493 7 = .ok (.getfield 15, 3) := by decide +kernel
theorem dJ0_coder_7d493_10 : decode cJ0_coder_7d493 10 = .ok (.goto 4, 3) := by decide +kernel
theorem dJ0_coder_7d493_13 : decode cJ0_coder_7d493 13 = .ok (.iconst 1, 1) := by decide +kernel
theorem dJ0_coder_7d493_14 : decode cJ0_coder_7d493 14 = .ok (.ireturn, 1) := by decide +kernel
theorem dJ0_isLatin1_aae02_0 : decode cJ0_isLatin1_aae02 0 = .ok (.getstatic 38, 3) := by decide +kernel
theorem dJ0_isLatin1_aae02_3 : decode cJ0_isLatin1_aae02 3 = .ok (.ifCond .eq 14, 3) := by decide +kernel
theorem dJ0_isLatin1_aae02_6 : decode cJ0_isLatin1_aae02 6 = .ok (.aload_n 0, 1) := by decide +kernel
theorem dJ0_isLatin1_aae02_7 : decode cJ0_isLatin1_aae02 7 = .ok (.getfield 15, 3) := by decide +kernel
theorem dJ0_isLatin1_aae02_10 : decode cJ0_isLatin1_aae02 10 = .ok (.ifCond .ne 7, 3) := by decide +kernel
theorem dJ0_isLatin1_aae02_13 : decode cJ0_isLatin1_aae02 13 = .ok (.iconst 1, 1) := by decide +kernel
theorem dJ0_isLatin1_aae02_14 : decode cJ0_isLatin1_aae02 14 = .ok (.goto 4, 3) := by decide +kernel
theorem dJ0_isLatin1_aae02_17 : decode cJ0_isLatin1_aae02 17 = .ok (.iconst 0, 1) := by decide +kernel
theorem dJ0_isLatin1_aae02_18 : decode cJ0_isLatin1_aae02 18 = .ok (.ireturn, 1) := by decide +kernel
theorem dJ0_checkIndex_df160_0 : decode cJ0_checkIndex_df160 0 = .ok (.iload_n 0, 1) := by decide +kernel
theorem dJ0_checkIndex_df160_1 : decode cJ0_checkIndex_df160 1 = .ok (.iload_n 1, 1) := by decide +kernel
theorem dJ0_checkIndex_df160_2 : decode cJ0_checkIndex_df160 2 = .ok (.getstatic 1053, 3) := by decide +kernel
theorem dJ0_checkIndex_df160_5 : decode cJ0_checkIndex_df160 5 = .ok (.invokestatic 1059, 3) := by decide +kernel
theorem dJ0_checkIndex_df160_8 : decode cJ0_checkIndex_df160 8 = .ok (.pop, 1) := by decide +kernel
theorem dJ0_checkIndex_df160_9 : decode cJ0_checkIndex_df160 9 = .ok (.return_, 1) := by decide +kernel
theorem dJ1_charAt_3b067_0 : decode cJ1_charAt_3b067 0 = .ok (.iload_n 1, 1) := by decide +kernel
theorem dJ1_charAt_3b067_1 : decode cJ1_charAt_3b067 1 = .ok (.aload_n 0, 1) := by decide +kernel
theorem dJ1_charAt_3b067_2 : decode cJ1_charAt_3b067 2 = .ok (.arraylength, 1) := by decide +kernel
theorem dJ1_charAt_3b067_3 : decode cJ1_charAt_3b067 3 = .ok (.invokestatic 9, 3) := by decide +kernel
theorem dJ1_charAt_3b067_6 : decode cJ1_charAt_3b067 6 = .ok (.aload_n 0, 1) := by decide +kernel
theorem dJ1_charAt_3b067_7 : decode cJ1_charAt_3b067 7 = .ok (.iload_n 1, 1) := by decide +kernel
theorem dJ1_charAt_3b067_8 : decode cJ1_charAt_3b067 8 = .ok (.baload, 1) := by decide +kernel
theorem dJ1_charAt_3b067_9 : decode cJ1_charAt_3b067 9 = .ok (.sipush 255, 3) := by decide +kernel
theorem dJ1_charAt_3b067_12 : decode cJ1_charAt_3b067 12 = .ok (.iand, 1) := by decide +kernel
theorem dJ1_charAt_3b067_13 : decode cJ1_charAt_3b067 13 = .ok (.i2c, 1) := by decide +kernel
theorem dJ1_charAt_3b067_14 : decode cJ1_charAt_3b067 14 = .ok (.ireturn, 1) := by decide +kernel
theorem dJ2_getChar_3b067_0 : decode cJ2_getChar_3b067 0 = .ok (.getstatic 44, 3) := by decide +kernel
theorem dJ2_getChar_3b067_3 : decode cJ2_getChar_3b067 3 = .ok (.ifCond .ne 25, 3) := by decide +kernel
theorem dJ2_getChar_3b067_6 : decode cJ2_getChar_3b067 6 = .ok (.iload_n 1, 1) := by decide +kernel
theorem dJ2_getChar_3b067_7 : decode cJ2_getChar_3b067 7 = .ok (.ifCond .lt 11, 3) := by decide +kernel
theorem dJ2_getChar_3b067_10 : decode cJ2_getChar_3b067 10 = .ok (.iload_n 1, 1) := by decide +kernel
theorem dJ2_getChar_3b067_11 : decode cJ2_getChar_3b067 11 = .ok (.aload_n 0, 1) := by decide +kernel
theorem dJ2_getChar_3b067_12 : decode cJ2_getChar_3b067 12 = .ok (.invokestatic 48, 3) := by decide +kernel
theorem dJ2_getChar_3b067_15 : decode cJ2_getChar_3b067 15 = .ok (.if_icmp .lt 13, 3) := by decide +kernel
theorem dJ2_getChar_3b067_18 : decode cJ2_getChar_3b067 18 = .ok (.new 52, 3) := by decide +kernel
theorem dJ2_getChar_3b067_21 : decode cJ2_getChar_3b067 21 = .ok (.dup, 1) := by decide +kernel
theorem dJ2_getChar_3b067_22 : decode cJ2_getChar_3b067 22 = .ok (.ldc 54, 2) := by decide +kernel
theorem dJ2_getChar_3b067_24 : decode cJ2_getChar_3b067 24 = .ok (.invokespecial 56, 3) := by decide +kernel
theorem dJ2_getChar_3b067_27 : decode cJ2_getChar_3b067 27 = .ok (.athrow, 1) := by decide +kernel
theorem dJ2_getChar_3b067_28 : decode cJ2_getChar_3b067 28 = .ok (.iload_n 1, 1) := by decide +kernel
theorem dJ2_getChar_3b067_29 : decode cJ2_getChar_3b067 29 = .ok (.iconst 1, 1) := by decide +kernel
theorem dJ2_getChar_3b067_30 : decode cJ2_getChar_3b067 30 = .ok (.ishl, 1) := by decide +kernel
theorem dJ2_getChar_3b067_31 : decode cJ2_getChar_3b067 31 = .ok (.istore_n 1, 1) := by decide +kernel
theorem dJ2_getChar_3b067_32 : decode cJ2_getChar_3b067 32 = .ok (.aload_n 0, 1) := by decide +kernel
theorem dJ2_getChar_3b067_33 : decode cJ2_getChar_3b067 33 = .ok (.iload_n 1, 1) := by decide +kernel
theorem dJ2_getChar_3b067_34 : decode cJ2_getChar_3b067 34 = .ok (.iinc 1 1, 3) := by decide +kernel
theorem dJ2_getChar_3b067_37 : decode cJ2_getChar_3b067 37 = .ok (.baload, 1) := by decide +kernel
theorem dJ2_getChar_3b067_38 : decode cJ2_getChar_3b067 38 = .ok (.sipush 255, 3) := by decide +kernel
theorem dJ2_getChar_3b067_41 : decode cJ2_getChar_3b067 41 = .ok (.iand, 1) := by decide +kernel
theorem dJ2_getChar_3b067_42 : decode cJ2_getChar_3b067 42 = .ok (.getstatic 59, 3) := by decide +kernel
theorem dJ2_getChar_3b067_45 : decode cJ2_getChar_3b067 45 = .ok (.ishl, 1) := by decide +kernel
theorem dJ2_getChar_3b067_46 : decode cJ2_getChar_3b067 46 = .ok (.aload_n 0, 1) := by decide +kernel
theorem dJ2_getChar_3b067_47 : decode cJ2_getChar_3b067 47 = .ok (.iload_n 1, 1) := by decide +kernel
theorem dJ2_getChar_3b067_48 : decode cJ2_getChar_3b067 48 = .ok (.baload, 1) := by decide +kernel
theorem dJ2_getChar_3b067_49 : decode cJ2_getChar_3b067 49 = .ok (.sipush 255, 3) := by decide +kernel
theorem dJ2_getChar_3b067_52 : decode cJ2_getChar_3b067 52 = .ok (.iand, 1) := by decide +kernel
theorem dJ2_getChar_3b067_53 : decode cJ2_getChar_3b067 53 = .ok (.getstatic 63, 3) := by decide +kernel
theorem dJ2_getChar_3b067_56 : decode cJ2_getChar_3b067 56 = .ok (.ishl, 1) := by decide +kernel
theorem dJ2_getChar_3b067_57 : decode cJ2_getChar_3b067 57 = .ok (.ior, 1) := by decide +kernel
theorem dJ2_getChar_3b067_58 : decode cJ2_getChar_3b067 58 = .ok (.i2c, 1) := by decide +kernel
theorem dJ2_getChar_3b067_59 : decode cJ2_getChar_3b067 59 = .ok (.ireturn, 1) := by decide +kernel
theorem dJ2_length_9d52b_0 : decode cJ2_length_9d52b 0 = .ok (.aload_n 0, 1) := by decide +kernel
theorem dJ2_length_9d52b_1 : decode cJ2_length_9d52b 1 = .ok (.arraylength, 1) := by decide +kernel
theorem dJ2_length_9d52b_2 : decode cJ2_length_9d52b 2 = .ok (.iconst 1, 1) := by decide +kernel
theorem dJ2_length_9d52b_3 : decode cJ2_length_9d52b 3 = .ok (.ishr, 1) := by decide +kernel
theorem dJ2_length_9d52b_4 : decode cJ2_length_9d52b 4 = .ok (.ireturn, 1) := by decide +kernel
theorem dJ2_charAt_3b067_0 : decode cJ2_charAt_3b067 0 = .ok (.iload_n 1, 1) := by decide +kernel
theorem dJ2_charAt_3b067_1 : decode cJ2_charAt_3b067 1 = .ok (.aload_n 0, 1) := by decide +kernel
theorem dJ2_charAt_3b067_2 : decode cJ2_charAt_3b067 2 = .ok (.invokestatic 67, 3) := by decide +kernel
theorem dJ2_charAt_3b067_5 : decode cJ2_charAt_3b067 5 = .ok (.aload_n 0, 1) := by decide +kernel
theorem dJ2_charAt_3b067_6 : decode cJ2_charAt_3b067 6 = .ok (.iload_n 1, 1) := by decide +kernel
theorem dJ2_charAt_3b067_7 : decode cJ2_charAt_3b067 7 = .ok (.invokestatic 71, 3) := by decide +kernel
theorem dJ2_charAt_3b067_10 : decode cJ2_charAt_3b067 10 = .ok (.ireturn, 1) := by decide +kernel
theorem dJ2_checkIndex_2214a_0 : decode cJ2_checkIndex_2214a 0 = .ok (.iload_n 0, 1) := by decide +kernel
theorem dJ2_checkIndex_2214a_1 : decode cJ2_checkIndex_2214a 1 = .ok (.aload_n 1, 1) := by decide +kernel
theorem dJ2_checkIndex_2214a_2 : decode cJ2_checkIndex_2214a 2 = .ok (.invokestatic 48, 3) := by decide +kernel
theorem dJ2_checkIndex_2214a_5 : decode cJ2_checkIndex_2214a 5 = .ok (.invokestatic 414, 3) := by decide +kernel
theorem dJ2_checkIndex_2214a_8 : decode cJ2_checkIndex_2214a 8 = .ok (.return_, 1) := by decide +kernel
theorem dJ3_checkIndex_8e157_0 : decode cJ3_checkIndex_8e157 0 = .ok (.iload_n 0, 1) := by decide +kernel
theorem dJ3_checkIndex_8e157_1 : decode cJ3_checkIndex_8e157 1 = .ok (.ifCond .lt 8, 3) := by decide +kernel
theorem dJ3_checkIndex_8e157_4 : decode cJ3_checkIndex_8e157 4 = .ok (.iload_n 0, 1) := by decide +kernel
theorem dJ3_checkIndex_8e157_5 : decode cJ3_checkIndex_8e157 5 = .ok (.iload_n 1, 1) := by decide +kernel
theorem dJ3_checkIndex_8e157_6 : decode cJ3_checkIndex_8e157 6 = .ok (.if_icmp .lt 10, 3) := by decide +kernel
theorem dJ3_checkIndex_8e157_9 : decode cJ3_checkIndex_8e157 9 = .ok (.aload_n 2, 1) := by decide +kernel
theorem dJ3_checkIndex_8e157_10 : decode cJ3_checkIndex_8e157 10 = .ok (.iload_n 0, 1) := by decide +kernel
theorem dJ3_checkIndex_8e157_11 : decode cJ3_checkIndex_8e157 11 = .ok (.iload_n 1, 1) := by decide +kernel
theorem dJ3_checkIndex_8e157_12 : decode cJ3_checkIndex_8e157 12 = .ok (.invokestatic 95, 3) := by decide +kernel
theorem dJ3_checkIndex_8e157_15 : decode cJ3_checkIndex_8e157 15 = .ok (.athrow, 1) := by decide +kernel
theorem dJ3_checkIndex_8e157_16 : decode cJ3_checkIndex_8e157 16 = .ok (.iload_n 0, 1) := by decide +kernel
theorem dJ3_checkIndex_8e157_17 : decode cJ3_checkIndex_8e157 17 = .ok (.ireturn, 1) := by decide +kernel
theorem dL_thing_0 : decode cL_thing 0 = .ok (.aload_n 3, 1) := by decide +kernel
theorem dL_thing_1 : decode cL_thing 1 = .ok (.iconst 0, 1) := by decide +kernel
theorem dL_thing_2 : decode cL_thing 2 = .ok (.aload_n 0, 1) := by decide +kernel
theorem dL_thing_3 : decode cL_thing 3 = .ok (.iload_n 1, 1) := by decide +kernel
theorem dL_thing_4 : decode cL_thing 4 = .ok (.iload_n 2, 1) := by decide +kernel
theorem dL_thing_5 : decode cL_thing 5 = .ok (.invokevirtual 7, 3) := by decide +kernel
theorem dL_thing_8 : decode cL_thing 8 = .ok (.i2l, 1) := by decide +kernel
theorem dL_thing_9 : decode cL_thing 9 = .ok (.lastore, 1) := by decide +kernel
theorem dL_thing_10 : decode cL_thing 10 = .ok (.goto 7, 3) := by decide +kernel
theorem dL_thing_13 : decode cL_thing 13 = .ok (.astore 4, 2) := by decide +kernel
theorem dL_thing_15 : decode cL_thing 15 = .ok (.iconst 1, 1) := by decide +kernel
theorem dL_thing_16 : decode cL_thing 16 = .ok (.ireturn, 1) := by decide +kernel
theorem dL_thing_17 : decode cL_thing 17 = .ok (.iconst 0, 1) := by decide +kernel
theorem dL_thing_18 : decode cL_thing 18 = .ok (.ireturn, 1) := by decide +kernel
theorem dL_row_0 : decode cL_row 0 = .ok (.aload_n 2, 1) := by decide +kernel
theorem dL_row_1 : decode cL_row 1 = .ok (.iconst 0, 1) := by decide +kernel
theorem dL_row_2 : decode cL_row 2 = .ok (.aload_n 0, 1) := by decide +kernel
theorem dL_row_3 : decode cL_row 3 = .ok (.iload_n 1, 1) := by decide +kernel
theorem dL_row_4 : decode cL_row 4 = .ok (.invokevirtual 15, 3) := by decide +kernel
theorem dL_row_7 : decode cL_row 7 = .ok (.lastore, 1) := by decide +kernel
theorem dL_row_8 : decode cL_row 8 = .ok (.goto 6, 3) := by decide +kernel
theorem dL_row_11 : decode cL_row 11 = .ok (.astore_n 3, 1) := by decide +kernel
theorem dL_row_12 : decode cL_row 12 = .ok (.iconst 1, 1) := by decide +kernel
theorem dL_row_13 : decode cL_row 13 = .ok (.ireturn, 1) := by decide +kernel
theorem dL_row_14 : decode cL_row 14 = .ok (.iconst 0, 1) := by decide +kernel
theorem dL_row_15 : decode cL_row 15 = .ok (.ireturn, 1) := by decide +kernel
theorem dL_law_0 : decode cL_law 0 = .ok (.new 8, 3) := by decide +kernel
theorem dL_law_3 : decode cL_law 3 = .ok (.dup, 1) := by decide +kernel
theorem dL_law_4 : decode cL_law 4 = .ok (.invokespecial 19, 3) := by decide +kernel
theorem dL_law_7 : decode cL_law 7 = .ok (.astore_n 1, 1) := by decide +kernel
theorem dL_law_8 : decode cL_law 8 = .ok (.new 20, 3) := by decide +kernel
theorem dL_law_11 : decode cL_law 11 = .ok (.dup, 1) := by decide +kernel
theorem dL_law_12 : decode cL_law 12 = .ok (.invokespecial 22, 3) := by decide +kernel
theorem dL_law_15 : decode cL_law 15 = .ok (.astore_n 2, 1) := by decide +kernel
theorem dL_law_16 : decode cL_law 16 = .ok (.iconst 1, 1) := by decide +kernel
theorem dL_law_17 : decode cL_law 17 = .ok (.newarray .long, 2) := by decide +kernel
theorem dL_law_19 : decode cL_law 19 = .ok (.astore_n 3, 1) := by decide +kernel
theorem dL_law_20 : decode cL_law 20 = .ok (.iconst 0, 1) := by decide +kernel
theorem dL_law_21 : decode cL_law 21 = .ok (.istore 4, 2) := by decide +kernel
theorem dL_law_23 : decode cL_law 23 = .ok (.iload 4, 2) := by decide +kernel
theorem dL_law_25 : decode cL_law 25 = .ok (.aload_n 0, 1) := by decide +kernel
theorem dL_law_26 : decode cL_law 26 = .ok (.arraylength, 1) := by decide +kernel
theorem dL_law_27 : decode cL_law 27 = .ok (.iconst 5, 1) := by decide +kernel
theorem dL_law_28 : decode cL_law 28 = .ok (.isub, 1) := by decide +kernel
theorem dL_law_29 : decode cL_law 29 = .ok (.if_icmp .gt 1376, 3) := by decide +kernel
theorem dL_law_32 : decode cL_law 32 = .ok (.aload_n 0, 1) := by decide +kernel
theorem dL_law_33 : decode cL_law 33 = .ok (.iload 4, 2) := by decide +kernel
theorem dL_law_35 : decode cL_law 35 = .ok (.iaload, 1) := by decide +kernel
theorem dL_law_36 : decode cL_law 36 = .ok (.bipush 63, 2) := by decide +kernel
theorem dL_law_38 : decode cL_law 38 = .ok (.iand, 1) := by decide +kernel
theorem dL_law_39 : decode cL_law 39 = .ok (.tableswitch 1360 0 45 #[197, 222, 247, 260, 273, 286, 299, 367, 428, 453, 490, 527, 564, 589, 614, 627, 640, 653, 678, 715, 740, 765, 790, 803, 816, 829, 842, 879, 892, 917, 966, 979, 992, 1005, 1030, 1055, 1068, 1081, 1118, 1155, 1168, 1193, 1230, 1255, 1280, 1305], 197) := by decide +kernel
theorem dL_law_236 : decode cL_law 236 = .ok (.aload_n 1, 1) := by decide +kernel
theorem dL_law_237 : decode cL_law 237 = .ok (.aload_n 0, 1) := by decide +kernel
theorem dL_law_238 : decode cL_law 238 = .ok (.iload 4, 2) := by decide +kernel
theorem dL_law_240 : decode cL_law 240 = .ok (.iconst 1, 1) := by decide +kernel
theorem dL_law_241 : decode cL_law 241 = .ok (.iadd, 1) := by decide +kernel
theorem dL_law_242 : decode cL_law 242 = .ok (.iaload, 1) := by decide +kernel
theorem dL_law_243 : decode cL_law 243 = .ok (.invokevirtual 23, 3) := by decide +kernel
theorem dL_law_246 : decode cL_law 246 = .ok (.aload_n 2, 1) := by decide +kernel
theorem dL_law_247 : decode cL_law 247 = .ok (.aload_n 0, 1) := by decide +kernel
theorem dL_law_248 : decode cL_law 248 = .ok (.iload 4, 2) := by decide +kernel
theorem dL_law_250 : decode cL_law 250 = .ok (.iconst 1, 1) := by decide +kernel
theorem dL_law_251 : decode cL_law 251 = .ok (.iadd, 1) := by decide +kernel
theorem dL_law_252 : decode cL_law 252 = .ok (.iaload, 1) := by decide +kernel
theorem dL_law_253 : decode cL_law 253 = .ok (.invokevirtual 27, 3) := by decide +kernel
theorem dL_law_256 : decode cL_law 256 = .ok (.if_icmp .eq 1143, 3) := by decide +kernel
theorem dL_law_259 : decode cL_law 259 = .ok (.iconst 0, 1) := by decide +kernel
theorem dL_law_260 : decode cL_law 260 = .ok (.ireturn, 1) := by decide +kernel
theorem dL_law_261 : decode cL_law 261 = .ok (.aload_n 1, 1) := by decide +kernel
theorem dL_law_262 : decode cL_law 262 = .ok (.aload_n 0, 1) := by decide +kernel
theorem dL_law_263 : decode cL_law 263 = .ok (.iload 4, 2) := by decide +kernel
theorem dL_law_265 : decode cL_law 265 = .ok (.iconst 1, 1) := by decide +kernel
theorem dL_law_266 : decode cL_law 266 = .ok (.iadd, 1) := by decide +kernel
theorem dL_law_267 : decode cL_law 267 = .ok (.iaload, 1) := by decide +kernel
theorem dL_law_268 : decode cL_law 268 = .ok (.invokevirtual 28, 3) := by decide +kernel
theorem dL_law_271 : decode cL_law 271 = .ok (.aload_n 2, 1) := by decide +kernel
theorem dL_law_272 : decode cL_law 272 = .ok (.aload_n 0, 1) := by decide +kernel
theorem dL_law_273 : decode cL_law 273 = .ok (.iload 4, 2) := by decide +kernel
theorem dL_law_275 : decode cL_law 275 = .ok (.iconst 1, 1) := by decide +kernel
theorem dL_law_276 : decode cL_law 276 = .ok (.iadd, 1) := by decide +kernel
theorem dL_law_277 : decode cL_law 277 = .ok (.iaload, 1) := by decide +kernel
theorem dL_law_278 : decode cL_law 278 = .ok (.invokevirtual 32, 3) := by decide +kernel
theorem dL_law_281 : decode cL_law 281 = .ok (.if_icmp .eq 1118, 3) := by decide +kernel
theorem dL_law_284 : decode cL_law 284 = .ok (.iconst 0, 1) := by decide +kernel
theorem dL_law_285 : decode cL_law 285 = .ok (.ireturn, 1) := by decide +kernel
theorem dL_law_286 : decode cL_law 286 = .ok (.aload_n 1, 1) := by decide +kernel
theorem dL_law_287 : decode cL_law 287 = .ok (.invokevirtual 33, 3) := by decide +kernel
theorem dL_law_290 : decode cL_law 290 = .ok (.aload_n 2, 1) := by decide +kernel
theorem dL_law_291 : decode cL_law 291 = .ok (.invokevirtual 37, 3) := by decide +kernel
theorem dL_law_294 : decode cL_law 294 = .ok (.if_icmp .eq 1105, 3) := by decide +kernel
theorem dL_law_297 : decode cL_law 297 = .ok (.iconst 0, 1) := by decide +kernel
theorem dL_law_298 : decode cL_law 298 = .ok (.ireturn, 1) := by decide +kernel
theorem dL_law_299 : decode cL_law 299 = .ok (.aload_n 1, 1) := by decide +kernel
theorem dL_law_300 : decode cL_law 300 = .ok (.invokevirtual 38, 3) := by decide +kernel
theorem dL_law_303 : decode cL_law 303 = .ok (.aload_n 2, 1) := by decide +kernel
theorem dL_law_304 : decode cL_law 304 = .ok (.invokevirtual 41, 3) := by decide +kernel
theorem dL_law_307 : decode cL_law 307 = .ok (.if_icmp .eq 1092, 3) := by decide +kernel
theorem dL_law_310 : decode cL_law 310 = .ok (.iconst 0, 1) := by decide +kernel
theorem dL_law_311 : decode cL_law 311 = .ok (.ireturn, 1) := by decide +kernel
theorem dL_law_312 : decode cL_law 312 = .ok (.aload_n 1, 1) := by decide +kernel
theorem dL_law_313 : decode cL_law 313 = .ok (.invokevirtual 42, 3) := by decide +kernel
theorem dL_law_316 : decode cL_law 316 = .ok (.aload_n 2, 1) := by decide +kernel
theorem dL_law_317 : decode cL_law 317 = .ok (.invokevirtual 45, 3) := by decide +kernel
theorem dL_law_320 : decode cL_law 320 = .ok (.if_icmp .eq 1079, 3) := by decide +kernel
theorem dL_law_323 : decode cL_law 323 = .ok (.iconst 0, 1) := by decide +kernel
theorem dL_law_324 : decode cL_law 324 = .ok (.ireturn, 1) := by decide +kernel
theorem dL_law_325 : decode cL_law 325 = .ok (.aload_n 1, 1) := by decide +kernel
theorem dL_law_326 : decode cL_law 326 = .ok (.invokevirtual 46, 3) := by decide +kernel
theorem dL_law_329 : decode cL_law 329 = .ok (.aload_n 2, 1) := by decide +kernel
theorem dL_law_330 : decode cL_law 330 = .ok (.invokevirtual 49, 3) := by decide +kernel
theorem dL_law_333 : decode cL_law 333 = .ok (.if_icmp .eq 1066, 3) := by decide +kernel
theorem dL_law_336 : decode cL_law 336 = .ok (.iconst 0, 1) := by decide +kernel
theorem dL_law_337 : decode cL_law 337 = .ok (.ireturn, 1) := by decide +kernel
theorem dL_law_338 : decode cL_law 338 = .ok (.aload_n 1, 1) := by decide +kernel
theorem dL_law_339 : decode cL_law 339 = .ok (.aload_n 0, 1) := by decide +kernel
theorem dL_law_340 : decode cL_law 340 = .ok (.iload 4, 2) := by decide +kernel
theorem dL_law_342 : decode cL_law 342 = .ok (.iconst 1, 1) := by decide +kernel
theorem dL_law_343 : decode cL_law 343 = .ok (.iadd, 1) := by decide +kernel
theorem dL_law_344 : decode cL_law 344 = .ok (.iaload, 1) := by decide +kernel
theorem dL_law_345 : decode cL_law 345 = .ok (.aload_n 0, 1) := by decide +kernel
theorem dL_law_346 : decode cL_law 346 = .ok (.iload 4, 2) := by decide +kernel
theorem dL_law_348 : decode cL_law 348 = .ok (.iconst 2, 1) := by decide +kernel
theorem dL_law_349 : decode cL_law 349 = .ok (.iadd, 1) := by decide +kernel
theorem dL_law_350 : decode cL_law 350 = .ok (.iaload, 1) := by decide +kernel
theorem dL_law_351 : decode cL_law 351 = .ok (.aload_n 3, 1) := by decide +kernel
theorem dL_law_352 : decode cL_law 352 = .ok (.invokestatic 50, 3) := by decide +kernel
theorem dL_law_355 : decode cL_law 355 = .ok (.istore 5, 2) := by decide +kernel
theorem dL_law_357 : decode cL_law 357 = .ok (.aload_n 2, 1) := by decide +kernel
theorem dL_law_358 : decode cL_law 358 = .ok (.aload_n 0, 1) := by decide +kernel
theorem dL_law_359 : decode cL_law 359 = .ok (.iload 4, 2) := by decide +kernel
theorem dL_law_361 : decode cL_law 361 = .ok (.iconst 1, 1) := by decide +kernel
theorem dL_law_362 : decode cL_law 362 = .ok (.iadd, 1) := by decide +kernel
theorem dL_law_363 : decode cL_law 363 = .ok (.iaload, 1) := by decide +kernel
theorem dL_law_364 : decode cL_law 364 = .ok (.aload_n 0, 1) := by decide +kernel
theorem dL_law_365 : decode cL_law 365 = .ok (.iload 4, 2) := by decide +kernel
theorem dL_law_367 : decode cL_law 367 = .ok (.iconst 2, 1) := by decide +kernel
theorem dL_law_368 : decode cL_law 368 = .ok (.iadd, 1) := by decide +kernel
theorem dL_law_369 : decode cL_law 369 = .ok (.iaload, 1) := by decide +kernel
theorem dL_law_370 : decode cL_law 370 = .ok (.invokevirtual 55, 3) := by decide +kernel
theorem dL_law_373 : decode cL_law 373 = .ok (.istore 6, 2) := by decide +kernel
theorem dL_law_375 : decode cL_law 375 = .ok (.aload_n 2, 1) := by decide +kernel
theorem dL_law_376 : decode cL_law 376 = .ok (.invokevirtual 56, 3) := by decide +kernel
theorem dL_law_379 : decode cL_law 379 = .ok (.iload 5, 2) := by decide +kernel
theorem dL_law_381 : decode cL_law 381 = .ok (.if_icmp .eq 5, 3) := by decide +kernel
theorem dL_law_384 : decode cL_law 384 = .ok (.iconst 0, 1) := by decide +kernel
theorem dL_law_385 : decode cL_law 385 = .ok (.ireturn, 1) := by decide +kernel
theorem dL_law_386 : decode cL_law 386 = .ok (.iload 5, 2) := by decide +kernel
theorem dL_law_388 : decode cL_law 388 = .ok (.ifCond .ne 15, 3) := by decide +kernel
theorem dL_law_391 : decode cL_law 391 = .ok (.aload_n 3, 1) := by decide +kernel
theorem dL_law_392 : decode cL_law 392 = .ok (.iconst 0, 1) := by decide +kernel
theorem dL_law_393 : decode cL_law 393 = .ok (.laload, 1) := by decide +kernel
theorem dL_law_394 : decode cL_law 394 = .ok (.iload 6, 2) := by decide +kernel
theorem dL_law_396 : decode cL_law 396 = .ok (.i2l, 1) := by decide +kernel
theorem dL_law_397 : decode cL_law 397 = .ok (.lcmp, 1) := by decide +kernel
theorem dL_law_398 : decode cL_law 398 = .ok (.ifCond .eq 5, 3) := by decide +kernel
theorem dL_law_401 : decode cL_law 401 = .ok (.iconst 0, 1) := by decide +kernel
theorem dL_law_402 : decode cL_law 402 = .ok (.ireturn, 1) := by decide +kernel
theorem dL_law_403 : decode cL_law 403 = .ok (.goto 996, 3) := by decide +kernel
theorem dL_law_406 : decode cL_law 406 = .ok (.aload_n 1, 1) := by decide +kernel
theorem dL_law_407 : decode cL_law 407 = .ok (.aload_n 0, 1) := by decide +kernel
theorem dL_law_408 : decode cL_law 408 = .ok (.iload 4, 2) := by decide +kernel
theorem dL_law_410 : decode cL_law 410 = .ok (.iconst 1, 1) := by decide +kernel
theorem dL_law_411 : decode cL_law 411 = .ok (.iadd, 1) := by decide +kernel
theorem dL_law_412 : decode cL_law 412 = .ok (.iaload, 1) := by decide +kernel
theorem dL_law_413 : decode cL_law 413 = .ok (.aload_n 0, 1) := by decide +kernel
theorem dL_law_414 : decode cL_law 414 = .ok (.iload 4, 2) := by decide +kernel
theorem dL_law_416 : decode cL_law 416 = .ok (.iconst 2, 1) := by decide +kernel
theorem dL_law_417 : decode cL_law 417 = .ok (.iadd, 1) := by decide +kernel
theorem dL_law_418 : decode cL_law 418 = .ok (.iaload, 1) := by decide +kernel
theorem dL_law_419 : decode cL_law 419 = .ok (.aload_n 0, 1) := by decide +kernel
theorem dL_law_420 : decode cL_law 420 = .ok (.iload 4, 2) := by decide +kernel
theorem dL_law_422 : decode cL_law 422 = .ok (.iconst 3, 1) := by decide +kernel
theorem dL_law_423 : decode cL_law 423 = .ok (.iadd, 1) := by decide +kernel
theorem dL_law_424 : decode cL_law 424 = .ok (.iaload, 1) := by decide +kernel
theorem dL_law_425 : decode cL_law 425 = .ok (.aload_n 0, 1) := by decide +kernel
theorem dL_law_426 : decode cL_law 426 = .ok (.iload 4, 2) := by decide +kernel
theorem dL_law_428 : decode cL_law 428 = .ok (.iconst 4, 1) := by decide +kernel
theorem dL_law_429 : decode cL_law 429 = .ok (.iadd, 1) := by decide +kernel
theorem dL_law_430 : decode cL_law 430 = .ok (.iaload, 1) := by decide +kernel
theorem dL_law_431 : decode cL_law 431 = .ok (.invokevirtual 59, 3) := by decide +kernel
theorem dL_law_434 : decode cL_law 434 = .ok (.aload_n 2, 1) := by decide +kernel
theorem dL_law_435 : decode cL_law 435 = .ok (.aload_n 0, 1) := by decide +kernel
theorem dL_law_436 : decode cL_law 436 = .ok (.iload 4, 2) := by decide +kernel
theorem dL_law_438 : decode cL_law 438 = .ok (.iconst 1, 1) := by decide +kernel
theorem dL_law_439 : decode cL_law 439 = .ok (.iadd, 1) := by decide +kernel
theorem dL_law_440 : decode cL_law 440 = .ok (.iaload, 1) := by decide +kernel
theorem dL_law_441 : decode cL_law 441 = .ok (.aload_n 0, 1) := by decide +kernel
theorem dL_law_442 : decode cL_law 442 = .ok (.iload 4, 2) := by decide +kernel
theorem dL_law_444 : decode cL_law 444 = .ok (.iconst 2, 1) := by decide +kernel
theorem dL_law_445 : decode cL_law 445 = .ok (.iadd, 1) := by decide +kernel
theorem dL_law_446 : decode cL_law 446 = .ok (.iaload, 1) := by decide +kernel
theorem dL_law_447 : decode cL_law 447 = .ok (.aload_n 0, 1) := by decide +kernel
theorem dL_law_448 : decode cL_law 448 = .ok (.iload 4, 2) := by decide +kernel
theorem dL_law_450 : decode cL_law 450 = .ok (.iconst 3, 1) := by decide +kernel
theorem dL_law_451 : decode cL_law 451 = .ok (.iadd, 1) := by decide +kernel
theorem dL_law_452 : decode cL_law 452 = .ok (.iaload, 1) := by decide +kernel
theorem dL_law_453 : decode cL_law 453 = .ok (.aload_n 0, 1) := by decide +kernel
theorem dL_law_454 : decode cL_law 454 = .ok (.iload 4, 2) := by decide +kernel
theorem dL_law_456 : decode cL_law 456 = .ok (.iconst 4, 1) := by decide +kernel
theorem dL_law_457 : decode cL_law 457 = .ok (.iadd, 1) := by decide +kernel
theorem dL_law_458 : decode cL_law 458 = .ok (.iaload, 1) := by decide +kernel
theorem dL_law_459 : decode cL_law 459 = .ok (.invokevirtual 63, 3) := by decide +kernel
theorem dL_law_462 : decode cL_law 462 = .ok (.if_icmp .eq 937, 3) := by decide +kernel
theorem dL_law_465 : decode cL_law 465 = .ok (.iconst 0, 1) := by decide +kernel
theorem dL_law_466 : decode cL_law 466 = .ok (.ireturn, 1) := by decide +kernel
theorem dL_law_467 : decode cL_law 467 = .ok (.aload_n 1, 1) := by decide +kernel
theorem dL_law_468 : decode cL_law 468 = .ok (.aload_n 0, 1) := by decide +kernel
theorem dL_law_469 : decode cL_law 469 = .ok (.iload 4, 2) := by decide +kernel
theorem dL_law_471 : decode cL_law 471 = .ok (.iconst 1, 1) := by decide +kernel
theorem dL_law_472 : decode cL_law 472 = .ok (.iadd, 1) := by decide +kernel
theorem dL_law_473 : decode cL_law 473 = .ok (.iaload, 1) := by decide +kernel
theorem dL_law_474 : decode cL_law 474 = .ok (.invokevirtual 64, 3) := by decide +kernel
theorem dL_law_477 : decode cL_law 477 = .ok (.aload_n 2, 1) := by decide +kernel
theorem dL_law_478 : decode cL_law 478 = .ok (.aload_n 0, 1) := by decide +kernel
theorem dL_law_479 : decode cL_law 479 = .ok (.iload 4, 2) := by decide +kernel
theorem dL_law_481 : decode cL_law 481 = .ok (.iconst 1, 1) := by decide +kernel
theorem dL_law_482 : decode cL_law 482 = .ok (.iadd, 1) := by decide +kernel
theorem dL_law_483 : decode cL_law 483 = .ok (.iaload, 1) := by decide +kernel
theorem dL_law_484 : decode cL_law 484 = .ok (.invokevirtual 67, 3) := by decide +kernel
theorem dL_law_487 : decode cL_law 487 = .ok (.if_icmp .eq 912, 3) := by decide +kernel
theorem dL_law_490 : decode cL_law 490 = .ok (.iconst 0, 1) := by decide +kernel
theorem dL_law_491 : decode cL_law 491 = .ok (.ireturn, 1) := by decide +kernel
theorem dL_law_492 : decode cL_law 492 = .ok (.aload_n 1, 1) := by decide +kernel
theorem dL_law_493 : decode cL_law 493 = .ok (.aload_n 0, 1) := by decide +kernel
theorem dL_law_494 : decode cL_law 494 = .ok (.iload 4, 2) := by decide +kernel
theorem dL_law_496 : decode cL_law 496 = .ok (.iconst 1, 1) := by decide +kernel
theorem dL_law_497 : decode cL_law 497 = .ok (.iadd, 1) := by decide +kernel
theorem dL_law_498 : decode cL_law 498 = .ok (.iaload, 1) := by decide +kernel
theorem dL_law_499 : decode cL_law 499 = .ok (.aload_n 0, 1) := by decide +kernel
theorem dL_law_500 : decode cL_law 500 = .ok (.iload 4, 2) := by decide +kernel
theorem dL_law_502 : decode cL_law 502 = .ok (.iconst 2, 1) := by decide +kernel
theorem dL_law_503 : decode cL_law 503 = .ok (.iadd, 1) := by decide +kernel
theorem dL_law_504 : decode cL_law 504 = .ok (.iaload, 1) := by decide +kernel
theorem dL_law_505 : decode cL_law 505 = .ok (.invokevirtual 68, 3) := by decide +kernel
theorem dL_law_508 : decode cL_law 508 = .ok (.aload_n 2, 1) := by decide +kernel
theorem dL_law_509 : decode cL_law 509 = .ok (.aload_n 0, 1) := by decide +kernel
theorem dL_law_510 : decode cL_law 510 = .ok (.iload 4, 2) := by decide +kernel
theorem dL_law_512 : decode cL_law 512 = .ok (.iconst 1, 1) := by decide +kernel
theorem dL_law_513 : decode cL_law 513 = .ok (.iadd, 1) := by decide +kernel
theorem dL_law_514 : decode cL_law 514 = .ok (.iaload, 1) := by decide +kernel
theorem dL_law_515 : decode cL_law 515 = .ok (.aload_n 0, 1) := by decide +kernel
theorem dL_law_516 : decode cL_law 516 = .ok (.iload 4, 2) := by decide +kernel
theorem dL_law_518 : decode cL_law 518 = .ok (.iconst 2, 1) := by decide +kernel
theorem dL_law_519 : decode cL_law 519 = .ok (.iadd, 1) := by decide +kernel
theorem dL_law_520 : decode cL_law 520 = .ok (.iaload, 1) := by decide +kernel
theorem dL_law_521 : decode cL_law 521 = .ok (.invokevirtual 71, 3) := by decide +kernel
theorem dL_law_524 : decode cL_law 524 = .ok (.if_icmp .eq 875, 3) := by decide +kernel
theorem dL_law_527 : decode cL_law 527 = .ok (.iconst 0, 1) := by decide +kernel
theorem dL_law_528 : decode cL_law 528 = .ok (.ireturn, 1) := by decide +kernel
theorem dL_law_529 : decode cL_law 529 = .ok (.aload_n 1, 1) := by decide +kernel
theorem dL_law_530 : decode cL_law 530 = .ok (.aload_n 0, 1) := by decide +kernel
theorem dL_law_531 : decode cL_law 531 = .ok (.iload 4, 2) := by decide +kernel
theorem dL_law_533 : decode cL_law 533 = .ok (.iconst 1, 1) := by decide +kernel
theorem dL_law_534 : decode cL_law 534 = .ok (.iadd, 1) := by decide +kernel
theorem dL_law_535 : decode cL_law 535 = .ok (.iaload, 1) := by decide +kernel
theorem dL_law_536 : decode cL_law 536 = .ok (.aload_n 0, 1) := by decide +kernel
theorem dL_law_537 : decode cL_law 537 = .ok (.iload 4, 2) := by decide +kernel
theorem dL_law_539 : decode cL_law 539 = .ok (.iconst 2, 1) := by decide +kernel
theorem dL_law_540 : decode cL_law 540 = .ok (.iadd, 1) := by decide +kernel
theorem dL_law_541 : decode cL_law 541 = .ok (.iaload, 1) := by decide +kernel
theorem dL_law_542 : decode cL_law 542 = .ok (.invokevirtual 72, 3) := by decide +kernel
theorem dL_law_545 : decode cL_law 545 = .ok (.aload_n 2, 1) := by decide +kernel
theorem dL_law_546 : decode cL_law 546 = .ok (.aload_n 0, 1) := by decide +kernel
theorem dL_law_547 : decode cL_law 547 = .ok (.iload 4, 2) := by decide +kernel
theorem dL_law_549 : decode cL_law 549 = .ok (.iconst 1, 1) := by decide +kernel
theorem dL_law_550 : decode cL_law 550 = .ok (.iadd, 1) := by decide +kernel
theorem dL_law_551 : decode cL_law 551 = .ok (.iaload, 1) := by decide +kernel
theorem dL_law_552 : decode cL_law 552 = .ok (.aload_n 0, 1) := by decide +kernel
theorem dL_law_553 : decode cL_law 553 = .ok (.iload 4, 2) := by decide +kernel
theorem dL_law_555 : decode cL_law 555 = .ok (.iconst 2, 1) := by decide +kernel
theorem dL_law_556 : decode cL_law 556 = .ok (.iadd, 1) := by decide +kernel
theorem dL_law_557 : decode cL_law 557 = .ok (.iaload, 1) := by decide +kernel
theorem dL_law_558 : decode cL_law 558 = .ok (.invokevirtual 75, 3) := by decide +kernel
theorem dL_law_561 : decode cL_law 561 = .ok (.if_icmp .eq 838, 3) := by decide +kernel
theorem dL_law_564 : decode cL_law 564 = .ok (.iconst 0, 1) := by decide +kernel
theorem dL_law_565 : decode cL_law 565 = .ok (.ireturn, 1) := by decide +kernel
theorem dL_law_566 : decode cL_law 566 = .ok (.aload_n 1, 1) := by decide +kernel
theorem dL_law_567 : decode cL_law 567 = .ok (.aload_n 0, 1) := by decide +kernel
theorem dL_law_568 : decode cL_law 568 = .ok (.iload 4, 2) := by decide +kernel
theorem dL_law_570 : decode cL_law 570 = .ok (.iconst 1, 1) := by decide +kernel
theorem dL_law_571 : decode cL_law 571 = .ok (.iadd, 1) := by decide +kernel
theorem dL_law_572 : decode cL_law 572 = .ok (.iaload, 1) := by decide +kernel
theorem dL_law_573 : decode cL_law 573 = .ok (.aload_n 0, 1) := by decide +kernel
theorem dL_law_574 : decode cL_law 574 = .ok (.iload 4, 2) := by decide +kernel
theorem dL_law_576 : decode cL_law 576 = .ok (.iconst 2, 1) := by decide +kernel
theorem dL_law_577 : decode cL_law 577 = .ok (.iadd, 1) := by decide +kernel
theorem dL_law_578 : decode cL_law 578 = .ok (.iaload, 1) := by decide +kernel
theorem dL_law_579 : decode cL_law 579 = .ok (.invokevirtual 76, 3) := by decide +kernel
theorem dL_law_582 : decode cL_law 582 = .ok (.aload_n 2, 1) := by decide +kernel
theorem dL_law_583 : decode cL_law 583 = .ok (.aload_n 0, 1) := by decide +kernel
theorem dL_law_584 : decode cL_law 584 = .ok (.iload 4, 2) := by decide +kernel
theorem dL_law_586 : decode cL_law 586 = .ok (.iconst 1, 1) := by decide +kernel
theorem dL_law_587 : decode cL_law 587 = .ok (.iadd, 1) := by decide +kernel
theorem dL_law_588 : decode cL_law 588 = .ok (.iaload, 1) := by decide +kernel
theorem dL_law_589 : decode cL_law 589 = .ok (.aload_n 0, 1) := by decide +kernel
theorem dL_law_590 : decode cL_law 590 = .ok (.iload 4, 2) := by decide +kernel
theorem dL_law_592 : decode cL_law 592 = .ok (.iconst 2, 1) := by decide +kernel
theorem dL_law_593 : decode cL_law 593 = .ok (.iadd, 1) := by decide +kernel
theorem dL_law_594 : decode cL_law 594 = .ok (.iaload, 1) := by decide +kernel
theorem dL_law_595 : decode cL_law 595 = .ok (.invokevirtual 79, 3) := by decide +kernel
theorem dL_law_598 : decode cL_law 598 = .ok (.if_icmp .eq 801, 3) := by decide +kernel
theorem dL_law_601 : decode cL_law 601 = .ok (.iconst 0, 1) := by decide +kernel
theorem dL_law_602 : decode cL_law 602 = .ok (.ireturn, 1) := by decide +kernel
theorem dL_law_603 : decode cL_law 603 = .ok (.aload_n 1, 1) := by decide +kernel
theorem dL_law_604 : decode cL_law 604 = .ok (.aload_n 0, 1) := by decide +kernel
theorem dL_law_605 : decode cL_law 605 = .ok (.iload 4, 2) := by decide +kernel
theorem dL_law_607 : decode cL_law 607 = .ok (.iconst 1, 1) := by decide +kernel
theorem dL_law_608 : decode cL_law 608 = .ok (.iadd, 1) := by decide +kernel
theorem dL_law_609 : decode cL_law 609 = .ok (.iaload, 1) := by decide +kernel
theorem dL_law_610 : decode cL_law 610 = .ok (.invokevirtual 80, 3) := by decide +kernel
theorem dL_law_613 : decode cL_law 613 = .ok (.aload_n 2, 1) := by decide +kernel
theorem dL_law_614 : decode cL_law 614 = .ok (.aload_n 0, 1) := by decide +kernel
theorem dL_law_615 : decode cL_law 615 = .ok (.iload 4, 2) := by decide +kernel
theorem dL_law_617 : decode cL_law 617 = .ok (.iconst 1, 1) := by decide +kernel
theorem dL_law_618 : decode cL_law 618 = .ok (.iadd, 1) := by decide +kernel
theorem dL_law_619 : decode cL_law 619 = .ok (.iaload, 1) := by decide +kernel
theorem dL_law_620 : decode cL_law 620 = .ok (.invokevirtual 83, 3) := by decide +kernel
theorem dL_law_623 : decode cL_law 623 = .ok (.if_icmp .eq 776, 3) := by decide +kernel
theorem dL_law_626 : decode cL_law 626 = .ok (.iconst 0, 1) := by decide +kernel
theorem dL_law_627 : decode cL_law 627 = .ok (.ireturn, 1) := by decide +kernel
theorem dL_law_628 : decode cL_law 628 = .ok (.aload_n 1, 1) := by decide +kernel
theorem dL_law_629 : decode cL_law 629 = .ok (.aload_n 0, 1) := by decide +kernel
theorem dL_law_630 : decode cL_law 630 = .ok (.iload 4, 2) := by decide +kernel
theorem dL_law_632 : decode cL_law 632 = .ok (.iconst 1, 1) := by decide +kernel
theorem dL_law_633 : decode cL_law 633 = .ok (.iadd, 1) := by decide +kernel
theorem dL_law_634 : decode cL_law 634 = .ok (.iaload, 1) := by decide +kernel
theorem dL_law_635 : decode cL_law 635 = .ok (.invokevirtual 84, 3) := by decide +kernel
theorem dL_law_638 : decode cL_law 638 = .ok (.aload_n 2, 1) := by decide +kernel
theorem dL_law_639 : decode cL_law 639 = .ok (.aload_n 0, 1) := by decide +kernel
theorem dL_law_640 : decode cL_law 640 = .ok (.iload 4, 2) := by decide +kernel
theorem dL_law_642 : decode cL_law 642 = .ok (.iconst 1, 1) := by decide +kernel
theorem dL_law_643 : decode cL_law 643 = .ok (.iadd, 1) := by decide +kernel
theorem dL_law_644 : decode cL_law 644 = .ok (.iaload, 1) := by decide +kernel
theorem dL_law_645 : decode cL_law 645 = .ok (.invokevirtual 87, 3) := by decide +kernel
theorem dL_law_648 : decode cL_law 648 = .ok (.if_icmp .eq 751, 3) := by decide +kernel
theorem dL_law_651 : decode cL_law 651 = .ok (.iconst 0, 1) := by decide +kernel
theorem dL_law_652 : decode cL_law 652 = .ok (.ireturn, 1) := by decide +kernel
theorem dL_law_653 : decode cL_law 653 = .ok (.aload_n 1, 1) := by decide +kernel
theorem dL_law_654 : decode cL_law 654 = .ok (.invokevirtual 88, 3) := by decide +kernel
theorem dL_law_657 : decode cL_law 657 = .ok (.aload_n 2, 1) := by decide +kernel
theorem dL_law_658 : decode cL_law 658 = .ok (.invokevirtual 91, 3) := by decide +kernel
theorem dL_law_661 : decode cL_law 661 = .ok (.if_icmp .eq 738, 3) := by decide +kernel
theorem dL_law_664 : decode cL_law 664 = .ok (.iconst 0, 1) := by decide +kernel
theorem dL_law_665 : decode cL_law 665 = .ok (.ireturn, 1) := by decide +kernel
theorem dL_law_666 : decode cL_law 666 = .ok (.aload_n 1, 1) := by decide +kernel
theorem dL_law_667 : decode cL_law 667 = .ok (.invokevirtual 92, 3) := by decide +kernel
theorem dL_law_670 : decode cL_law 670 = .ok (.aload_n 2, 1) := by decide +kernel
theorem dL_law_671 : decode cL_law 671 = .ok (.invokevirtual 95, 3) := by decide +kernel
theorem dL_law_674 : decode cL_law 674 = .ok (.if_icmp .eq 725, 3) := by decide +kernel
theorem dL_law_677 : decode cL_law 677 = .ok (.iconst 0, 1) := by decide +kernel
theorem dL_law_678 : decode cL_law 678 = .ok (.ireturn, 1) := by decide +kernel
theorem dL_law_679 : decode cL_law 679 = .ok (.aload_n 1, 1) := by decide +kernel
theorem dL_law_680 : decode cL_law 680 = .ok (.invokevirtual 96, 3) := by decide +kernel
theorem dL_law_683 : decode cL_law 683 = .ok (.aload_n 2, 1) := by decide +kernel
theorem dL_law_684 : decode cL_law 684 = .ok (.invokevirtual 99, 3) := by decide +kernel
theorem dL_law_687 : decode cL_law 687 = .ok (.if_icmp .eq 712, 3) := by decide +kernel
theorem dL_law_690 : decode cL_law 690 = .ok (.iconst 0, 1) := by decide +kernel
theorem dL_law_691 : decode cL_law 691 = .ok (.ireturn, 1) := by decide +kernel
theorem dL_law_692 : decode cL_law 692 = .ok (.aload_n 1, 1) := by decide +kernel
theorem dL_law_693 : decode cL_law 693 = .ok (.aload_n 0, 1) := by decide +kernel
theorem dL_law_694 : decode cL_law 694 = .ok (.iload 4, 2) := by decide +kernel
theorem dL_law_696 : decode cL_law 696 = .ok (.iconst 1, 1) := by decide +kernel
theorem dL_law_697 : decode cL_law 697 = .ok (.iadd, 1) := by decide +kernel
theorem dL_law_698 : decode cL_law 698 = .ok (.iaload, 1) := by decide +kernel
theorem dL_law_699 : decode cL_law 699 = .ok (.invokevirtual 100, 3) := by decide +kernel
theorem dL_law_702 : decode cL_law 702 = .ok (.aload_n 2, 1) := by decide +kernel
theorem dL_law_703 : decode cL_law 703 = .ok (.aload_n 0, 1) := by decide +kernel
theorem dL_law_704 : decode cL_law 704 = .ok (.iload 4, 2) := by decide +kernel
theorem dL_law_706 : decode cL_law 706 = .ok (.iconst 1, 1) := by decide +kernel
theorem dL_law_707 : decode cL_law 707 = .ok (.iadd, 1) := by decide +kernel
theorem dL_law_708 : decode cL_law 708 = .ok (.iaload, 1) := by decide +kernel
theorem dL_law_709 : decode cL_law 709 = .ok (.invokevirtual 103, 3) := by decide +kernel
theorem dL_law_712 : decode cL_law 712 = .ok (.if_icmp .eq 687, 3) := by decide +kernel
theorem dL_law_715 : decode cL_law 715 = .ok (.iconst 0, 1) := by decide +kernel
theorem dL_law_716 : decode cL_law 716 = .ok (.ireturn, 1) := by decide +kernel
theorem dL_law_717 : decode cL_law 717 = .ok (.aload_n 1, 1) := by decide +kernel
theorem dL_law_718 : decode cL_law 718 = .ok (.aload_n 0, 1) := by decide +kernel
theorem dL_law_719 : decode cL_law 719 = .ok (.iload 4, 2) := by decide +kernel
theorem dL_law_721 : decode cL_law 721 = .ok (.iconst 1, 1) := by decide +kernel
theorem dL_law_722 : decode cL_law 722 = .ok (.iadd, 1) := by decide +kernel
theorem dL_law_723 : decode cL_law 723 = .ok (.iaload, 1) := by decide +kernel
theorem dL_law_724 : decode cL_law 724 = .ok (.aload_n 0, 1) := by decide +kernel
theorem dL_law_725 : decode cL_law 725 = .ok (.iload 4, 2) := by decide +kernel
theorem dL_law_727 : decode cL_law 727 = .ok (.iconst 2, 1) := by decide +kernel
theorem dL_law_728 : decode cL_law 728 = .ok (.iadd, 1) := by decide +kernel
theorem dL_law_729 : decode cL_law 729 = .ok (.iaload, 1) := by decide +kernel
theorem dL_law_730 : decode cL_law 730 = .ok (.invokevirtual 104, 3) := by decide +kernel
theorem dL_law_733 : decode cL_law 733 = .ok (.aload_n 2, 1) := by decide +kernel
theorem dL_law_734 : decode cL_law 734 = .ok (.aload_n 0, 1) := by decide +kernel
theorem dL_law_735 : decode cL_law 735 = .ok (.iload 4, 2) := by decide +kernel
theorem dL_law_737 : decode cL_law 737 = .ok (.iconst 1, 1) := by decide +kernel
theorem dL_law_738 : decode cL_law 738 = .ok (.iadd, 1) := by decide +kernel
theorem dL_law_739 : decode cL_law 739 = .ok (.iaload, 1) := by decide +kernel
theorem dL_law_740 : decode cL_law 740 = .ok (.aload_n 0, 1) := by decide +kernel
theorem dL_law_741 : decode cL_law 741 = .ok (.iload 4, 2) := by decide +kernel
theorem dL_law_743 : decode cL_law 743 = .ok (.iconst 2, 1) := by decide +kernel
theorem dL_law_744 : decode cL_law 744 = .ok (.iadd, 1) := by decide +kernel
theorem dL_law_745 : decode cL_law 745 = .ok (.iaload, 1) := by decide +kernel
theorem dL_law_746 : decode cL_law 746 = .ok (.invokevirtual 107, 3) := by decide +kernel
theorem dL_law_749 : decode cL_law 749 = .ok (.if_icmp .eq 650, 3) := by decide +kernel
theorem dL_law_752 : decode cL_law 752 = .ok (.iconst 0, 1) := by decide +kernel
theorem dL_law_753 : decode cL_law 753 = .ok (.ireturn, 1) := by decide +kernel
theorem dL_law_754 : decode cL_law 754 = .ok (.aload_n 1, 1) := by decide +kernel
theorem dL_law_755 : decode cL_law 755 = .ok (.aload_n 0, 1) := by decide +kernel
theorem dL_law_756 : decode cL_law 756 = .ok (.iload 4, 2) := by decide +kernel
theorem dL_law_758 : decode cL_law 758 = .ok (.iconst 1, 1) := by decide +kernel
theorem dL_law_759 : decode cL_law 759 = .ok (.iadd, 1) := by decide +kernel
theorem dL_law_760 : decode cL_law 760 = .ok (.iaload, 1) := by decide +kernel
theorem dL_law_761 : decode cL_law 761 = .ok (.invokevirtual 108, 3) := by decide +kernel
theorem dL_law_764 : decode cL_law 764 = .ok (.aload_n 2, 1) := by decide +kernel
theorem dL_law_765 : decode cL_law 765 = .ok (.aload_n 0, 1) := by decide +kernel
theorem dL_law_766 : decode cL_law 766 = .ok (.iload 4, 2) := by decide +kernel
theorem dL_law_768 : decode cL_law 768 = .ok (.iconst 1, 1) := by decide +kernel
theorem dL_law_769 : decode cL_law 769 = .ok (.iadd, 1) := by decide +kernel
theorem dL_law_770 : decode cL_law 770 = .ok (.iaload, 1) := by decide +kernel
theorem dL_law_771 : decode cL_law 771 = .ok (.invokevirtual 111, 3) := by decide +kernel
theorem dL_law_774 : decode cL_law 774 = .ok (.if_icmp .eq 625, 3) := by decide +kernel
theorem dL_law_777 : decode cL_law 777 = .ok (.iconst 0, 1) := by decide +kernel
theorem dL_law_778 : decode cL_law 778 = .ok (.ireturn, 1) := by decide +kernel
theorem dL_law_779 : decode cL_law 779 = .ok (.aload_n 1, 1) := by decide +kernel
theorem dL_law_780 : decode cL_law 780 = .ok (.aload_n 0, 1) := by decide +kernel
theorem dL_law_781 : decode cL_law 781 = .ok (.iload 4, 2) := by decide +kernel
theorem dL_law_783 : decode cL_law 783 = .ok (.iconst 1, 1) := by decide +kernel
theorem dL_law_784 : decode cL_law 784 = .ok (.iadd, 1) := by decide +kernel
theorem dL_law_785 : decode cL_law 785 = .ok (.iaload, 1) := by decide +kernel
theorem dL_law_786 : decode cL_law 786 = .ok (.invokevirtual 112, 3) := by decide +kernel
theorem dL_law_789 : decode cL_law 789 = .ok (.aload_n 2, 1) := by decide +kernel
theorem dL_law_790 : decode cL_law 790 = .ok (.aload_n 0, 1) := by decide +kernel
theorem dL_law_791 : decode cL_law 791 = .ok (.iload 4, 2) := by decide +kernel
theorem dL_law_793 : decode cL_law 793 = .ok (.iconst 1, 1) := by decide +kernel
theorem dL_law_794 : decode cL_law 794 = .ok (.iadd, 1) := by decide +kernel
theorem dL_law_795 : decode cL_law 795 = .ok (.iaload, 1) := by decide +kernel
theorem dL_law_796 : decode cL_law 796 = .ok (.invokevirtual 115, 3) := by decide +kernel
theorem dL_law_799 : decode cL_law 799 = .ok (.if_icmp .eq 600, 3) := by decide +kernel
theorem dL_law_802 : decode cL_law 802 = .ok (.iconst 0, 1) := by decide +kernel
theorem dL_law_803 : decode cL_law 803 = .ok (.ireturn, 1) := by decide +kernel
theorem dL_law_804 : decode cL_law 804 = .ok (.aload_n 1, 1) := by decide +kernel
theorem dL_law_805 : decode cL_law 805 = .ok (.aload_n 0, 1) := by decide +kernel
theorem dL_law_806 : decode cL_law 806 = .ok (.iload 4, 2) := by decide +kernel
theorem dL_law_808 : decode cL_law 808 = .ok (.iconst 1, 1) := by decide +kernel
theorem dL_law_809 : decode cL_law 809 = .ok (.iadd, 1) := by decide +kernel
theorem dL_law_810 : decode cL_law 810 = .ok (.iaload, 1) := by decide +kernel
theorem dL_law_811 : decode cL_law 811 = .ok (.invokevirtual 116, 3) := by decide +kernel
theorem dL_law_814 : decode cL_law 814 = .ok (.aload_n 2, 1) := by decide +kernel
theorem dL_law_815 : decode cL_law 815 = .ok (.aload_n 0, 1) := by decide +kernel
theorem dL_law_816 : decode cL_law 816 = .ok (.iload 4, 2) := by decide +kernel
theorem dL_law_818 : decode cL_law 818 = .ok (.iconst 1, 1) := by decide +kernel
theorem dL_law_819 : decode cL_law 819 = .ok (.iadd, 1) := by decide +kernel
theorem dL_law_820 : decode cL_law 820 = .ok (.iaload, 1) := by decide +kernel
theorem dL_law_821 : decode cL_law 821 = .ok (.invokevirtual 119, 3) := by decide +kernel
theorem dL_law_824 : decode cL_law 824 = .ok (.if_icmp .eq 575, 3) := by decide +kernel
theorem dL_law_827 : decode cL_law 827 = .ok (.iconst 0, 1) := by decide +kernel
theorem dL_law_828 : decode cL_law 828 = .ok (.ireturn, 1) := by decide +kernel
theorem dL_law_829 : decode cL_law 829 = .ok (.aload_n 1, 1) := by decide +kernel
theorem dL_law_830 : decode cL_law 830 = .ok (.invokevirtual 120, 3) := by decide +kernel
theorem dL_law_833 : decode cL_law 833 = .ok (.aload_n 2, 1) := by decide +kernel
theorem dL_law_834 : decode cL_law 834 = .ok (.invokevirtual 123, 3) := by decide +kernel
theorem dL_law_837 : decode cL_law 837 = .ok (.if_icmp .eq 562, 3) := by decide +kernel
theorem dL_law_840 : decode cL_law 840 = .ok (.iconst 0, 1) := by decide +kernel
theorem dL_law_841 : decode cL_law 841 = .ok (.ireturn, 1) := by decide +kernel
theorem dL_law_842 : decode cL_law 842 = .ok (.aload_n 1, 1) := by decide +kernel
theorem dL_law_843 : decode cL_law 843 = .ok (.invokevirtual 124, 3) := by decide +kernel
theorem dL_law_846 : decode cL_law 846 = .ok (.aload_n 2, 1) := by decide +kernel
theorem dL_law_847 : decode cL_law 847 = .ok (.invokevirtual 127, 3) := by decide +kernel
theorem dL_law_850 : decode cL_law 850 = .ok (.if_icmp .eq 549, 3) := by decide +kernel
theorem dL_law_853 : decode cL_law 853 = .ok (.iconst 0, 1) := by decide +kernel
theorem dL_law_854 : decode cL_law 854 = .ok (.ireturn, 1) := by decide +kernel
theorem dL_law_855 : decode cL_law 855 = .ok (.aload_n 1, 1) := by decide +kernel
theorem dL_law_856 : decode cL_law 856 = .ok (.invokevirtual 128, 3) := by decide +kernel
theorem dL_law_859 : decode cL_law 859 = .ok (.aload_n 2, 1) := by decide +kernel
theorem dL_law_860 : decode cL_law 860 = .ok (.invokevirtual 131, 3) := by decide +kernel
theorem dL_law_863 : decode cL_law 863 = .ok (.if_icmp .eq 536, 3) := by decide +kernel
theorem dL_law_866 : decode cL_law 866 = .ok (.iconst 0, 1) := by decide +kernel
theorem dL_law_867 : decode cL_law 867 = .ok (.ireturn, 1) := by decide +kernel
theorem dL_law_868 : decode cL_law 868 = .ok (.aload_n 1, 1) := by decide +kernel
theorem dL_law_869 : decode cL_law 869 = .ok (.invokevirtual 132, 3) := by decide +kernel
theorem dL_law_872 : decode cL_law 872 = .ok (.aload_n 2, 1) := by decide +kernel
theorem dL_law_873 : decode cL_law 873 = .ok (.invokevirtual 135, 3) := by decide +kernel
theorem dL_law_876 : decode cL_law 876 = .ok (.if_icmp .eq 523, 3) := by decide +kernel
theorem dL_law_879 : decode cL_law 879 = .ok (.iconst 0, 1) := by decide +kernel
theorem dL_law_880 : decode cL_law 880 = .ok (.ireturn, 1) := by decide +kernel
theorem dL_law_881 : decode cL_law 881 = .ok (.aload_n 1, 1) := by decide +kernel
theorem dL_law_882 : decode cL_law 882 = .ok (.aload_n 0, 1) := by decide +kernel
theorem dL_law_883 : decode cL_law 883 = .ok (.iload 4, 2) := by decide +kernel
theorem dL_law_885 : decode cL_law 885 = .ok (.iconst 1, 1) := by decide +kernel
theorem dL_law_886 : decode cL_law 886 = .ok (.iadd, 1) := by decide +kernel
theorem dL_law_887 : decode cL_law 887 = .ok (.iaload, 1) := by decide +kernel
theorem dL_law_888 : decode cL_law 888 = .ok (.aload_n 0, 1) := by decide +kernel
theorem dL_law_889 : decode cL_law 889 = .ok (.iload 4, 2) := by decide +kernel
theorem dL_law_891 : decode cL_law 891 = .ok (.iconst 2, 1) := by decide +kernel
theorem dL_law_892 : decode cL_law 892 = .ok (.iadd, 1) := by decide +kernel
theorem dL_law_893 : decode cL_law 893 = .ok (.iaload, 1) := by decide +kernel
theorem dL_law_894 : decode cL_law 894 = .ok (.invokevirtual 136, 3) := by decide +kernel
theorem dL_law_897 : decode cL_law 897 = .ok (.aload_n 2, 1) := by decide +kernel
theorem dL_law_898 : decode cL_law 898 = .ok (.aload_n 0, 1) := by decide +kernel
theorem dL_law_899 : decode cL_law 899 = .ok (.iload 4, 2) := by decide +kernel
theorem dL_law_901 : decode cL_law 901 = .ok (.iconst 1, 1) := by decide +kernel
theorem dL_law_902 : decode cL_law 902 = .ok (.iadd, 1) := by decide +kernel
theorem dL_law_903 : decode cL_law 903 = .ok (.iaload, 1) := by decide +kernel
theorem dL_law_904 : decode cL_law 904 = .ok (.aload_n 0, 1) := by decide +kernel
theorem dL_law_905 : decode cL_law 905 = .ok (.iload 4, 2) := by decide +kernel
theorem dL_law_907 : decode cL_law 907 = .ok (.iconst 2, 1) := by decide +kernel
theorem dL_law_908 : decode cL_law 908 = .ok (.iadd, 1) := by decide +kernel
theorem dL_law_909 : decode cL_law 909 = .ok (.iaload, 1) := by decide +kernel
theorem dL_law_910 : decode cL_law 910 = .ok (.invokevirtual 139, 3) := by decide +kernel
theorem dL_law_913 : decode cL_law 913 = .ok (.if_icmp .eq 486, 3) := by decide +kernel
theorem dL_law_916 : decode cL_law 916 = .ok (.iconst 0, 1) := by decide +kernel
theorem dL_law_917 : decode cL_law 917 = .ok (.ireturn, 1) := by decide +kernel
theorem dL_law_918 : decode cL_law 918 = .ok (.aload_n 1, 1) := by decide +kernel
theorem dL_law_919 : decode cL_law 919 = .ok (.invokevirtual 140, 3) := by decide +kernel
theorem dL_law_922 : decode cL_law 922 = .ok (.aload_n 2, 1) := by decide +kernel
theorem dL_law_923 : decode cL_law 923 = .ok (.invokevirtual 143, 3) := by decide +kernel
theorem dL_law_926 : decode cL_law 926 = .ok (.if_icmp .eq 473, 3) := by decide +kernel
theorem dL_law_929 : decode cL_law 929 = .ok (.iconst 0, 1) := by decide +kernel
theorem dL_law_930 : decode cL_law 930 = .ok (.ireturn, 1) := by decide +kernel
theorem dL_law_931 : decode cL_law 931 = .ok (.aload_n 1, 1) := by decide +kernel
theorem dL_law_932 : decode cL_law 932 = .ok (.aload_n 0, 1) := by decide +kernel
theorem dL_law_933 : decode cL_law 933 = .ok (.iload 4, 2) := by decide +kernel
theorem dL_law_935 : decode cL_law 935 = .ok (.iconst 1, 1) := by decide +kernel
theorem dL_law_936 : decode cL_law 936 = .ok (.iadd, 1) := by decide +kernel
theorem dL_law_937 : decode cL_law 937 = .ok (.iaload, 1) := by decide +kernel
theorem dL_law_938 : decode cL_law 938 = .ok (.invokevirtual 144, 3) := by decide +kernel
theorem dL_law_941 : decode cL_law 941 = .ok (.aload_n 2, 1) := by decide +kernel
theorem dL_law_942 : decode cL_law 942 = .ok (.aload_n 0, 1) := by decide +kernel
theorem dL_law_943 : decode cL_law 943 = .ok (.iload 4, 2) := by decide +kernel
theorem dL_law_945 : decode cL_law 945 = .ok (.iconst 1, 1) := by decide +kernel
theorem dL_law_946 : decode cL_law 946 = .ok (.iadd, 1) := by decide +kernel
theorem dL_law_947 : decode cL_law 947 = .ok (.iaload, 1) := by decide +kernel
theorem dL_law_948 : decode cL_law 948 = .ok (.invokevirtual 147, 3) := by decide +kernel
theorem dL_law_951 : decode cL_law 951 = .ok (.if_icmp .eq 448, 3) := by decide +kernel
theorem dL_law_954 : decode cL_law 954 = .ok (.iconst 0, 1) := by decide +kernel
theorem dL_law_955 : decode cL_law 955 = .ok (.ireturn, 1) := by decide +kernel
theorem dL_law_956 : decode cL_law 956 = .ok (.aload_n 1, 1) := by decide +kernel
theorem dL_law_957 : decode cL_law 957 = .ok (.aload_n 0, 1) := by decide +kernel
theorem dL_law_958 : decode cL_law 958 = .ok (.iload 4, 2) := by decide +kernel
theorem dL_law_960 : decode cL_law 960 = .ok (.iconst 1, 1) := by decide +kernel
theorem dL_law_961 : decode cL_law 961 = .ok (.iadd, 1) := by decide +kernel
theorem dL_law_962 : decode cL_law 962 = .ok (.iaload, 1) := by decide +kernel
theorem dL_law_963 : decode cL_law 963 = .ok (.aload_n 0, 1) := by decide +kernel
theorem dL_law_964 : decode cL_law 964 = .ok (.iload 4, 2) := by decide +kernel
theorem dL_law_966 : decode cL_law 966 = .ok (.iconst 2, 1) := by decide +kernel
theorem dL_law_967 : decode cL_law 967 = .ok (.iadd, 1) := by decide +kernel
theorem dL_law_968 : decode cL_law 968 = .ok (.iaload, 1) := by decide +kernel
theorem dL_law_969 : decode cL_law 969 = .ok (.aload_n 0, 1) := by decide +kernel
theorem dL_law_970 : decode cL_law 970 = .ok (.iload 4, 2) := by decide +kernel
theorem dL_law_972 : decode cL_law 972 = .ok (.iconst 3, 1) := by decide +kernel
theorem dL_law_973 : decode cL_law 973 = .ok (.iadd, 1) := by decide +kernel
theorem dL_law_974 : decode cL_law 974 = .ok (.iaload, 1) := by decide +kernel
theorem dL_law_975 : decode cL_law 975 = .ok (.invokevirtual 148, 3) := by decide +kernel
theorem dL_law_978 : decode cL_law 978 = .ok (.aload_n 2, 1) := by decide +kernel
theorem dL_law_979 : decode cL_law 979 = .ok (.aload_n 0, 1) := by decide +kernel
theorem dL_law_980 : decode cL_law 980 = .ok (.iload 4, 2) := by decide +kernel
theorem dL_law_982 : decode cL_law 982 = .ok (.iconst 1, 1) := by decide +kernel
theorem dL_law_983 : decode cL_law 983 = .ok (.iadd, 1) := by decide +kernel
theorem dL_law_984 : decode cL_law 984 = .ok (.iaload, 1) := by decide +kernel
theorem dL_law_985 : decode cL_law 985 = .ok (.aload_n 0, 1) := by decide +kernel
theorem dL_law_986 : decode cL_law 986 = .ok (.iload 4, 2) := by decide +kernel
theorem dL_law_988 : decode cL_law 988 = .ok (.iconst 2, 1) := by decide +kernel
theorem dL_law_989 : decode cL_law 989 = .ok (.iadd, 1) := by decide +kernel
theorem dL_law_990 : decode cL_law 990 = .ok (.iaload, 1) := by decide +kernel
theorem dL_law_991 : decode cL_law 991 = .ok (.aload_n 0, 1) := by decide +kernel
theorem dL_law_992 : decode cL_law 992 = .ok (.iload 4, 2) := by decide +kernel
theorem dL_law_994 : decode cL_law 994 = .ok (.iconst 3, 1) := by decide +kernel
theorem dL_law_995 : decode cL_law 995 = .ok (.iadd, 1) := by decide +kernel
theorem dL_law_996 : decode cL_law 996 = .ok (.iaload, 1) := by decide +kernel
theorem dL_law_997 : decode cL_law 997 = .ok (.invokevirtual 152, 3) := by decide +kernel
theorem dL_law_1000 : decode cL_law 1000 = .ok (.if_icmp .eq 399, 3) := by decide +kernel
theorem dL_law_1003 : decode cL_law 1003 = .ok (.iconst 0, 1) := by decide +kernel
theorem dL_law_1004 : decode cL_law 1004 = .ok (.ireturn, 1) := by decide +kernel
theorem dL_law_1005 : decode cL_law 1005 = .ok (.aload_n 1, 1) := by decide +kernel
theorem dL_law_1006 : decode cL_law 1006 = .ok (.invokevirtual 153, 3) := by decide +kernel
theorem dL_law_1009 : decode cL_law 1009 = .ok (.aload_n 2, 1) := by decide +kernel
theorem dL_law_1010 : decode cL_law 1010 = .ok (.invokevirtual 156, 3) := by decide +kernel
theorem dL_law_1013 : decode cL_law 1013 = .ok (.if_icmp .eq 386, 3) := by decide +kernel
theorem dL_law_1016 : decode cL_law 1016 = .ok (.iconst 0, 1) := by decide +kernel
theorem dL_law_1017 : decode cL_law 1017 = .ok (.ireturn, 1) := by decide +kernel
theorem dL_law_1018 : decode cL_law 1018 = .ok (.aload_n 1, 1) := by decide +kernel
theorem dL_law_1019 : decode cL_law 1019 = .ok (.invokevirtual 157, 3) := by decide +kernel
theorem dL_law_1022 : decode cL_law 1022 = .ok (.aload_n 2, 1) := by decide +kernel
theorem dL_law_1023 : decode cL_law 1023 = .ok (.invokevirtual 160, 3) := by decide +kernel
theorem dL_law_1026 : decode cL_law 1026 = .ok (.if_icmp .eq 373, 3) := by decide +kernel
theorem dL_law_1029 : decode cL_law 1029 = .ok (.iconst 0, 1) := by decide +kernel
theorem dL_law_1030 : decode cL_law 1030 = .ok (.ireturn, 1) := by decide +kernel
theorem dL_law_1031 : decode cL_law 1031 = .ok (.aload_n 1, 1) := by decide +kernel
theorem dL_law_1032 : decode cL_law 1032 = .ok (.invokevirtual 161, 3) := by decide +kernel
theorem dL_law_1035 : decode cL_law 1035 = .ok (.aload_n 2, 1) := by decide +kernel
theorem dL_law_1036 : decode cL_law 1036 = .ok (.invokevirtual 164, 3) := by decide +kernel
theorem dL_law_1039 : decode cL_law 1039 = .ok (.if_icmp .eq 360, 3) := by decide +kernel
theorem dL_law_1042 : decode cL_law 1042 = .ok (.iconst 0, 1) := by decide +kernel
theorem dL_law_1043 : decode cL_law 1043 = .ok (.ireturn, 1) := by decide +kernel
theorem dL_law_1044 : decode cL_law 1044 = .ok (.aload_n 1, 1) := by decide +kernel
theorem dL_law_1045 : decode cL_law 1045 = .ok (.aload_n 0, 1) := by decide +kernel
theorem dL_law_1046 : decode cL_law 1046 = .ok (.iload 4, 2) := by decide +kernel
theorem dL_law_1048 : decode cL_law 1048 = .ok (.iconst 1, 1) := by decide +kernel
theorem dL_law_1049 : decode cL_law 1049 = .ok (.iadd, 1) := by decide +kernel
theorem dL_law_1050 : decode cL_law 1050 = .ok (.iaload, 1) := by decide +kernel
theorem dL_law_1051 : decode cL_law 1051 = .ok (.invokevirtual 165, 3) := by decide +kernel
theorem dL_law_1054 : decode cL_law 1054 = .ok (.aload_n 2, 1) := by decide +kernel
theorem dL_law_1055 : decode cL_law 1055 = .ok (.aload_n 0, 1) := by decide +kernel
theorem dL_law_1056 : decode cL_law 1056 = .ok (.iload 4, 2) := by decide +kernel
theorem dL_law_1058 : decode cL_law 1058 = .ok (.iconst 1, 1) := by decide +kernel
theorem dL_law_1059 : decode cL_law 1059 = .ok (.iadd, 1) := by decide +kernel
theorem dL_law_1060 : decode cL_law 1060 = .ok (.iaload, 1) := by decide +kernel
theorem dL_law_1061 : decode cL_law 1061 = .ok (.invokevirtual 168, 3) := by decide +kernel
theorem dL_law_1064 : decode cL_law 1064 = .ok (.if_icmp .eq 335, 3) := by decide +kernel
theorem dL_law_1067 : decode cL_law 1067 = .ok (.iconst 0, 1) := by decide +kernel
theorem dL_law_1068 : decode cL_law 1068 = .ok (.ireturn, 1) := by decide +kernel
theorem dL_law_1069 : decode cL_law 1069 = .ok (.aload_n 1, 1) := by decide +kernel
theorem dL_law_1070 : decode cL_law 1070 = .ok (.aload_n 0, 1) := by decide +kernel
theorem dL_law_1071 : decode cL_law 1071 = .ok (.iload 4, 2) := by decide +kernel
theorem dL_law_1073 : decode cL_law 1073 = .ok (.iconst 1, 1) := by decide +kernel
theorem dL_law_1074 : decode cL_law 1074 = .ok (.iadd, 1) := by decide +kernel
theorem dL_law_1075 : decode cL_law 1075 = .ok (.iaload, 1) := by decide +kernel
theorem dL_law_1076 : decode cL_law 1076 = .ok (.invokevirtual 169, 3) := by decide +kernel
theorem dL_law_1079 : decode cL_law 1079 = .ok (.aload_n 2, 1) := by decide +kernel
theorem dL_law_1080 : decode cL_law 1080 = .ok (.aload_n 0, 1) := by decide +kernel
theorem dL_law_1081 : decode cL_law 1081 = .ok (.iload 4, 2) := by decide +kernel
theorem dL_law_1083 : decode cL_law 1083 = .ok (.iconst 1, 1) := by decide +kernel
theorem dL_law_1084 : decode cL_law 1084 = .ok (.iadd, 1) := by decide +kernel
theorem dL_law_1085 : decode cL_law 1085 = .ok (.iaload, 1) := by decide +kernel
theorem dL_law_1086 : decode cL_law 1086 = .ok (.invokevirtual 172, 3) := by decide +kernel
theorem dL_law_1089 : decode cL_law 1089 = .ok (.if_icmp .eq 310, 3) := by decide +kernel
theorem dL_law_1092 : decode cL_law 1092 = .ok (.iconst 0, 1) := by decide +kernel
theorem dL_law_1093 : decode cL_law 1093 = .ok (.ireturn, 1) := by decide +kernel
theorem dL_law_1094 : decode cL_law 1094 = .ok (.aload_n 1, 1) := by decide +kernel
theorem dL_law_1095 : decode cL_law 1095 = .ok (.invokevirtual 173, 3) := by decide +kernel
theorem dL_law_1098 : decode cL_law 1098 = .ok (.aload_n 2, 1) := by decide +kernel
theorem dL_law_1099 : decode cL_law 1099 = .ok (.invokevirtual 176, 3) := by decide +kernel
theorem dL_law_1102 : decode cL_law 1102 = .ok (.if_icmp .eq 297, 3) := by decide +kernel
theorem dL_law_1105 : decode cL_law 1105 = .ok (.iconst 0, 1) := by decide +kernel
theorem dL_law_1106 : decode cL_law 1106 = .ok (.ireturn, 1) := by decide +kernel
theorem dL_law_1107 : decode cL_law 1107 = .ok (.aload_n 1, 1) := by decide +kernel
theorem dL_law_1108 : decode cL_law 1108 = .ok (.invokevirtual 177, 3) := by decide +kernel
theorem dL_law_1111 : decode cL_law 1111 = .ok (.aload_n 2, 1) := by decide +kernel
theorem dL_law_1112 : decode cL_law 1112 = .ok (.invokevirtual 180, 3) := by decide +kernel
theorem dL_law_1115 : decode cL_law 1115 = .ok (.if_icmp .eq 284, 3) := by decide +kernel
theorem dL_law_1118 : decode cL_law 1118 = .ok (.iconst 0, 1) := by decide +kernel
theorem dL_law_1119 : decode cL_law 1119 = .ok (.ireturn, 1) := by decide +kernel
theorem dL_law_1120 : decode cL_law 1120 = .ok (.aload_n 1, 1) := by decide +kernel
theorem dL_law_1121 : decode cL_law 1121 = .ok (.aload_n 0, 1) := by decide +kernel
theorem dL_law_1122 : decode cL_law 1122 = .ok (.iload 4, 2) := by decide +kernel
theorem dL_law_1124 : decode cL_law 1124 = .ok (.iconst 1, 1) := by decide +kernel
theorem dL_law_1125 : decode cL_law 1125 = .ok (.iadd, 1) := by decide +kernel
theorem dL_law_1126 : decode cL_law 1126 = .ok (.iaload, 1) := by decide +kernel
theorem dL_law_1127 : decode cL_law 1127 = .ok (.aload_n 0, 1) := by decide +kernel
theorem dL_law_1128 : decode cL_law 1128 = .ok (.iload 4, 2) := by decide +kernel
theorem dL_law_1130 : decode cL_law 1130 = .ok (.iconst 2, 1) := by decide +kernel
theorem dL_law_1131 : decode cL_law 1131 = .ok (.iadd, 1) := by decide +kernel
theorem dL_law_1132 : decode cL_law 1132 = .ok (.iaload, 1) := by decide +kernel
theorem dL_law_1133 : decode cL_law 1133 = .ok (.invokevirtual 181, 3) := by decide +kernel
theorem dL_law_1136 : decode cL_law 1136 = .ok (.aload_n 2, 1) := by decide +kernel
theorem dL_law_1137 : decode cL_law 1137 = .ok (.aload_n 0, 1) := by decide +kernel
theorem dL_law_1138 : decode cL_law 1138 = .ok (.iload 4, 2) := by decide +kernel
theorem dL_law_1140 : decode cL_law 1140 = .ok (.iconst 1, 1) := by decide +kernel
theorem dL_law_1141 : decode cL_law 1141 = .ok (.iadd, 1) := by decide +kernel
theorem dL_law_1142 : decode cL_law 1142 = .ok (.iaload, 1) := by decide +kernel
theorem dL_law_1143 : decode cL_law 1143 = .ok (.aload_n 0, 1) := by decide +kernel
theorem dL_law_1144 : decode cL_law 1144 = .ok (.iload 4, 2) := by decide +kernel
theorem dL_law_1146 : decode cL_law 1146 = .ok (.iconst 2, 1) := by decide +kernel
theorem dL_law_1147 : decode cL_law 1147 = .ok (.iadd, 1) := by decide +kernel
theorem dL_law_1148 : decode cL_law 1148 = .ok (.iaload, 1) := by decide +kernel
theorem dL_law_1149 : decode cL_law 1149 = .ok (.invokevirtual 184, 3) := by decide +kernel
theorem dL_law_1152 : decode cL_law 1152 = .ok (.if_icmp .eq 247, 3) := by decide +kernel
theorem dL_law_1155 : decode cL_law 1155 = .ok (.iconst 0, 1) := by decide +kernel
theorem dL_law_1156 : decode cL_law 1156 = .ok (.ireturn, 1) := by decide +kernel
theorem dL_law_1157 : decode cL_law 1157 = .ok (.aload_n 1, 1) := by decide +kernel
theorem dL_law_1158 : decode cL_law 1158 = .ok (.aload_n 0, 1) := by decide +kernel
theorem dL_law_1159 : decode cL_law 1159 = .ok (.iload 4, 2) := by decide +kernel
theorem dL_law_1161 : decode cL_law 1161 = .ok (.iconst 1, 1) := by decide +kernel
theorem dL_law_1162 : decode cL_law 1162 = .ok (.iadd, 1) := by decide +kernel
theorem dL_law_1163 : decode cL_law 1163 = .ok (.iaload, 1) := by decide +kernel
theorem dL_law_1164 : decode cL_law 1164 = .ok (.aload_n 0, 1) := by decide +kernel
theorem dL_law_1165 : decode cL_law 1165 = .ok (.iload 4, 2) := by decide +kernel
theorem dL_law_1167 : decode cL_law 1167 = .ok (.iconst 2, 1) := by decide +kernel
theorem dL_law_1168 : decode cL_law 1168 = .ok (.iadd, 1) := by decide +kernel
theorem dL_law_1169 : decode cL_law 1169 = .ok (.iaload, 1) := by decide +kernel
theorem dL_law_1170 : decode cL_law 1170 = .ok (.invokevirtual 185, 3) := by decide +kernel
theorem dL_law_1173 : decode cL_law 1173 = .ok (.aload_n 2, 1) := by decide +kernel
theorem dL_law_1174 : decode cL_law 1174 = .ok (.aload_n 0, 1) := by decide +kernel
theorem dL_law_1175 : decode cL_law 1175 = .ok (.iload 4, 2) := by decide +kernel
theorem dL_law_1177 : decode cL_law 1177 = .ok (.iconst 1, 1) := by decide +kernel
theorem dL_law_1178 : decode cL_law 1178 = .ok (.iadd, 1) := by decide +kernel
theorem dL_law_1179 : decode cL_law 1179 = .ok (.iaload, 1) := by decide +kernel
theorem dL_law_1180 : decode cL_law 1180 = .ok (.aload_n 0, 1) := by decide +kernel
theorem dL_law_1181 : decode cL_law 1181 = .ok (.iload 4, 2) := by decide +kernel
theorem dL_law_1183 : decode cL_law 1183 = .ok (.iconst 2, 1) := by decide +kernel
theorem dL_law_1184 : decode cL_law 1184 = .ok (.iadd, 1) := by decide +kernel
theorem dL_law_1185 : decode cL_law 1185 = .ok (.iaload, 1) := by decide +kernel
theorem dL_law_1186 : decode cL_law 1186 = .ok (.invokevirtual 188, 3) := by decide +kernel
theorem dL_law_1189 : decode cL_law 1189 = .ok (.if_icmp .eq 210, 3) := by decide +kernel
theorem dL_law_1192 : decode cL_law 1192 = .ok (.iconst 0, 1) := by decide +kernel
theorem dL_law_1193 : decode cL_law 1193 = .ok (.ireturn, 1) := by decide +kernel
theorem dL_law_1194 : decode cL_law 1194 = .ok (.aload_n 1, 1) := by decide +kernel
theorem dL_law_1195 : decode cL_law 1195 = .ok (.invokevirtual 189, 3) := by decide +kernel
theorem dL_law_1198 : decode cL_law 1198 = .ok (.aload_n 2, 1) := by decide +kernel
theorem dL_law_1199 : decode cL_law 1199 = .ok (.invokevirtual 192, 3) := by decide +kernel
theorem dL_law_1202 : decode cL_law 1202 = .ok (.if_icmp .eq 197, 3) := by decide +kernel
theorem dL_law_1205 : decode cL_law 1205 = .ok (.iconst 0, 1) := by decide +kernel
theorem dL_law_1206 : decode cL_law 1206 = .ok (.ireturn, 1) := by decide +kernel
theorem dL_law_1207 : decode cL_law 1207 = .ok (.aload_n 1, 1) := by decide +kernel
theorem dL_law_1208 : decode cL_law 1208 = .ok (.aload_n 0, 1) := by decide +kernel
theorem dL_law_1209 : decode cL_law 1209 = .ok (.iload 4, 2) := by decide +kernel
theorem dL_law_1211 : decode cL_law 1211 = .ok (.iconst 1, 1) := by decide +kernel
theorem dL_law_1212 : decode cL_law 1212 = .ok (.iadd, 1) := by decide +kernel
theorem dL_law_1213 : decode cL_law 1213 = .ok (.iaload, 1) := by decide +kernel
theorem dL_law_1214 : decode cL_law 1214 = .ok (.invokevirtual 193, 3) := by decide +kernel
theorem dL_law_1217 : decode cL_law 1217 = .ok (.aload_n 2, 1) := by decide +kernel
theorem dL_law_1218 : decode cL_law 1218 = .ok (.aload_n 0, 1) := by decide +kernel
theorem dL_law_1219 : decode cL_law 1219 = .ok (.iload 4, 2) := by decide +kernel
theorem dL_law_1221 : decode cL_law 1221 = .ok (.iconst 1, 1) := by decide +kernel
theorem dL_law_1222 : decode cL_law 1222 = .ok (.iadd, 1) := by decide +kernel
theorem dL_law_1223 : decode cL_law 1223 = .ok (.iaload, 1) := by decide +kernel
theorem dL_law_1224 : decode cL_law 1224 = .ok (.invokevirtual 196, 3) := by decide +kernel
theorem dL_law_1227 : decode cL_law 1227 = .ok (.if_icmp .eq 172, 3) := by decide +kernel
theorem dL_law_1230 : decode cL_law 1230 = .ok (.iconst 0, 1) := by decide +kernel
theorem dL_law_1231 : decode cL_law 1231 = .ok (.ireturn, 1) := by decide +kernel
theorem dL_law_1232 : decode cL_law 1232 = .ok (.aload_n 1, 1) := by decide +kernel
theorem dL_law_1233 : decode cL_law 1233 = .ok (.aload_n 0, 1) := by decide +kernel
theorem dL_law_1234 : decode cL_law 1234 = .ok (.iload 4, 2) := by decide +kernel
theorem dL_law_1236 : decode cL_law 1236 = .ok (.iconst 1, 1) := by decide +kernel
theorem dL_law_1237 : decode cL_law 1237 = .ok (.iadd, 1) := by decide +kernel
theorem dL_law_1238 : decode cL_law 1238 = .ok (.iaload, 1) := by decide +kernel
theorem dL_law_1239 : decode cL_law 1239 = .ok (.aload_n 0, 1) := by decide +kernel
theorem dL_law_1240 : decode cL_law 1240 = .ok (.iload 4, 2) := by decide +kernel
theorem dL_law_1242 : decode cL_law 1242 = .ok (.iconst 2, 1) := by decide +kernel
theorem dL_law_1243 : decode cL_law 1243 = .ok (.iadd, 1) := by decide +kernel
theorem dL_law_1244 : decode cL_law 1244 = .ok (.iaload, 1) := by decide +kernel
theorem dL_law_1245 : decode cL_law 1245 = .ok (.invokevirtual 197, 3) := by decide +kernel
theorem dL_law_1248 : decode cL_law 1248 = .ok (.aload_n 2, 1) := by decide +kernel
theorem dL_law_1249 : decode cL_law 1249 = .ok (.aload_n 0, 1) := by decide +kernel
theorem dL_law_1250 : decode cL_law 1250 = .ok (.iload 4, 2) := by decide +kernel
theorem dL_law_1252 : decode cL_law 1252 = .ok (.iconst 1, 1) := by decide +kernel
theorem dL_law_1253 : decode cL_law 1253 = .ok (.iadd, 1) := by decide +kernel
theorem dL_law_1254 : decode cL_law 1254 = .ok (.iaload, 1) := by decide +kernel
theorem dL_law_1255 : decode cL_law 1255 = .ok (.aload_n 0, 1) := by decide +kernel
theorem dL_law_1256 : decode cL_law 1256 = .ok (.iload 4, 2) := by decide +kernel
theorem dL_law_1258 : decode cL_law 1258 = .ok (.iconst 2, 1) := by decide +kernel
theorem dL_law_1259 : decode cL_law 1259 = .ok (.iadd, 1) := by decide +kernel
theorem dL_law_1260 : decode cL_law 1260 = .ok (.iaload, 1) := by decide +kernel
theorem dL_law_1261 : decode cL_law 1261 = .ok (.invokevirtual 200, 3) := by decide +kernel
theorem dL_law_1264 : decode cL_law 1264 = .ok (.if_icmp .eq 135, 3) := by decide +kernel
theorem dL_law_1267 : decode cL_law 1267 = .ok (.iconst 0, 1) := by decide +kernel
theorem dL_law_1268 : decode cL_law 1268 = .ok (.ireturn, 1) := by decide +kernel
theorem dL_law_1269 : decode cL_law 1269 = .ok (.aload_n 1, 1) := by decide +kernel
theorem dL_law_1270 : decode cL_law 1270 = .ok (.aload_n 0, 1) := by decide +kernel
theorem dL_law_1271 : decode cL_law 1271 = .ok (.iload 4, 2) := by decide +kernel
theorem dL_law_1273 : decode cL_law 1273 = .ok (.iconst 1, 1) := by decide +kernel
theorem dL_law_1274 : decode cL_law 1274 = .ok (.iadd, 1) := by decide +kernel
theorem dL_law_1275 : decode cL_law 1275 = .ok (.iaload, 1) := by decide +kernel
theorem dL_law_1276 : decode cL_law 1276 = .ok (.invokevirtual 201, 3) := by decide +kernel
theorem dL_law_1279 : decode cL_law 1279 = .ok (.aload_n 2, 1) := by decide +kernel
theorem dL_law_1280 : decode cL_law 1280 = .ok (.aload_n 0, 1) := by decide +kernel
theorem dL_law_1281 : decode cL_law 1281 = .ok (.iload 4, 2) := by decide +kernel
theorem dL_law_1283 : decode cL_law 1283 = .ok (.iconst 1, 1) := by decide +kernel
theorem dL_law_1284 : decode cL_law 1284 = .ok (.iadd, 1) := by decide +kernel
theorem dL_law_1285 : decode cL_law 1285 = .ok (.iaload, 1) := by decide +kernel
theorem dL_law_1286 : decode cL_law 1286 = .ok (.invokevirtual 204, 3) := by decide +kernel
theorem dL_law_1289 : decode cL_law 1289 = .ok (.if_icmp .eq 110, 3) := by decide +kernel
theorem dL_law_1292 : decode cL_law 1292 = .ok (.iconst 0, 1) := by decide +kernel
theorem dL_law_1293 : decode cL_law 1293 = .ok (.ireturn, 1) := by decide +kernel
theorem dL_law_1294 : decode cL_law 1294 = .ok (.aload_n 1, 1) := by decide +kernel
theorem dL_law_1295 : decode cL_law 1295 = .ok (.aload_n 0, 1) := by decide +kernel
theorem dL_law_1296 : decode cL_law 1296 = .ok (.iload 4, 2) := by decide +kernel
theorem dL_law_1298 : decode cL_law 1298 = .ok (.iconst 1, 1) := by decide +kernel
theorem dL_law_1299 : decode cL_law 1299 = .ok (.iadd, 1) := by decide +kernel
theorem dL_law_1300 : decode cL_law 1300 = .ok (.iaload, 1) := by decide +kernel
theorem dL_law_1301 : decode cL_law 1301 = .ok (.invokevirtual 205, 3) := by decide +kernel
theorem dL_law_1304 : decode cL_law 1304 = .ok (.aload_n 2, 1) := by decide +kernel
theorem dL_law_1305 : decode cL_law 1305 = .ok (.aload_n 0, 1) := by decide +kernel
theorem dL_law_1306 : decode cL_law 1306 = .ok (.iload 4, 2) := by decide +kernel
theorem dL_law_1308 : decode cL_law 1308 = .ok (.iconst 1, 1) := by decide +kernel
theorem dL_law_1309 : decode cL_law 1309 = .ok (.iadd, 1) := by decide +kernel
theorem dL_law_1310 : decode cL_law 1310 = .ok (.iaload, 1) := by decide +kernel
theorem dL_law_1311 : decode cL_law 1311 = .ok (.invokevirtual 208, 3) := by decide +kernel
theorem dL_law_1314 : decode cL_law 1314 = .ok (.if_icmp .eq 85, 3) := by decide +kernel
theorem dL_law_1317 : decode cL_law 1317 = .ok (.iconst 0, 1) := by decide +kernel
theorem dL_law_1318 : decode cL_law 1318 = .ok (.ireturn, 1) := by decide +kernel
theorem dL_law_1319 : decode cL_law 1319 = .ok (.aload_n 1, 1) := by decide +kernel
theorem dL_law_1320 : decode cL_law 1320 = .ok (.aload_n 0, 1) := by decide +kernel
theorem dL_law_1321 : decode cL_law 1321 = .ok (.iload 4, 2) := by decide +kernel
theorem dL_law_1323 : decode cL_law 1323 = .ok (.iconst 1, 1) := by decide +kernel
theorem dL_law_1324 : decode cL_law 1324 = .ok (.iadd, 1) := by decide +kernel
theorem dL_law_1325 : decode cL_law 1325 = .ok (.iaload, 1) := by decide +kernel
theorem dL_law_1326 : decode cL_law 1326 = .ok (.invokevirtual 209, 3) := by decide +kernel
theorem dL_law_1329 : decode cL_law 1329 = .ok (.aload_n 2, 1) := by decide +kernel
theorem dL_law_1330 : decode cL_law 1330 = .ok (.aload_n 0, 1) := by decide +kernel
theorem dL_law_1331 : decode cL_law 1331 = .ok (.iload 4, 2) := by decide +kernel
theorem dL_law_1333 : decode cL_law 1333 = .ok (.iconst 1, 1) := by decide +kernel
theorem dL_law_1334 : decode cL_law 1334 = .ok (.iadd, 1) := by decide +kernel
theorem dL_law_1335 : decode cL_law 1335 = .ok (.iaload, 1) := by decide +kernel
theorem dL_law_1336 : decode cL_law 1336 = .ok (.invokevirtual 212, 3) := by decide +kernel
theorem dL_law_1339 : decode cL_law 1339 = .ok (.if_icmp .eq 60, 3) := by decide +kernel
theorem dL_law_1342 : decode cL_law 1342 = .ok (.iconst 0, 1) := by decide +kernel
theorem dL_law_1343 : decode cL_law 1343 = .ok (.ireturn, 1) := by decide +kernel
theorem dL_law_1344 : decode cL_law 1344 = .ok (.aload_n 1, 1) := by decide +kernel
theorem dL_law_1345 : decode cL_law 1345 = .ok (.aload_n 0, 1) := by decide +kernel
theorem dL_law_1346 : decode cL_law 1346 = .ok (.iload 4, 2) := by decide +kernel
theorem dL_law_1348 : decode cL_law 1348 = .ok (.iconst 1, 1) := by decide +kernel
theorem dL_law_1349 : decode cL_law 1349 = .ok (.iadd, 1) := by decide +kernel
theorem dL_law_1350 : decode cL_law 1350 = .ok (.iaload, 1) := by decide +kernel
theorem dL_law_1351 : decode cL_law 1351 = .ok (.aload_n 3, 1) := by decide +kernel
theorem dL_law_1352 : decode cL_law 1352 = .ok (.invokestatic 213, 3) := by decide +kernel
theorem dL_law_1355 : decode cL_law 1355 = .ok (.istore 5, 2) := by decide +kernel
theorem dL_law_1357 : decode cL_law 1357 = .ok (.aload_n 2, 1) := by decide +kernel
theorem dL_law_1358 : decode cL_law 1358 = .ok (.aload_n 0, 1) := by decide +kernel
theorem dL_law_1359 : decode cL_law 1359 = .ok (.iload 4, 2) := by decide +kernel
theorem dL_law_1361 : decode cL_law 1361 = .ok (.iconst 1, 1) := by decide +kernel
theorem dL_law_1362 : decode cL_law 1362 = .ok (.iadd, 1) := by decide +kernel
theorem dL_law_1363 : decode cL_law 1363 = .ok (.iaload, 1) := by decide +kernel
theorem dL_law_1364 : decode cL_law 1364 = .ok (.invokevirtual 216, 3) := by decide +kernel
theorem dL_law_1367 : decode cL_law 1367 = .ok (.lstore 6, 2) := by decide +kernel
theorem dL_law_1369 : decode cL_law 1369 = .ok (.aload_n 2, 1) := by decide +kernel
theorem dL_law_1370 : decode cL_law 1370 = .ok (.invokevirtual 56, 3) := by decide +kernel
theorem dL_law_1373 : decode cL_law 1373 = .ok (.iload 5, 2) := by decide +kernel
theorem dL_law_1375 : decode cL_law 1375 = .ok (.if_icmp .eq 5, 3) := by decide +kernel
theorem dL_law_1378 : decode cL_law 1378 = .ok (.iconst 0, 1) := by decide +kernel
theorem dL_law_1379 : decode cL_law 1379 = .ok (.ireturn, 1) := by decide +kernel
theorem dL_law_1380 : decode cL_law 1380 = .ok (.iload 5, 2) := by decide +kernel
theorem dL_law_1382 : decode cL_law 1382 = .ok (.ifCond .ne 14, 3) := by decide +kernel
theorem dL_law_1385 : decode cL_law 1385 = .ok (.aload_n 3, 1) := by decide +kernel
theorem dL_law_1386 : decode cL_law 1386 = .ok (.iconst 0, 1) := by decide +kernel
theorem dL_law_1387 : decode cL_law 1387 = .ok (.laload, 1) := by decide +kernel
theorem dL_law_1388 : decode cL_law 1388 = .ok (.lload 6, 2) := by decide +kernel
theorem dL_law_1390 : decode cL_law 1390 = .ok (.lcmp, 1) := by decide +kernel
theorem dL_law_1391 : decode cL_law 1391 = .ok (.ifCond .eq 5, 3) := by decide +kernel
theorem dL_law_1394 : decode cL_law 1394 = .ok (.iconst 0, 1) := by decide +kernel
theorem dL_law_1395 : decode cL_law 1395 = .ok (.ireturn, 1) := by decide +kernel
theorem dL_law_1396 : decode cL_law 1396 = .ok (.goto 3, 3) := by decide +kernel
theorem dL_law_1399 : decode cL_law 1399 = .ok (.iinc 4 5, 3) := by decide +kernel
theorem dL_law_1402 : decode cL_law 1402 = .ok (.goto (-1379), 3) := by decide +kernel
theorem dL_law_1405 : decode cL_law 1405 = .ok (.iconst 1, 1) := by decide +kernel
theorem dL_law_1406 : decode cL_law 1406 = .ok (.ireturn, 1) := by decide +kernel
