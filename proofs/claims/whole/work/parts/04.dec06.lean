theorem dX12_row_34 : decode cX12_row 34 = .ok (.iload_n 3, 1) := by decide +kernel
theorem dX12_row_35 : decode cX12_row 35 = .ok (.iconst 0, 1) := by decide +kernel
theorem dX12_row_36 : decode cX12_row 36 = .ok (.aload_n 0, 1) := by decide +kernel
theorem dX12_row_37 : decode cX12_row 37 = .ok (.getfield 32, 3) := by decide +kernel
theorem dX12_row_40 : decode cX12_row 40 = .ok (.iload 4, 2) := by decide +kernel
theorem dX12_row_42 : decode cX12_row 42 = .ok (.iaload, 1) := by decide +kernel
theorem dX12_row_43 : decode cX12_row 43 = .ok (.iconst 1, 1) := by decide +kernel
theorem dX12_row_44 : decode cX12_row 44 = .ok (.isub, 1) := by decide +kernel
theorem dX12_row_45 : decode cX12_row 45 = .ok (.invokestatic 62, 3) := by decide +kernel
theorem dX12_row_48 : decode cX12_row 48 = .ok (.ifCond .ne 5, 3) := by decide +kernel
theorem dX12_row_51 : decode cX12_row 51 = .ok (.iconst (-1), 1) := by decide +kernel
theorem dX12_row_52 : decode cX12_row 52 = .ok (.ireturn, 1) := by decide +kernel
theorem dX12_row_53 : decode cX12_row 53 = .ok (.aload_n 0, 1) := by decide +kernel
theorem dX12_row_54 : decode cX12_row 54 = .ok (.iload 4, 2) := by decide +kernel
theorem dX12_row_56 : decode cX12_row 56 = .ok (.invokevirtual 274, 3) := by decide +kernel
theorem dX12_row_59 : decode cX12_row 59 = .ok (.istore 5, 2) := by decide +kernel
theorem dX12_row_61 : decode cX12_row 61 = .ok (.iconst 0, 1) := by decide +kernel
theorem dX12_row_62 : decode cX12_row 62 = .ok (.istore 6, 2) := by decide +kernel
theorem dX12_row_64 : decode cX12_row 64 = .ok (.iload 6, 2) := by decide +kernel
theorem dX12_row_66 : decode cX12_row 66 = .ok (.iload_n 3, 1) := by decide +kernel
theorem dX12_row_67 : decode cX12_row 67 = .ok (.if_icmp .ge 27, 3) := by decide +kernel
theorem dX12_row_70 : decode cX12_row 70 = .ok (.aload_n 0, 1) := by decide +kernel
theorem dX12_row_71 : decode cX12_row 71 = .ok (.iload 4, 2) := by decide +kernel
theorem dX12_row_73 : decode cX12_row 73 = .ok (.iload 5, 2) := by decide +kernel
theorem dX12_row_75 : decode cX12_row 75 = .ok (.invokevirtual 260, 3) := by decide +kernel
theorem dX12_row_78 : decode cX12_row 78 = .ok (.istore 4, 2) := by decide +kernel
theorem dX12_row_80 : decode cX12_row 80 = .ok (.aload_n 0, 1) := by decide +kernel
theorem dX12_row_81 : decode cX12_row 81 = .ok (.iload 4, 2) := by decide +kernel
theorem dX12_row_83 : decode cX12_row 83 = .ok (.invokevirtual 274, 3) := by decide +kernel
theorem dX12_row_86 : decode cX12_row 86 = .ok (.istore 5, 2) := by decide +kernel
theorem dX12_row_88 : decode cX12_row 88 = .ok (.iinc 6 1, 3) := by decide +kernel
theorem dX12_row_91 : decode cX12_row 91 = .ok (.goto (-27), 3) := by decide +kernel
theorem dX12_row_94 : decode cX12_row 94 = .ok (.iload 5, 2) := by decide +kernel
theorem dX12_row_96 : decode cX12_row 96 = .ok (.ireturn, 1) := by decide +kernel
theorem dX12_left_0 : decode cX12_left 0 = .ok (.aload_n 0, 1) := by decide +kernel
theorem dX12_left_1 : decode cX12_left 1 = .ok (.iconst 0, 1) := by decide +kernel
theorem dX12_left_2 : decode cX12_left 2 = .ok (.putfield 59, 3) := by decide +kernel
theorem dX12_left_5 : decode cX12_left 5 = .ok (.iconst 2, 1) := by decide +kernel
theorem dX12_left_6 : decode cX12_left 6 = .ok (.aload_n 0, 1) := by decide +kernel
theorem dX12_left_7 : decode cX12_left 7 = .ok (.getfield 7, 3) := by decide +kernel
theorem dX12_left_10 : decode cX12_left 10 = .ok (.iconst 1, 1) := by decide +kernel
theorem dX12_left_11 : decode cX12_left 11 = .ok (.iaload, 1) := by decide +kernel
theorem dX12_left_12 : decode cX12_left 12 = .ok (.ishl, 1) := by decide +kernel
theorem dX12_left_13 : decode cX12_left 13 = .ok (.istore_n 1, 1) := by decide +kernel
theorem dX12_left_14 : decode cX12_left 14 = .ok (.iconst 0, 1) := by decide +kernel
theorem dX12_left_15 : decode cX12_left 15 = .ok (.istore_n 2, 1) := by decide +kernel
theorem dX12_left_16 : decode cX12_left 16 = .ok (.iload_n 2, 1) := by decide +kernel
theorem dX12_left_17 : decode cX12_left 17 = .ok (.iload_n 1, 1) := by decide +kernel
theorem dX12_left_18 : decode cX12_left 18 = .ok (.if_icmp .ge 16, 3) := by decide +kernel
theorem dX12_left_21 : decode cX12_left 21 = .ok (.aload_n 0, 1) := by decide +kernel
theorem dX12_left_22 : decode cX12_left 22 = .ok (.getfield 35, 3) := by decide +kernel
theorem dX12_left_25 : decode cX12_left 25 = .ok (.iload_n 2, 1) := by decide +kernel
theorem dX12_left_26 : decode cX12_left 26 = .ok (.iconst 0, 1) := by decide +kernel
theorem dX12_left_27 : decode cX12_left 27 = .ok (.iastore, 1) := by decide +kernel
theorem dX12_left_28 : decode cX12_left 28 = .ok (.iinc 2 1, 3) := by decide +kernel
theorem dX12_left_31 : decode cX12_left 31 = .ok (.goto (-15), 3) := by decide +kernel
theorem dX12_left_34 : decode cX12_left 34 = .ok (.aload_n 0, 1) := by decide +kernel
theorem dX12_left_35 : decode cX12_left 35 = .ok (.getfield 35, 3) := by decide +kernel
theorem dX12_left_38 : decode cX12_left 38 = .ok (.aload_n 0, 1) := by decide +kernel
theorem dX12_left_39 : decode cX12_left 39 = .ok (.invokevirtual 271, 3) := by decide +kernel
theorem dX12_left_42 : decode cX12_left 42 = .ok (.iconst 1, 1) := by decide +kernel
theorem dX12_left_43 : decode cX12_left 43 = .ok (.iastore, 1) := by decide +kernel
theorem dX12_left_44 : decode cX12_left 44 = .ok (.iconst 1, 1) := by decide +kernel
theorem dX12_left_45 : decode cX12_left 45 = .ok (.istore_n 2, 1) := by decide +kernel
theorem dX12_left_46 : decode cX12_left 46 = .ok (.iload_n 2, 1) := by decide +kernel
theorem dX12_left_47 : decode cX12_left 47 = .ok (.ifCond .eq 123, 3) := by decide +kernel
theorem dX12_left_50 : decode cX12_left 50 = .ok (.iconst 0, 1) := by decide +kernel
theorem dX12_left_51 : decode cX12_left 51 = .ok (.istore_n 2, 1) := by decide +kernel
theorem dX12_left_52 : decode cX12_left 52 = .ok (.iconst 0, 1) := by decide +kernel
theorem dX12_left_53 : decode cX12_left 53 = .ok (.istore_n 3, 1) := by decide +kernel
theorem dX12_left_54 : decode cX12_left 54 = .ok (.iload_n 3, 1) := by decide +kernel
theorem dX12_left_55 : decode cX12_left 55 = .ok (.iload_n 1, 1) := by decide +kernel
theorem dX12_left_56 : decode cX12_left 56 = .ok (.if_icmp .ge 111, 3) := by decide +kernel
theorem dX12_left_59 : decode cX12_left 59 = .ok (.aload_n 0, 1) := by decide +kernel
theorem dX12_left_60 : decode cX12_left 60 = .ok (.getfield 35, 3) := by decide +kernel
theorem dX12_left_63 : decode cX12_left 63 = .ok (.iload_n 3, 1) := by decide +kernel
theorem dX12_left_64 : decode cX12_left 64 = .ok (.iaload, 1) := by decide +kernel
theorem dX12_left_65 : decode cX12_left 65 = .ok (.iconst 1, 1) := by decide +kernel
theorem dX12_left_66 : decode cX12_left 66 = .ok (.if_icmp .eq 6, 3) := by decide +kernel
theorem dX12_left_69 : decode cX12_left 69 = .ok (.goto 92, 3) := by decide +kernel
theorem dX12_left_72 : decode cX12_left 72 = .ok (.aload_n 0, 1) := by decide +kernel
theorem dX12_left_73 : decode cX12_left 73 = .ok (.getfield 35, 3) := by decide +kernel
theorem dX12_left_76 : decode cX12_left 76 = .ok (.iload_n 3, 1) := by decide +kernel
theorem dX12_left_77 : decode cX12_left 77 = .ok (.iconst 2, 1) := by decide +kernel
theorem dX12_left_78 : decode cX12_left 78 = .ok (.iastore, 1) := by decide +kernel
theorem dX12_left_79 : decode cX12_left 79 = .ok (.iconst 1, 1) := by decide +kernel
theorem dX12_left_80 : decode cX12_left 80 = .ok (.istore_n 2, 1) := by decide +kernel
theorem dX12_left_81 : decode cX12_left 81 = .ok (.iconst 0, 1) := by decide +kernel
theorem dX12_left_82 : decode cX12_left 82 = .ok (.istore 4, 2) := by decide +kernel
theorem dX12_left_84 : decode cX12_left 84 = .ok (.iload 4, 2) := by decide +kernel
theorem dX12_left_86 : decode cX12_left 86 = .ok (.sipush 1024, 3) := by decide +kernel
theorem dX12_left_89 : decode cX12_left 89 = .ok (.aload_n 0, 1) := by decide +kernel
theorem dX12_left_90 : decode cX12_left 90 = .ok (.getfield 7, 3) := by decide +kernel
theorem dX12_left_93 : decode cX12_left 93 = .ok (.iconst 1, 1) := by decide +kernel
theorem dX12_left_94 : decode cX12_left 94 = .ok (.iaload, 1) := by decide +kernel
theorem dX12_left_95 : decode cX12_left 95 = .ok (.iadd, 1) := by decide +kernel
theorem dX12_left_96 : decode cX12_left 96 = .ok (.if_icmp .ge 65, 3) := by decide +kernel
theorem dX12_left_99 : decode cX12_left 99 = .ok (.iload 4, 2) := by decide +kernel
theorem dX12_left_101 : decode cX12_left 101 = .ok (.sipush 1024, 3) := by decide +kernel
theorem dX12_left_104 : decode cX12_left 104 = .ok (.if_icmp .ge 18, 3) := by decide +kernel
theorem dX12_left_107 : decode cX12_left 107 = .ok (.iload 4, 2) := by decide +kernel
theorem dX12_left_109 : decode cX12_left 109 = .ok (.aload_n 0, 1) := by decide +kernel
theorem dX12_left_110 : decode cX12_left 110 = .ok (.invokevirtual 208, 3) := by decide +kernel
theorem dX12_left_113 : decode cX12_left 113 = .ok (.iconst (-1), 1) := by decide +kernel
theorem dX12_left_114 : decode cX12_left 114 = .ok (.ixor, 1) := by decide +kernel
theorem dX12_left_115 : decode cX12_left 115 = .ok (.iand, 1) := by decide +kernel
theorem dX12_left_116 : decode cX12_left 116 = .ok (.ifCond .eq 6, 3) := by decide +kernel
theorem dX12_left_119 : decode cX12_left 119 = .ok (.goto 36, 3) := by decide +kernel
theorem dX12_left_122 : decode cX12_left 122 = .ok (.aload_n 0, 1) := by decide +kernel
theorem dX12_left_123 : decode cX12_left 123 = .ok (.iload_n 3, 1) := by decide +kernel
theorem dX12_left_124 : decode cX12_left 124 = .ok (.iload 4, 2) := by decide +kernel
theorem dX12_left_126 : decode cX12_left 126 = .ok (.invokevirtual 260, 3) := by decide +kernel
theorem dX12_left_129 : decode cX12_left 129 = .ok (.istore 5, 2) := by decide +kernel
theorem dX12_left_131 : decode cX12_left 131 = .ok (.iload 5, 2) := by decide +kernel
theorem dX12_left_133 : decode cX12_left 133 = .ok (.iconst (-1), 1) := by decide +kernel
theorem dX12_left_134 : decode cX12_left 134 = .ok (.if_icmp .eq 21, 3) := by decide +kernel
theorem dX12_left_137 : decode cX12_left 137 = .ok (.aload_n 0, 1) := by decide +kernel
theorem dX12_left_138 : decode cX12_left 138 = .ok (.getfield 35, 3) := by decide +kernel
theorem dX12_left_141 : decode cX12_left 141 = .ok (.iload 5, 2) := by decide +kernel
theorem dX12_left_143 : decode cX12_left 143 = .ok (.iaload, 1) := by decide +kernel
theorem dX12_left_144 : decode cX12_left 144 = .ok (.ifCond .ne 11, 3) := by decide +kernel
theorem dX12_left_147 : decode cX12_left 147 = .ok (.aload_n 0, 1) := by decide +kernel
theorem dX12_left_148 : decode cX12_left 148 = .ok (.getfield 35, 3) := by decide +kernel
theorem dX12_left_151 : decode cX12_left 151 = .ok (.iload 5, 2) := by decide +kernel
theorem dX12_left_153 : decode cX12_left 153 = .ok (.iconst 1, 1) := by decide +kernel
theorem dX12_left_154 : decode cX12_left 154 = .ok (.iastore, 1) := by decide +kernel
theorem dX12_left_155 : decode cX12_left 155 = .ok (.iinc 4 1, 3) := by decide +kernel
theorem dX12_left_158 : decode cX12_left 158 = .ok (.goto (-74), 3) := by decide +kernel
theorem dX12_left_161 : decode cX12_left 161 = .ok (.iinc 3 1, 3) := by decide +kernel
theorem dX12_left_164 : decode cX12_left 164 = .ok (.goto (-110), 3) := by decide +kernel
theorem dX12_left_167 : decode cX12_left 167 = .ok (.goto (-121), 3) := by decide +kernel
theorem dX12_left_170 : decode cX12_left 170 = .ok (.iconst (-1), 1) := by decide +kernel
theorem dX12_left_171 : decode cX12_left 171 = .ok (.istore_n 3, 1) := by decide +kernel
theorem dX12_left_172 : decode cX12_left 172 = .ok (.iconst 0, 1) := by decide +kernel
theorem dX12_left_173 : decode cX12_left 173 = .ok (.istore 4, 2) := by decide +kernel
theorem dX12_left_175 : decode cX12_left 175 = .ok (.iconst 1, 1) := by decide +kernel
theorem dX12_left_176 : decode cX12_left 176 = .ok (.aload_n 0, 1) := by decide +kernel
theorem dX12_left_177 : decode cX12_left 177 = .ok (.getfield 7, 3) := by decide +kernel
theorem dX12_left_180 : decode cX12_left 180 = .ok (.iconst 1, 1) := by decide +kernel
theorem dX12_left_181 : decode cX12_left 181 = .ok (.iaload, 1) := by decide +kernel
theorem dX12_left_182 : decode cX12_left 182 = .ok (.ishl, 1) := by decide +kernel
theorem dX12_left_183 : decode cX12_left 183 = .ok (.iconst 1, 1) := by decide +kernel
theorem dX12_left_184 : decode cX12_left 184 = .ok (.isub, 1) := by decide +kernel
theorem dX12_left_185 : decode cX12_left 185 = .ok (.istore 5, 2) := by decide +kernel
theorem dX12_left_187 : decode cX12_left 187 = .ok (.iload 5, 2) := by decide +kernel
theorem dX12_left_189 : decode cX12_left 189 = .ok (.ifCond .lt 127, 3) := by decide +kernel
theorem dX12_left_192 : decode cX12_left 192 = .ok (.aload_n 0, 1) := by decide +kernel
theorem dX12_left_193 : decode cX12_left 193 = .ok (.getfield 35, 3) := by decide +kernel
theorem dX12_left_196 : decode cX12_left 196 = .ok (.iconst 2, 1) := by decide +kernel
theorem dX12_left_197 : decode cX12_left 197 = .ok (.iload 5, 2) := by decide +kernel
theorem dX12_left_199 : decode cX12_left 199 = .ok (.imul, 1) := by decide +kernel
theorem dX12_left_200 : decode cX12_left 200 = .ok (.iaload, 1) := by decide +kernel
theorem dX12_left_201 : decode cX12_left 201 = .ok (.ifCond .ne 20, 3) := by decide +kernel
theorem dX12_left_204 : decode cX12_left 204 = .ok (.aload_n 0, 1) := by decide +kernel
theorem dX12_left_205 : decode cX12_left 205 = .ok (.getfield 35, 3) := by decide +kernel
theorem dX12_left_208 : decode cX12_left 208 = .ok (.iconst 2, 1) := by decide +kernel
theorem dX12_left_209 : decode cX12_left 209 = .ok (.iload 5, 2) := by decide +kernel
theorem dX12_left_211 : decode cX12_left 211 = .ok (.imul, 1) := by decide +kernel
theorem dX12_left_212 : decode cX12_left 212 = .ok (.iconst 1, 1) := by decide +kernel
theorem dX12_left_213 : decode cX12_left 213 = .ok (.iadd, 1) := by decide +kernel
theorem dX12_left_214 : decode cX12_left 214 = .ok (.iaload, 1) := by decide +kernel
theorem dX12_left_215 : decode cX12_left 215 = .ok (.ifCond .ne 6, 3) := by decide +kernel
theorem dX12_left_218 : decode cX12_left 218 = .ok (.goto 92, 3) := by decide +kernel
theorem dX12_left_221 : decode cX12_left 221 = .ok (.iconst 0, 1) := by decide +kernel
theorem dX12_left_222 : decode cX12_left 222 = .ok (.istore 6, 2) := by decide +kernel
theorem dX12_left_224 : decode cX12_left 224 = .ok (.iconst 0, 1) := by decide +kernel
theorem dX12_left_225 : decode cX12_left 225 = .ok (.istore 7, 2) := by decide +kernel
theorem dX12_left_227 : decode cX12_left 227 = .ok (.iload 7, 2) := by decide +kernel
theorem dX12_left_229 : decode cX12_left 229 = .ok (.aload_n 0, 1) := by decide +kernel
theorem dX12_left_230 : decode cX12_left 230 = .ok (.getfield 7, 3) := by decide +kernel
theorem dX12_left_233 : decode cX12_left 233 = .ok (.iconst 1, 1) := by decide +kernel
theorem dX12_left_234 : decode cX12_left 234 = .ok (.iaload, 1) := by decide +kernel
theorem dX12_left_235 : decode cX12_left 235 = .ok (.if_icmp .ge 29, 3) := by decide +kernel
theorem dX12_left_238 : decode cX12_left 238 = .ok (.iload 6, 2) := by decide +kernel
theorem dX12_left_240 : decode cX12_left 240 = .ok (.iload 5, 2) := by decide +kernel
theorem dX12_left_242 : decode cX12_left 242 = .ok (.iload 7, 2) := by decide +kernel
theorem dX12_left_244 : decode cX12_left 244 = .ok (.invokestatic 70, 3) := by decide +kernel
theorem dX12_left_247 : decode cX12_left 247 = .ok (.ifCond .eq 7, 3) := by decide +kernel
theorem dX12_left_250 : decode cX12_left 250 = .ok (.iconst 0, 1) := by decide +kernel
theorem dX12_left_251 : decode cX12_left 251 = .ok (.goto 4, 3) := by decide +kernel
theorem dX12_left_254 : decode cX12_left 254 = .ok (.iconst 1, 1) := by decide +kernel
theorem dX12_left_255 : decode cX12_left 255 = .ok (.iadd, 1) := by decide +kernel
theorem dX12_left_256 : decode cX12_left 256 = .ok (.istore 6, 2) := by decide +kernel
theorem dX12_left_258 : decode cX12_left 258 = .ok (.iinc 7 1, 3) := by decide +kernel
theorem dX12_left_261 : decode cX12_left 261 = .ok (.goto (-34), 3) := by decide +kernel
theorem dX12_left_264 : decode cX12_left 264 = .ok (.aload_n 0, 1) := by decide +kernel
theorem dX12_left_265 : decode cX12_left 265 = .ok (.invokevirtual 208, 3) := by decide +kernel
theorem dX12_left_268 : decode cX12_left 268 = .ok (.iload 5, 2) := by decide +kernel
theorem dX12_left_270 : decode cX12_left 270 = .ok (.iconst (-1), 1) := by decide +kernel
theorem dX12_left_271 : decode cX12_left 271 = .ok (.ixor, 1) := by decide +kernel
theorem dX12_left_272 : decode cX12_left 272 = .ok (.iand, 1) := by decide +kernel
theorem dX12_left_273 : decode cX12_left 273 = .ok (.istore 7, 2) := by decide +kernel
theorem dX12_left_275 : decode cX12_left 275 = .ok (.iload_n 3, 1) := by decide +kernel
theorem dX12_left_276 : decode cX12_left 276 = .ok (.iconst (-1), 1) := by decide +kernel
theorem dX12_left_277 : decode cX12_left 277 = .ok (.if_icmp .eq 26, 3) := by decide +kernel
theorem dX12_left_280 : decode cX12_left 280 = .ok (.iload 6, 2) := by decide +kernel
theorem dX12_left_282 : decode cX12_left 282 = .ok (.iload 4, 2) := by decide +kernel
theorem dX12_left_284 : decode cX12_left 284 = .ok (.if_icmp .gt 26, 3) := by decide +kernel
theorem dX12_left_287 : decode cX12_left 287 = .ok (.iload 6, 2) := by decide +kernel
theorem dX12_left_289 : decode cX12_left 289 = .ok (.iload 4, 2) := by decide +kernel
theorem dX12_left_291 : decode cX12_left 291 = .ok (.if_icmp .ne 12, 3) := by decide +kernel
theorem dX12_left_294 : decode cX12_left 294 = .ok (.iload 7, 2) := by decide +kernel
theorem dX12_left_296 : decode cX12_left 296 = .ok (.iload_n 3, 1) := by decide +kernel
theorem dX12_left_297 : decode cX12_left 297 = .ok (.if_icmp .le 6, 3) := by decide +kernel
theorem dX12_left_300 : decode cX12_left 300 = .ok (.goto 10, 3) := by decide +kernel
theorem dX12_left_303 : decode cX12_left 303 = .ok (.iload 7, 2) := by decide +kernel
theorem dX12_left_305 : decode cX12_left 305 = .ok (.istore_n 3, 1) := by decide +kernel
theorem dX12_left_306 : decode cX12_left 306 = .ok (.iload 6, 2) := by decide +kernel
theorem dX12_left_308 : decode cX12_left 308 = .ok (.istore 4, 2) := by decide +kernel
theorem dX12_left_310 : decode cX12_left 310 = .ok (.iinc 5 (-1), 3) := by decide +kernel
theorem dX12_left_313 : decode cX12_left 313 = .ok (.goto (-126), 3) := by decide +kernel
theorem dX12_left_316 : decode cX12_left 316 = .ok (.iload_n 3, 1) := by decide +kernel
theorem dX12_left_317 : decode cX12_left 317 = .ok (.ireturn, 1) := by decide +kernel
theorem dX12_tellsOrders_0 : decode cX12_tellsOrders 0 = .ok (.iload_n 1, 1) := by decide +kernel
theorem dX12_tellsOrders_1 : decode cX12_tellsOrders 1 = .ok (.aload_n 0, 1) := by decide +kernel
theorem dX12_tellsOrders_2 : decode cX12_tellsOrders 2 = .ok (.getfield 277, 3) := by decide +kernel
theorem dX12_tellsOrders_5 : decode cX12_tellsOrders 5 = .ok (.if_icmp .ne 51, 3) := by decide +kernel
theorem dX12_tellsOrders_8 : decode cX12_tellsOrders 8 = .ok (.aload_n 0, 1) := by decide +kernel
theorem dX12_tellsOrders_9 : decode cX12_tellsOrders 9 = .ok (.dup, 1) := by decide +kernel
theorem dX12_tellsOrders_10 : decode cX12_tellsOrders 10 = .ok (.getfield 280, 3) := by decide +kernel
theorem dX12_tellsOrders_13 : decode cX12_tellsOrders 13 = .ok (.iconst 1, 1) := by decide +kernel
theorem dX12_tellsOrders_14 : decode cX12_tellsOrders 14 = .ok (.iadd, 1) := by decide +kernel
theorem dX12_tellsOrders_15 : decode cX12_tellsOrders 15 = .ok (.putfield 280, 3) := by decide +kernel
theorem dX12_tellsOrders_18 : decode cX12_tellsOrders 18 = .ok (.aload_n 0, 1) := by decide +kernel
theorem dX12_tellsOrders_19 : decode cX12_tellsOrders 19 = .ok (.getfield 280, 3) := by decide +kernel
theorem dX12_tellsOrders_22 : decode cX12_tellsOrders 22 = .ok (.iconst 1, 1) := by decide +kernel
theorem dX12_tellsOrders_23 : decode cX12_tellsOrders 23 = .ok (.if_icmp .ne 32, 3) := by decide +kernel
theorem dX12_tellsOrders_26 : decode cX12_tellsOrders 26 = .ok (.iconst 0, 1) := by decide +kernel
theorem dX12_tellsOrders_27 : decode cX12_tellsOrders 27 = .ok (.istore 4, 2) := by decide +kernel
theorem dX12_tellsOrders_29 : decode cX12_tellsOrders 29 = .ok (.iload 4, 2) := by decide +kernel
theorem dX12_tellsOrders_31 : decode cX12_tellsOrders 31 = .ok (.iload_n 1, 1) := by decide +kernel
theorem dX12_tellsOrders_32 : decode cX12_tellsOrders 32 = .ok (.if_icmp .ge 23, 3) := by decide +kernel
theorem dX12_tellsOrders_35 : decode cX12_tellsOrders 35 = .ok (.aload_n 0, 1) := by decide +kernel
theorem dX12_tellsOrders_36 : decode cX12_tellsOrders 36 = .ok (.getfield 44, 3) := by decide +kernel
theorem dX12_tellsOrders_39 : decode cX12_tellsOrders 39 = .ok (.iload 4, 2) := by decide +kernel
theorem dX12_tellsOrders_41 : decode cX12_tellsOrders 41 = .ok (.aload_n 0, 1) := by decide +kernel
theorem dX12_tellsOrders_42 : decode cX12_tellsOrders 42 = .ok (.getfield 41, 3) := by decide +kernel
theorem dX12_tellsOrders_45 : decode cX12_tellsOrders 45 = .ok (.iload 4, 2) := by decide +kernel
theorem dX12_tellsOrders_47 : decode cX12_tellsOrders 47 = .ok (.iaload, 1) := by decide +kernel
theorem dX12_tellsOrders_48 : decode cX12_tellsOrders 48 = .ok (.iastore, 1) := by decide +kernel
theorem dX12_tellsOrders_49 : decode cX12_tellsOrders 49 = .ok (.iinc 4 1, 3) := by decide +kernel
theorem dX12_tellsOrders_52 : decode cX12_tellsOrders 52 = .ok (.goto (-23), 3) := by decide +kernel
theorem dX12_tellsOrders_55 : decode cX12_tellsOrders 55 = .ok (.return_, 1) := by decide +kernel
theorem dX12_tellsOrders_56 : decode cX12_tellsOrders 56 = .ok (.iconst 0, 1) := by decide +kernel
theorem dX12_tellsOrders_57 : decode cX12_tellsOrders 57 = .ok (.istore 4, 2) := by decide +kernel
theorem dX12_tellsOrders_59 : decode cX12_tellsOrders 59 = .ok (.iload 4, 2) := by decide +kernel
theorem dX12_tellsOrders_61 : decode cX12_tellsOrders 61 = .ok (.aload_n 0, 1) := by decide +kernel
theorem dX12_tellsOrders_62 : decode cX12_tellsOrders 62 = .ok (.getfield 277, 3) := by decide +kernel
theorem dX12_tellsOrders_65 : decode cX12_tellsOrders 65 = .ok (.if_icmp .ge 88, 3) := by decide +kernel
theorem dX12_tellsOrders_68 : decode cX12_tellsOrders 68 = .ok (.iload_n 2, 1) := by decide +kernel
theorem dX12_tellsOrders_69 : decode cX12_tellsOrders 69 = .ok (.iload 4, 2) := by decide +kernel
theorem dX12_tellsOrders_71 : decode cX12_tellsOrders 71 = .ok (.invokestatic 70, 3) := by decide +kernel
theorem dX12_tellsOrders_74 : decode cX12_tellsOrders 74 = .ok (.ifCond .eq 6, 3) := by decide +kernel
theorem dX12_tellsOrders_77 : decode cX12_tellsOrders 77 = .ok (.goto 70, 3) := by decide +kernel
theorem dX12_tellsOrders_80 : decode cX12_tellsOrders 80 = .ok (.aload_n 0, 1) := by decide +kernel
theorem dX12_tellsOrders_81 : decode cX12_tellsOrders 81 = .ok (.getfield 38, 3) := by decide +kernel
theorem dX12_tellsOrders_84 : decode cX12_tellsOrders 84 = .ok (.iload 4, 2) := by decide +kernel
theorem dX12_tellsOrders_86 : decode cX12_tellsOrders 86 = .ok (.iaload, 1) := by decide +kernel
theorem dX12_tellsOrders_87 : decode cX12_tellsOrders 87 = .ok (.aload_n 0, 1) := by decide +kernel
theorem dX12_tellsOrders_88 : decode cX12_tellsOrders 88 = .ok (.invokevirtual 208, 3) := by decide +kernel
theorem dX12_tellsOrders_91 : decode cX12_tellsOrders 91 = .ok (.iconst (-1), 1) := by decide +kernel
theorem dX12_tellsOrders_92 : decode cX12_tellsOrders 92 = .ok (.ixor, 1) := by decide +kernel
theorem dX12_tellsOrders_93 : decode cX12_tellsOrders 93 = .ok (.iand, 1) := by decide +kernel
theorem dX12_tellsOrders_94 : decode cX12_tellsOrders 94 = .ok (.ifCond .eq 7, 3) := by decide +kernel
theorem dX12_tellsOrders_97 : decode cX12_tellsOrders 97 = .ok (.iconst (-1), 1) := by decide +kernel
theorem dX12_tellsOrders_98 : decode cX12_tellsOrders 98 = .ok (.goto 15, 3) := by decide +kernel
theorem dX12_tellsOrders_101 : decode cX12_tellsOrders 101 = .ok (.aload_n 0, 1) := by decide +kernel
theorem dX12_tellsOrders_102 : decode cX12_tellsOrders 102 = .ok (.iload_n 3, 1) := by decide +kernel
theorem dX12_tellsOrders_103 : decode cX12_tellsOrders 103 = .ok (.aload_n 0, 1) := by decide +kernel
theorem dX12_tellsOrders_104 : decode cX12_tellsOrders 104 = .ok (.getfield 38, 3) := by decide +kernel
theorem dX12_tellsOrders_107 : decode cX12_tellsOrders 107 = .ok (.iload 4, 2) := by decide +kernel
theorem dX12_tellsOrders_109 : decode cX12_tellsOrders 109 = .ok (.iaload, 1) := by decide +kernel
theorem dX12_tellsOrders_110 : decode cX12_tellsOrders 110 = .ok (.invokevirtual 260, 3) := by decide +kernel
theorem dX12_tellsOrders_113 : decode cX12_tellsOrders 113 = .ok (.istore 5, 2) := by decide +kernel
theorem dX12_tellsOrders_115 : decode cX12_tellsOrders 115 = .ok (.iload 5, 2) := by decide +kernel
theorem dX12_tellsOrders_117 : decode cX12_tellsOrders 117 = .ok (.iconst (-1), 1) := by decide +kernel
theorem dX12_tellsOrders_118 : decode cX12_tellsOrders 118 = .ok (.if_icmp .ne 6, 3) := by decide +kernel
theorem dX12_tellsOrders_121 : decode cX12_tellsOrders 121 = .ok (.goto 26, 3) := by decide +kernel
theorem dX12_tellsOrders_124 : decode cX12_tellsOrders 124 = .ok (.aload_n 0, 1) := by decide +kernel
theorem dX12_tellsOrders_125 : decode cX12_tellsOrders 125 = .ok (.getfield 41, 3) := by decide +kernel
theorem dX12_tellsOrders_128 : decode cX12_tellsOrders 128 = .ok (.iload_n 1, 1) := by decide +kernel
theorem dX12_tellsOrders_129 : decode cX12_tellsOrders 129 = .ok (.iload 4, 2) := by decide +kernel
theorem dX12_tellsOrders_131 : decode cX12_tellsOrders 131 = .ok (.iastore, 1) := by decide +kernel
theorem dX12_tellsOrders_132 : decode cX12_tellsOrders 132 = .ok (.aload_n 0, 1) := by decide +kernel
theorem dX12_tellsOrders_133 : decode cX12_tellsOrders 133 = .ok (.iload_n 1, 1) := by decide +kernel
theorem dX12_tellsOrders_134 : decode cX12_tellsOrders 134 = .ok (.iconst 1, 1) := by decide +kernel
theorem dX12_tellsOrders_135 : decode cX12_tellsOrders 135 = .ok (.iadd, 1) := by decide +kernel
theorem dX12_tellsOrders_136 : decode cX12_tellsOrders 136 = .ok (.iload_n 2, 1) := by decide +kernel
theorem dX12_tellsOrders_137 : decode cX12_tellsOrders 137 = .ok (.iconst 1, 1) := by decide +kernel
theorem dX12_tellsOrders_138 : decode cX12_tellsOrders 138 = .ok (.iload 4, 2) := by decide +kernel
theorem dX12_tellsOrders_140 : decode cX12_tellsOrders 140 = .ok (.ishl, 1) := by decide +kernel
theorem dX12_tellsOrders_141 : decode cX12_tellsOrders 141 = .ok (.ior, 1) := by decide +kernel
theorem dX12_tellsOrders_142 : decode cX12_tellsOrders 142 = .ok (.iload 5, 2) := by decide +kernel
theorem dX12_tellsOrders_144 : decode cX12_tellsOrders 144 = .ok (.invokevirtual 283, 3) := by decide +kernel
theorem dX12_tellsOrders_147 : decode cX12_tellsOrders 147 = .ok (.iinc 4 1, 3) := by decide +kernel
theorem dX12_tellsOrders_150 : decode cX12_tellsOrders 150 = .ok (.goto (-91), 3) := by decide +kernel
theorem dX12_tellsOrders_153 : decode cX12_tellsOrders 153 = .ok (.return_, 1) := by decide +kernel
theorem dX12_lost_0 : decode cX12_lost 0 = .ok (.aload_n 0, 1) := by decide +kernel
theorem dX12_lost_1 : decode cX12_lost 1 = .ok (.getfield 82, 3) := by decide +kernel
theorem dX12_lost_4 : decode cX12_lost 4 = .ok (.istore_n 2, 1) := by decide +kernel
theorem dX12_lost_5 : decode cX12_lost 5 = .ok (.aload_n 0, 1) := by decide +kernel
theorem dX12_lost_6 : decode cX12_lost 6 = .ok (.iconst 0, 1) := by decide +kernel
theorem dX12_lost_7 : decode cX12_lost 7 = .ok (.putfield 82, 3) := by decide +kernel
theorem dX12_lost_10 : decode cX12_lost 10 = .ok (.iload_n 2, 1) := by decide +kernel
theorem dX12_lost_11 : decode cX12_lost 11 = .ok (.iconst 2, 1) := by decide +kernel
theorem dX12_lost_12 : decode cX12_lost 12 = .ok (.bipush 12, 2) := by decide +kernel
theorem dX12_lost_14 : decode cX12_lost 14 = .ok (.invokestatic 62, 3) := by decide +kernel
theorem dX12_lost_17 : decode cX12_lost 17 = .ok (.ifCond .eq 18, 3) := by decide +kernel
theorem dX12_lost_20 : decode cX12_lost 20 = .ok (.iload_n 2, 1) := by decide +kernel
theorem dX12_lost_21 : decode cX12_lost 21 = .ok (.iconst 2, 1) := by decide +kernel
theorem dX12_lost_22 : decode cX12_lost 22 = .ok (.irem, 1) := by decide +kernel
theorem dX12_lost_23 : decode cX12_lost 23 = .ok (.ifCond .ne 12, 3) := by decide +kernel
theorem dX12_lost_26 : decode cX12_lost 26 = .ok (.iload_n 1, 1) := by decide +kernel
theorem dX12_lost_27 : decode cX12_lost 27 = .ok (.iconst (-1), 1) := by decide +kernel
theorem dX12_lost_28 : decode cX12_lost 28 = .ok (.if_icmp .lt 7, 3) := by decide +kernel
theorem dX12_lost_31 : decode cX12_lost 31 = .ok (.iconst 1, 1) := by decide +kernel
theorem dX12_lost_32 : decode cX12_lost 32 = .ok (.goto 4, 3) := by decide +kernel
theorem dX12_lost_35 : decode cX12_lost 35 = .ok (.iconst 0, 1) := by decide +kernel
theorem dX12_lost_36 : decode cX12_lost 36 = .ok (.istore_n 3, 1) := by decide +kernel
theorem dX12_lost_37 : decode cX12_lost 37 = .ok (.iconst 0, 1) := by decide +kernel
theorem dX12_lost_38 : decode cX12_lost 38 = .ok (.istore 4, 2) := by decide +kernel
theorem dX12_lost_40 : decode cX12_lost 40 = .ok (.iload 4, 2) := by decide +kernel
theorem dX12_lost_42 : decode cX12_lost 42 = .ok (.iload_n 2, 1) := by decide +kernel
theorem dX12_lost_43 : decode cX12_lost 43 = .ok (.if_icmp .ge 28, 3) := by decide +kernel
theorem dX12_lost_46 : decode cX12_lost 46 = .ok (.iload_n 3, 1) := by decide +kernel
theorem dX12_lost_47 : decode cX12_lost 47 = .ok (.ifCond .eq 24, 3) := by decide +kernel
theorem dX12_lost_50 : decode cX12_lost 50 = .ok (.aload_n 0, 1) := by decide +kernel
theorem dX12_lost_51 : decode cX12_lost 51 = .ok (.getfield 19, 3) := by decide +kernel
theorem dX12_lost_54 : decode cX12_lost 54 = .ok (.iload 4, 2) := by decide +kernel
theorem dX12_lost_56 : decode cX12_lost 56 = .ok (.iaload, 1) := by decide +kernel
theorem dX12_lost_57 : decode cX12_lost 57 = .ok (.bipush 48, 2) := by decide +kernel
theorem dX12_lost_59 : decode cX12_lost 59 = .ok (.bipush 79, 2) := by decide +kernel
theorem dX12_lost_61 : decode cX12_lost 61 = .ok (.invokestatic 62, 3) := by decide +kernel
theorem dX12_lost_64 : decode cX12_lost 64 = .ok (.istore_n 3, 1) := by decide +kernel
theorem dX12_lost_65 : decode cX12_lost 65 = .ok (.iinc 4 1, 3) := by decide +kernel
theorem dX12_lost_68 : decode cX12_lost 68 = .ok (.goto (-28), 3) := by decide +kernel
theorem dX12_lost_71 : decode cX12_lost 71 = .ok (.aload_n 0, 1) := by decide +kernel
theorem dX12_lost_72 : decode cX12_lost 72 = .ok (.iload_n 3, 1) := by decide +kernel
theorem dX12_lost_73 : decode cX12_lost 73 = .ok (.ifCond .ne 7, 3) := by decide +kernel
theorem dX12_lost_76 : decode cX12_lost 76 = .ok (.iconst 1, 1) := by decide +kernel
theorem dX12_lost_77 : decode cX12_lost 77 = .ok (.goto 4, 3) := by decide +kernel
theorem dX12_lost_80 : decode cX12_lost 80 = .ok (.iconst 0, 1) := by decide +kernel
theorem dX12_lost_81 : decode cX12_lost 81 = .ok (.putfield 59, 3) := by decide +kernel
theorem dX12_lost_84 : decode cX12_lost 84 = .ok (.aload_n 0, 1) := by decide +kernel
theorem dX12_lost_85 : decode cX12_lost 85 = .ok (.getfield 59, 3) := by decide +kernel
theorem dX12_lost_88 : decode cX12_lost 88 = .ok (.ifCond .le 5, 3) := by decide +kernel
theorem dX12_lost_91 : decode cX12_lost 91 = .ok (.iconst 0, 1) := by decide +kernel
theorem dX12_lost_92 : decode cX12_lost 92 = .ok (.ireturn, 1) := by decide +kernel
theorem dX12_lost_93 : decode cX12_lost 93 = .ok (.aload_n 0, 1) := by decide +kernel
theorem dX12_lost_94 : decode cX12_lost 94 = .ok (.iload_n 2, 1) := by decide +kernel
theorem dX12_lost_95 : decode cX12_lost 95 = .ok (.iconst 2, 1) := by decide +kernel
theorem dX12_lost_96 : decode cX12_lost 96 = .ok (.idiv, 1) := by decide +kernel
theorem dX12_lost_97 : decode cX12_lost 97 = .ok (.putfield 277, 3) := by decide +kernel
theorem dX12_lost_100 : decode cX12_lost 100 = .ok (.iconst 0, 1) := by decide +kernel
theorem dX12_lost_101 : decode cX12_lost 101 = .ok (.istore 4, 2) := by decide +kernel
theorem dX12_lost_103 : decode cX12_lost 103 = .ok (.iload 4, 2) := by decide +kernel
theorem dX12_lost_105 : decode cX12_lost 105 = .ok (.aload_n 0, 1) := by decide +kernel
theorem dX12_lost_106 : decode cX12_lost 106 = .ok (.getfield 277, 3) := by decide +kernel
theorem dX12_lost_109 : decode cX12_lost 109 = .ok (.if_icmp .ge 46, 3) := by decide +kernel
theorem dX12_lost_112 : decode cX12_lost 112 = .ok (.aload_n 0, 1) := by decide +kernel
theorem dX12_lost_113 : decode cX12_lost 113 = .ok (.getfield 38, 3) := by decide +kernel
theorem dX12_lost_116 : decode cX12_lost 116 = .ok (.iload 4, 2) := by decide +kernel
theorem dX12_lost_118 : decode cX12_lost 118 = .ok (.aload_n 0, 1) := by decide +kernel
theorem dX12_lost_119 : decode cX12_lost 119 = .ok (.getfield 19, 3) := by decide +kernel
theorem dX12_lost_122 : decode cX12_lost 122 = .ok (.iconst 2, 1) := by decide +kernel
theorem dX12_lost_123 : decode cX12_lost 123 = .ok (.iload 4, 2) := by decide +kernel
theorem dX12_lost_125 : decode cX12_lost 125 = .ok (.imul, 1) := by decide +kernel
theorem dX12_lost_126 : decode cX12_lost 126 = .ok (.iaload, 1) := by decide +kernel
theorem dX12_lost_127 : decode cX12_lost 127 = .ok (.bipush 48, 2) := by decide +kernel
theorem dX12_lost_129 : decode cX12_lost 129 = .ok (.isub, 1) := by decide +kernel
theorem dX12_lost_130 : decode cX12_lost 130 = .ok (.bipush 32, 2) := by decide +kernel
theorem dX12_lost_132 : decode cX12_lost 132 = .ok (.aload_n 0, 1) := by decide +kernel
theorem dX12_lost_133 : decode cX12_lost 133 = .ok (.getfield 19, 3) := by decide +kernel
theorem dX12_lost_136 : decode cX12_lost 136 = .ok (.iconst 2, 1) := by decide +kernel
theorem dX12_lost_137 : decode cX12_lost 137 = .ok (.iload 4, 2) := by decide +kernel
theorem dX12_lost_139 : decode cX12_lost 139 = .ok (.imul, 1) := by decide +kernel
theorem dX12_lost_140 : decode cX12_lost 140 = .ok (.iconst 1, 1) := by decide +kernel
theorem dX12_lost_141 : decode cX12_lost 141 = .ok (.iadd, 1) := by decide +kernel
theorem dX12_lost_142 : decode cX12_lost 142 = .ok (.iaload, 1) := by decide +kernel
theorem dX12_lost_143 : decode cX12_lost 143 = .ok (.bipush 48, 2) := by decide +kernel
theorem dX12_lost_145 : decode cX12_lost 145 = .ok (.isub, 1) := by decide +kernel
theorem dX12_lost_146 : decode cX12_lost 146 = .ok (.imul, 1) := by decide +kernel
theorem dX12_lost_147 : decode cX12_lost 147 = .ok (.iadd, 1) := by decide +kernel
theorem dX12_lost_148 : decode cX12_lost 148 = .ok (.iastore, 1) := by decide +kernel
theorem dX12_lost_149 : decode cX12_lost 149 = .ok (.iinc 4 1, 3) := by decide +kernel
theorem dX12_lost_152 : decode cX12_lost 152 = .ok (.goto (-49), 3) := by decide +kernel
theorem dX12_lost_155 : decode cX12_lost 155 = .ok (.aload_n 0, 1) := by decide +kernel
theorem dX12_lost_156 : decode cX12_lost 156 = .ok (.iconst 0, 1) := by decide +kernel
theorem dX12_lost_157 : decode cX12_lost 157 = .ok (.putfield 280, 3) := by decide +kernel
theorem dX12_lost_160 : decode cX12_lost 160 = .ok (.aload_n 0, 1) := by decide +kernel
theorem dX12_lost_161 : decode cX12_lost 161 = .ok (.iconst 0, 1) := by decide +kernel
theorem dX12_lost_162 : decode cX12_lost 162 = .ok (.iconst 0, 1) := by decide +kernel
theorem dX12_lost_163 : decode cX12_lost 163 = .ok (.aload_n 0, 1) := by decide +kernel
theorem dX12_lost_164 : decode cX12_lost 164 = .ok (.invokevirtual 271, 3) := by decide +kernel
theorem dX12_lost_167 : decode cX12_lost 167 = .ok (.invokevirtual 283, 3) := by decide +kernel
theorem dX12_lost_170 : decode cX12_lost 170 = .ok (.iload_n 1, 1) := by decide +kernel
theorem dX12_lost_171 : decode cX12_lost 171 = .ok (.iconst (-1), 1) := by decide +kernel
theorem dX12_lost_172 : decode cX12_lost 172 = .ok (.if_icmp .ne 8, 3) := by decide +kernel
theorem dX12_lost_175 : decode cX12_lost 175 = .ok (.aload_n 0, 1) := by decide +kernel
theorem dX12_lost_176 : decode cX12_lost 176 = .ok (.getfield 280, 3) := by decide +kernel
theorem dX12_lost_179 : decode cX12_lost 179 = .ok (.ireturn, 1) := by decide +kernel
theorem dX12_lost_180 : decode cX12_lost 180 = .ok (.aload_n 0, 1) := by decide +kernel
theorem dX12_lost_181 : decode cX12_lost 181 = .ok (.getfield 280, 3) := by decide +kernel
theorem dX12_lost_184 : decode cX12_lost 184 = .ok (.ifCond .le 20, 3) := by decide +kernel
theorem dX12_lost_187 : decode cX12_lost 187 = .ok (.iload_n 1, 1) := by decide +kernel
theorem dX12_lost_188 : decode cX12_lost 188 = .ok (.aload_n 0, 1) := by decide +kernel
theorem dX12_lost_189 : decode cX12_lost 189 = .ok (.getfield 277, 3) := by decide +kernel
theorem dX12_lost_192 : decode cX12_lost 192 = .ok (.if_icmp .ge 12, 3) := by decide +kernel
theorem dX12_lost_195 : decode cX12_lost 195 = .ok (.aload_n 0, 1) := by decide +kernel
theorem dX12_lost_196 : decode cX12_lost 196 = .ok (.getfield 44, 3) := by decide +kernel
theorem dX12_lost_199 : decode cX12_lost 199 = .ok (.iload_n 1, 1) := by decide +kernel
theorem dX12_lost_200 : decode cX12_lost 200 = .ok (.iaload, 1) := by decide +kernel
theorem dX12_lost_201 : decode cX12_lost 201 = .ok (.goto 4, 3) := by decide +kernel
theorem dX12_lost_204 : decode cX12_lost 204 = .ok (.iconst (-1), 1) := by decide +kernel
theorem dX12_lost_205 : decode cX12_lost 205 = .ok (.ireturn, 1) := by decide +kernel
theorem dX12_draw_0 : decode cX12_draw 0 = .ok (.aload_n 0, 1) := by decide +kernel
theorem dX12_draw_1 : decode cX12_draw 1 = .ok (.ldc_w 287, 3) := by decide +kernel
theorem dX12_draw_4 : decode cX12_draw 4 = .ok (.aload_n 0, 1) := by decide +kernel
theorem dX12_draw_5 : decode cX12_draw 5 = .ok (.getfield 288, 3) := by decide +kernel
theorem dX12_draw_8 : decode cX12_draw 8 = .ok (.imul, 1) := by decide +kernel
theorem dX12_draw_9 : decode cX12_draw 9 = .ok (.sipush 12345, 3) := by decide +kernel
theorem dX12_draw_12 : decode cX12_draw 12 = .ok (.iadd, 1) := by decide +kernel
theorem dX12_draw_13 : decode cX12_draw 13 = .ok (.putfield 288, 3) := by decide +kernel
theorem dX12_draw_16 : decode cX12_draw 16 = .ok (.aload_n 0, 1) := by decide +kernel
theorem dX12_draw_17 : decode cX12_draw 17 = .ok (.getfield 288, 3) := by decide +kernel
theorem dX12_draw_20 : decode cX12_draw 20 = .ok (.bipush 16, 2) := by decide +kernel
theorem dX12_draw_22 : decode cX12_draw 22 = .ok (.iushr, 1) := by decide +kernel
theorem dX12_draw_23 : decode cX12_draw 23 = .ok (.sipush 32767, 3) := by decide +kernel
theorem dX12_draw_26 : decode cX12_draw 26 = .ok (.iand, 1) := by decide +kernel
theorem dX12_draw_27 : decode cX12_draw 27 = .ok (.iload_n 1, 1) := by decide +kernel
theorem dX12_draw_28 : decode cX12_draw 28 = .ok (.irem, 1) := by decide +kernel
theorem dX12_draw_29 : decode cX12_draw 29 = .ok (.ireturn, 1) := by decide +kernel
theorem dX12_numberOf_0 : decode cX12_numberOf 0 = .ok (.aload_n 0, 1) := by decide +kernel
theorem dX12_numberOf_1 : decode cX12_numberOf 1 = .ok (.getfield 7, 3) := by decide +kernel
theorem dX12_numberOf_4 : decode cX12_numberOf 4 = .ok (.bipush 8, 2) := by decide +kernel
theorem dX12_numberOf_6 : decode cX12_numberOf 6 = .ok (.iaload, 1) := by decide +kernel
theorem dX12_numberOf_7 : decode cX12_numberOf 7 = .ok (.iconst (-1), 1) := by decide +kernel
theorem dX12_numberOf_8 : decode cX12_numberOf 8 = .ok (.if_icmp .ne 5, 3) := by decide +kernel
theorem dX12_numberOf_11 : decode cX12_numberOf 11 = .ok (.iconst 0, 1) := by decide +kernel
theorem dX12_numberOf_12 : decode cX12_numberOf 12 = .ok (.ireturn, 1) := by decide +kernel
theorem dX12_numberOf_13 : decode cX12_numberOf 13 = .ok (.aload_n 0, 1) := by decide +kernel
theorem dX12_numberOf_14 : decode cX12_numberOf 14 = .ok (.getfield 26, 3) := by decide +kernel
theorem dX12_numberOf_17 : decode cX12_numberOf 17 = .ok (.iconst 0, 1) := by decide +kernel
theorem dX12_numberOf_18 : decode cX12_numberOf 18 = .ok (.iload_n 3, 1) := by decide +kernel
theorem dX12_numberOf_19 : decode cX12_numberOf 19 = .ok (.aload_n 0, 1) := by decide +kernel
theorem dX12_numberOf_20 : decode cX12_numberOf 20 = .ok (.getfield 53, 3) := by decide +kernel
theorem dX12_numberOf_23 : decode cX12_numberOf 23 = .ok (.iload_n 1, 1) := by decide +kernel
theorem dX12_numberOf_24 : decode cX12_numberOf 24 = .ok (.iaload, 1) := by decide +kernel
theorem dX12_numberOf_25 : decode cX12_numberOf 25 = .ok (.isub, 1) := by decide +kernel
theorem dX12_numberOf_26 : decode cX12_numberOf 26 = .ok (.iastore, 1) := by decide +kernel
theorem dX12_numberOf_27 : decode cX12_numberOf 27 = .ok (.aload_n 0, 1) := by decide +kernel
theorem dX12_numberOf_28 : decode cX12_numberOf 28 = .ok (.getfield 26, 3) := by decide +kernel
theorem dX12_numberOf_31 : decode cX12_numberOf 31 = .ok (.iconst 1, 1) := by decide +kernel
theorem dX12_numberOf_32 : decode cX12_numberOf 32 = .ok (.aload_n 0, 1) := by decide +kernel
theorem dX12_numberOf_33 : decode cX12_numberOf 33 = .ok (.getfield 50, 3) := by decide +kernel
theorem dX12_numberOf_36 : decode cX12_numberOf 36 = .ok (.iload_n 1, 1) := by decide +kernel
theorem dX12_numberOf_37 : decode cX12_numberOf 37 = .ok (.iaload, 1) := by decide +kernel
theorem dX12_numberOf_38 : decode cX12_numberOf 38 = .ok (.iastore, 1) := by decide +kernel
theorem dX12_numberOf_39 : decode cX12_numberOf 39 = .ok (.aload_n 0, 1) := by decide +kernel
theorem dX12_numberOf_40 : decode cX12_numberOf 40 = .ok (.getfield 26, 3) := by decide +kernel
theorem dX12_numberOf_43 : decode cX12_numberOf 43 = .ok (.iconst 2, 1) := by decide +kernel
theorem dX12_numberOf_44 : decode cX12_numberOf 44 = .ok (.iload_n 2, 1) := by decide +kernel
theorem dX12_numberOf_45 : decode cX12_numberOf 45 = .ok (.iastore, 1) := by decide +kernel
theorem dX12_numberOf_46 : decode cX12_numberOf 46 = .ok (.aload_n 0, 1) := by decide +kernel
theorem dX12_numberOf_47 : decode cX12_numberOf 47 = .ok (.getfield 26, 3) := by decide +kernel
theorem dX12_numberOf_50 : decode cX12_numberOf 50 = .ok (.iconst 3, 1) := by decide +kernel
theorem dX12_numberOf_51 : decode cX12_numberOf 51 = .ok (.iload_n 3, 1) := by decide +kernel
theorem dX12_numberOf_52 : decode cX12_numberOf 52 = .ok (.iastore, 1) := by decide +kernel
theorem dX12_numberOf_53 : decode cX12_numberOf 53 = .ok (.aload_n 0, 1) := by decide +kernel
theorem dX12_numberOf_54 : decode cX12_numberOf 54 = .ok (.getfield 22, 3) := by decide +kernel
theorem dX12_numberOf_57 : decode cX12_numberOf 57 = .ok (.istore 4, 2) := by decide +kernel
theorem dX12_numberOf_59 : decode cX12_numberOf 59 = .ok (.aload_n 0, 1) := by decide +kernel
theorem dX12_numberOf_60 : decode cX12_numberOf 60 = .ok (.iconst (-1), 1) := by decide +kernel
theorem dX12_numberOf_61 : decode cX12_numberOf 61 = .ok (.putfield 22, 3) := by decide +kernel
theorem dX12_numberOf_64 : decode cX12_numberOf 64 = .ok (.aload_n 0, 1) := by decide +kernel
theorem dX12_numberOf_65 : decode cX12_numberOf 65 = .ok (.sipush 248, 3) := by decide +kernel
theorem dX12_numberOf_68 : decode cX12_numberOf 68 = .ok (.putfield 85, 3) := by decide +kernel
theorem dX12_numberOf_71 : decode cX12_numberOf 71 = .ok (.aload_n 0, 1) := by decide +kernel
theorem dX12_numberOf_72 : decode cX12_numberOf 72 = .ok (.aload_n 0, 1) := by decide +kernel
theorem dX12_numberOf_73 : decode cX12_numberOf 73 = .ok (.getfield 7, 3) := by decide +kernel
theorem dX12_numberOf_76 : decode cX12_numberOf 76 = .ok (.bipush 9, 2) := by decide +kernel
theorem dX12_numberOf_78 : decode cX12_numberOf 78 = .ok (.iaload, 1) := by decide +kernel
theorem dX12_numberOf_79 : decode cX12_numberOf 79 = .ok (.putfield 91, 3) := by decide +kernel
theorem dX12_numberOf_82 : decode cX12_numberOf 82 = .ok (.aload_n 0, 1) := by decide +kernel
theorem dX12_numberOf_83 : decode cX12_numberOf 83 = .ok (.iconst 0, 1) := by decide +kernel
theorem dX12_numberOf_84 : decode cX12_numberOf 84 = .ok (.putfield 88, 3) := by decide +kernel
theorem dX12_numberOf_87 : decode cX12_numberOf 87 = .ok (.aload_n 0, 1) := by decide +kernel
theorem dX12_numberOf_88 : decode cX12_numberOf 88 = .ok (.iconst 0, 1) := by decide +kernel
theorem dX12_numberOf_89 : decode cX12_numberOf 89 = .ok (.putfield 150, 3) := by decide +kernel
theorem dX12_numberOf_92 : decode cX12_numberOf 92 = .ok (.aload_n 0, 1) := by decide +kernel
theorem dX12_numberOf_93 : decode cX12_numberOf 93 = .ok (.iconst (-1), 1) := by decide +kernel
theorem dX12_numberOf_94 : decode cX12_numberOf 94 = .ok (.putfield 205, 3) := by decide +kernel
theorem dX12_numberOf_97 : decode cX12_numberOf 97 = .ok (.aload_n 0, 1) := by decide +kernel
theorem dX12_numberOf_98 : decode cX12_numberOf 98 = .ok (.iconst 1, 1) := by decide +kernel
theorem dX12_numberOf_99 : decode cX12_numberOf 99 = .ok (.invokevirtual 166, 3) := by decide +kernel
theorem dX12_numberOf_102 : decode cX12_numberOf 102 = .ok (.pop, 1) := by decide +kernel
theorem dX12_numberOf_103 : decode cX12_numberOf 103 = .ok (.aload_n 0, 1) := by decide +kernel
theorem dX12_numberOf_104 : decode cX12_numberOf 104 = .ok (.iload 4, 2) := by decide +kernel
theorem dX12_numberOf_106 : decode cX12_numberOf 106 = .ok (.putfield 22, 3) := by decide +kernel
theorem dX12_numberOf_109 : decode cX12_numberOf 109 = .ok (.aload_n 0, 1) := by decide +kernel
theorem dX12_numberOf_110 : decode cX12_numberOf 110 = .ok (.getfield 205, 3) := by decide +kernel
theorem dX12_numberOf_113 : decode cX12_numberOf 113 = .ok (.iconst (-1), 1) := by decide +kernel
theorem dX12_numberOf_114 : decode cX12_numberOf 114 = .ok (.if_icmp .ne 7, 3) := by decide +kernel
theorem dX12_numberOf_117 : decode cX12_numberOf 117 = .ok (.iconst 0, 1) := by decide +kernel
theorem dX12_numberOf_118 : decode cX12_numberOf 118 = .ok (.goto 7, 3) := by decide +kernel
theorem dX12_numberOf_121 : decode cX12_numberOf 121 = .ok (.aload_n 0, 1) := by decide +kernel
theorem dX12_numberOf_122 : decode cX12_numberOf 122 = .ok (.getfield 205, 3) := by decide +kernel
theorem dX12_numberOf_125 : decode cX12_numberOf 125 = .ok (.ireturn, 1) := by decide +kernel
theorem dX12_fair_0 : decode cX12_fair 0 = .ok (.aload_n 0, 1) := by decide +kernel
theorem dX12_fair_1 : decode cX12_fair 1 = .ok (.iload_n 2, 1) := by decide +kernel
theorem dX12_fair_2 : decode cX12_fair 2 = .ok (.iconst 0, 1) := by decide +kernel
theorem dX12_fair_3 : decode cX12_fair 3 = .ok (.sipush 600, 3) := by decide +kernel
theorem dX12_fair_6 : decode cX12_fair 6 = .ok (.invokestatic 62, 3) := by decide +kernel
theorem dX12_fair_9 : decode cX12_fair 9 = .ok (.ifCond .eq 24, 3) := by decide +kernel
theorem dX12_fair_12 : decode cX12_fair 12 = .ok (.iload_n 3, 1) := by decide +kernel
theorem dX12_fair_13 : decode cX12_fair 13 = .ok (.iconst 0, 1) := by decide +kernel
theorem dX12_fair_14 : decode cX12_fair 14 = .ok (.bipush 100, 2) := by decide +kernel
theorem dX12_fair_16 : decode cX12_fair 16 = .ok (.invokestatic 62, 3) := by decide +kernel
theorem dX12_fair_19 : decode cX12_fair 19 = .ok (.ifCond .eq 14, 3) := by decide +kernel
theorem dX12_fair_22 : decode cX12_fair 22 = .ok (.iload 4, 2) := by decide +kernel
theorem dX12_fair_24 : decode cX12_fair 24 = .ok (.iconst 1, 1) := by decide +kernel
theorem dX12_fair_25 : decode cX12_fair 25 = .ok (.bipush 99, 2) := by decide +kernel
theorem dX12_fair_27 : decode cX12_fair 27 = .ok (.invokestatic 62, 3) := by decide +kernel
theorem dX12_fair_30 : decode cX12_fair 30 = .ok (.ifCond .ne 7, 3) := by decide +kernel
theorem dX12_fair_33 : decode cX12_fair 33 = .ok (.iconst 1, 1) := by decide +kernel
theorem dX12_fair_34 : decode cX12_fair 34 = .ok (.goto 18, 3) := by decide +kernel
theorem dX12_fair_37 : decode cX12_fair 37 = .ok (.iload 5, 2) := by decide +kernel
theorem dX12_fair_39 : decode cX12_fair 39 = .ok (.iconst 0, 1) := by decide +kernel
theorem dX12_fair_40 : decode cX12_fair 40 = .ok (.iconst 5, 1) := by decide +kernel
theorem dX12_fair_41 : decode cX12_fair 41 = .ok (.invokestatic 62, 3) := by decide +kernel
theorem dX12_fair_44 : decode cX12_fair 44 = .ok (.ifCond .ne 7, 3) := by decide +kernel
theorem dX12_fair_47 : decode cX12_fair 47 = .ok (.iconst 2, 1) := by decide +kernel
theorem dX12_fair_48 : decode cX12_fair 48 = .ok (.goto 4, 3) := by decide +kernel
theorem dX12_fair_51 : decode cX12_fair 51 = .ok (.iconst 0, 1) := by decide +kernel
theorem dX12_fair_52 : decode cX12_fair 52 = .ok (.putfield 59, 3) := by decide +kernel
theorem dX12_fair_55 : decode cX12_fair 55 = .ok (.aload_n 0, 1) := by decide +kernel
theorem dX12_fair_56 : decode cX12_fair 56 = .ok (.getfield 59, 3) := by decide +kernel
theorem dX12_fair_59 : decode cX12_fair 59 = .ok (.ifCond .le 5, 3) := by decide +kernel
theorem dX12_fair_62 : decode cX12_fair 62 = .ok (.iconst 0, 1) := by decide +kernel
theorem dX12_fair_63 : decode cX12_fair 63 = .ok (.ireturn, 1) := by decide +kernel
theorem dX12_fair_64 : decode cX12_fair 64 = .ok (.aload_n 0, 1) := by decide +kernel
theorem dX12_fair_65 : decode cX12_fair 65 = .ok (.iload_n 1, 1) := by decide +kernel
theorem dX12_fair_66 : decode cX12_fair 66 = .ok (.putfield 288, 3) := by decide +kernel
theorem dX12_fair_69 : decode cX12_fair 69 = .ok (.iconst 0, 1) := by decide +kernel
theorem dX12_fair_70 : decode cX12_fair 70 = .ok (.istore 6, 2) := by decide +kernel
theorem dX12_fair_72 : decode cX12_fair 72 = .ok (.iconst 0, 1) := by decide +kernel
theorem dX12_fair_73 : decode cX12_fair 73 = .ok (.istore 7, 2) := by decide +kernel
theorem dX12_fair_75 : decode cX12_fair 75 = .ok (.iconst 0, 1) := by decide +kernel
theorem dX12_fair_76 : decode cX12_fair 76 = .ok (.istore 8, 2) := by decide +kernel
theorem dX12_fair_78 : decode cX12_fair 78 = .ok (.iconst 0, 1) := by decide +kernel
theorem dX12_fair_79 : decode cX12_fair 79 = .ok (.istore 9, 2) := by decide +kernel
theorem dX12_fair_81 : decode cX12_fair 81 = .ok (.iconst 0, 1) := by decide +kernel
theorem dX12_fair_82 : decode cX12_fair 82 = .ok (.istore 10, 2) := by decide +kernel
theorem dX12_fair_84 : decode cX12_fair 84 = .ok (.iconst 0, 1) := by decide +kernel
theorem dX12_fair_85 : decode cX12_fair 85 = .ok (.istore 11, 2) := by decide +kernel
theorem dX12_fair_87 : decode cX12_fair 87 = .ok (.iconst 0, 1) := by decide +kernel
theorem dX12_fair_88 : decode cX12_fair 88 = .ok (.istore 12, 2) := by decide +kernel
theorem dX12_fair_90 : decode cX12_fair 90 = .ok (.iconst 0, 1) := by decide +kernel
theorem dX12_fair_91 : decode cX12_fair 91 = .ok (.istore 13, 2) := by decide +kernel
theorem dX12_fair_93 : decode cX12_fair 93 = .ok (.iload 13, 2) := by decide +kernel
theorem dX12_fair_95 : decode cX12_fair 95 = .ok (.iload_n 2, 1) := by decide +kernel
theorem dX12_fair_96 : decode cX12_fair 96 = .ok (.if_icmp .ge 445, 3) := by decide +kernel
theorem dX12_fair_99 : decode cX12_fair 99 = .ok (.aload_n 0, 1) := by decide +kernel
theorem dX12_fair_100 : decode cX12_fair 100 = .ok (.bipush 100, 2) := by decide +kernel
theorem dX12_fair_102 : decode cX12_fair 102 = .ok (.invokevirtual 291, 3) := by decide +kernel
theorem dX12_fair_105 : decode cX12_fair 105 = .ok (.iload_n 3, 1) := by decide +kernel
theorem dX12_fair_106 : decode cX12_fair 106 = .ok (.if_icmp .ge 50, 3) := by decide +kernel
theorem dX12_fair_109 : decode cX12_fair 109 = .ok (.bipush 10, 2) := by decide +kernel
theorem dX12_fair_111 : decode cX12_fair 111 = .ok (.aload_n 0, 1) := by decide +kernel
theorem dX12_fair_112 : decode cX12_fair 112 = .ok (.bipush 9, 2) := by decide +kernel
theorem dX12_fair_114 : decode cX12_fair 114 = .ok (.invokevirtual 291, 3) := by decide +kernel
theorem dX12_fair_117 : decode cX12_fair 117 = .ok (.iconst 1, 1) := by decide +kernel
theorem dX12_fair_118 : decode cX12_fair 118 = .ok (.iadd, 1) := by decide +kernel
theorem dX12_fair_119 : decode cX12_fair 119 = .ok (.imul, 1) := by decide +kernel
theorem dX12_fair_120 : decode cX12_fair 120 = .ok (.istore 14, 2) := by decide +kernel
theorem dX12_fair_122 : decode cX12_fair 122 = .ok (.iload 6, 2) := by decide +kernel
theorem dX12_fair_124 : decode cX12_fair 124 = .ok (.bipush 40, 2) := by decide +kernel
theorem dX12_fair_126 : decode cX12_fair 126 = .ok (.if_icmp .ne 9, 3) := by decide +kernel
theorem dX12_fair_129 : decode cX12_fair 129 = .ok (.iinc 8 1, 3) := by decide +kernel
theorem dX12_fair_132 : decode cX12_fair 132 = .ok (.goto 24, 3) := by decide +kernel
theorem dX12_fair_135 : decode cX12_fair 135 = .ok (.aload_n 0, 1) := by decide +kernel
theorem dX12_fair_136 : decode cX12_fair 136 = .ok (.getfield 50, 3) := by decide +kernel
theorem dX12_fair_139 : decode cX12_fair 139 = .ok (.iload 6, 2) := by decide +kernel
theorem dX12_fair_141 : decode cX12_fair 141 = .ok (.iload 14, 2) := by decide +kernel
theorem dX12_fair_143 : decode cX12_fair 143 = .ok (.iastore, 1) := by decide +kernel
theorem dX12_fair_144 : decode cX12_fair 144 = .ok (.aload_n 0, 1) := by decide +kernel
theorem dX12_fair_145 : decode cX12_fair 145 = .ok (.getfield 53, 3) := by decide +kernel
theorem dX12_fair_148 : decode cX12_fair 148 = .ok (.iload 6, 2) := by decide +kernel
theorem dX12_fair_150 : decode cX12_fair 150 = .ok (.iload 13, 2) := by decide +kernel
theorem dX12_fair_152 : decode cX12_fair 152 = .ok (.iastore, 1) := by decide +kernel
theorem dX12_fair_153 : decode cX12_fair 153 = .ok (.iinc 6 1, 3) := by decide +kernel
theorem dX12_fair_156 : decode cX12_fair 156 = .ok (.iload 13, 2) := by decide +kernel
theorem dX12_fair_158 : decode cX12_fair 158 = .ok (.iload 12, 2) := by decide +kernel
theorem dX12_fair_160 : decode cX12_fair 160 = .ok (.if_icmp .lt 375, 3) := by decide +kernel
theorem dX12_fair_163 : decode cX12_fair 163 = .ok (.iload 6, 2) := by decide +kernel
theorem dX12_fair_165 : decode cX12_fair 165 = .ok (.ifCond .ne 6, 3) := by decide +kernel
theorem dX12_fair_168 : decode cX12_fair 168 = .ok (.goto 367, 3) := by decide +kernel
theorem dX12_fair_171 : decode cX12_fair 171 = .ok (.iconst 0, 1) := by decide +kernel
theorem dX12_fair_172 : decode cX12_fair 172 = .ok (.istore 14, 2) := by decide +kernel
theorem dX12_fair_174 : decode cX12_fair 174 = .ok (.iload 14, 2) := by decide +kernel
theorem dX12_fair_176 : decode cX12_fair 176 = .ok (.iload 6, 2) := by decide +kernel
theorem dX12_fair_178 : decode cX12_fair 178 = .ok (.if_icmp .ge 26, 3) := by decide +kernel
theorem dX12_fair_181 : decode cX12_fair 181 = .ok (.aload_n 0, 1) := by decide +kernel
theorem dX12_fair_182 : decode cX12_fair 182 = .ok (.getfield 56, 3) := by decide +kernel
theorem dX12_fair_185 : decode cX12_fair 185 = .ok (.iload 14, 2) := by decide +kernel
theorem dX12_fair_187 : decode cX12_fair 187 = .ok (.aload_n 0, 1) := by decide +kernel
theorem dX12_fair_188 : decode cX12_fair 188 = .ok (.iload 14, 2) := by decide +kernel
theorem dX12_fair_190 : decode cX12_fair 190 = .ok (.iload 6, 2) := by decide +kernel
theorem dX12_fair_192 : decode cX12_fair 192 = .ok (.iload 13, 2) := by decide +kernel
theorem dX12_fair_194 : decode cX12_fair 194 = .ok (.invokevirtual 294, 3) := by decide +kernel
theorem dX12_fair_197 : decode cX12_fair 197 = .ok (.iastore, 1) := by decide +kernel
theorem dX12_fair_198 : decode cX12_fair 198 = .ok (.iinc 14 1, 3) := by decide +kernel
theorem dX12_fair_201 : decode cX12_fair 201 = .ok (.goto (-27), 3) := by decide +kernel
theorem dX12_fair_204 : decode cX12_fair 204 = .ok (.aload_n 0, 1) := by decide +kernel
theorem dX12_fair_205 : decode cX12_fair 205 = .ok (.getfield 7, 3) := by decide +kernel
theorem dX12_fair_208 : decode cX12_fair 208 = .ok (.bipush 6, 2) := by decide +kernel
theorem dX12_fair_210 : decode cX12_fair 210 = .ok (.iaload, 1) := by decide +kernel
theorem dX12_fair_211 : decode cX12_fair 211 = .ok (.istore 14, 2) := by decide +kernel
theorem dX12_fair_213 : decode cX12_fair 213 = .ok (.iconst 0, 1) := by decide +kernel
theorem dX12_fair_214 : decode cX12_fair 214 = .ok (.istore 15, 2) := by decide +kernel
theorem dX12_fair_216 : decode cX12_fair 216 = .ok (.iconst 1, 1) := by decide +kernel
theorem dX12_fair_217 : decode cX12_fair 217 = .ok (.istore 16, 2) := by decide +kernel
theorem dX12_fair_219 : decode cX12_fair 219 = .ok (.iload 16, 2) := by decide +kernel
theorem dX12_fair_221 : decode cX12_fair 221 = .ok (.ifCond .eq 192, 3) := by decide +kernel
theorem dX12_fair_224 : decode cX12_fair 224 = .ok (.iconst (-1), 1) := by decide +kernel
theorem dX12_fair_225 : decode cX12_fair 225 = .ok (.istore 17, 2) := by decide +kernel
theorem dX12_fair_227 : decode cX12_fair 227 = .ok (.iconst 0, 1) := by decide +kernel
theorem dX12_fair_228 : decode cX12_fair 228 = .ok (.istore 18, 2) := by decide +kernel
theorem dX12_fair_230 : decode cX12_fair 230 = .ok (.iload 18, 2) := by decide +kernel
theorem dX12_fair_232 : decode cX12_fair 232 = .ok (.iload 6, 2) := by decide +kernel
theorem dX12_fair_234 : decode cX12_fair 234 = .ok (.if_icmp .ge 46, 3) := by decide +kernel
theorem dX12_fair_237 : decode cX12_fair 237 = .ok (.aload_n 0, 1) := by decide +kernel
theorem dX12_fair_238 : decode cX12_fair 238 = .ok (.getfield 56, 3) := by decide +kernel
theorem dX12_fair_241 : decode cX12_fair 241 = .ok (.iload 18, 2) := by decide +kernel
theorem dX12_fair_243 : decode cX12_fair 243 = .ok (.iaload, 1) := by decide +kernel
theorem dX12_fair_244 : decode cX12_fair 244 = .ok (.ifCond .lt 30, 3) := by decide +kernel
theorem dX12_fair_247 : decode cX12_fair 247 = .ok (.iload 17, 2) := by decide +kernel
theorem dX12_fair_249 : decode cX12_fair 249 = .ok (.iconst (-1), 1) := by decide +kernel
theorem dX12_fair_250 : decode cX12_fair 250 = .ok (.if_icmp .eq 20, 3) := by decide +kernel
theorem dX12_fair_253 : decode cX12_fair 253 = .ok (.aload_n 0, 1) := by decide +kernel
theorem dX12_fair_254 : decode cX12_fair 254 = .ok (.getfield 56, 3) := by decide +kernel
theorem dX12_fair_257 : decode cX12_fair 257 = .ok (.iload 18, 2) := by decide +kernel
theorem dX12_fair_259 : decode cX12_fair 259 = .ok (.iaload, 1) := by decide +kernel
theorem dX12_fair_260 : decode cX12_fair 260 = .ok (.aload_n 0, 1) := by decide +kernel
theorem dX12_fair_261 : decode cX12_fair 261 = .ok (.getfield 56, 3) := by decide +kernel
theorem dX12_fair_264 : decode cX12_fair 264 = .ok (.iload 17, 2) := by decide +kernel
theorem dX12_fair_266 : decode cX12_fair 266 = .ok (.iaload, 1) := by decide +kernel
theorem dX12_fair_267 : decode cX12_fair 267 = .ok (.if_icmp .le 7, 3) := by decide +kernel
theorem dX12_fair_270 : decode cX12_fair 270 = .ok (.iload 18, 2) := by decide +kernel
theorem dX12_fair_272 : decode cX12_fair 272 = .ok (.istore 17, 2) := by decide +kernel
theorem dX12_fair_274 : decode cX12_fair 274 = .ok (.iinc 18 1, 3) := by decide +kernel
theorem dX12_fair_277 : decode cX12_fair 277 = .ok (.goto (-47), 3) := by decide +kernel
theorem dX12_fair_280 : decode cX12_fair 280 = .ok (.iload 17, 2) := by decide +kernel
theorem dX12_fair_282 : decode cX12_fair 282 = .ok (.iconst (-1), 1) := by decide +kernel
theorem dX12_fair_283 : decode cX12_fair 283 = .ok (.if_icmp .eq 7, 3) := by decide +kernel
theorem dX12_fair_286 : decode cX12_fair 286 = .ok (.iconst 1, 1) := by decide +kernel
theorem dX12_fair_287 : decode cX12_fair 287 = .ok (.goto 4, 3) := by decide +kernel
theorem dX12_fair_290 : decode cX12_fair 290 = .ok (.iconst 0, 1) := by decide +kernel
theorem dX12_fair_291 : decode cX12_fair 291 = .ok (.istore 16, 2) := by decide +kernel
theorem dX12_fair_293 : decode cX12_fair 293 = .ok (.iload 16, 2) := by decide +kernel
theorem dX12_fair_295 : decode cX12_fair 295 = .ok (.ifCond .ne 6, 3) := by decide +kernel
theorem dX12_fair_298 : decode cX12_fair 298 = .ok (.goto (-79), 3) := by decide +kernel
theorem dX12_fair_301 : decode cX12_fair 301 = .ok (.iload 14, 2) := by decide +kernel
theorem dX12_fair_303 : decode cX12_fair 303 = .ok (.aload_n 0, 1) := by decide +kernel
theorem dX12_fair_304 : decode cX12_fair 304 = .ok (.getfield 50, 3) := by decide +kernel
theorem dX12_fair_307 : decode cX12_fair 307 = .ok (.iload 17, 2) := by decide +kernel
theorem dX12_fair_309 : decode cX12_fair 309 = .ok (.iaload, 1) := by decide +kernel
theorem dX12_fair_310 : decode cX12_fair 310 = .ok (.iadd, 1) := by decide +kernel
theorem dX12_fair_311 : decode cX12_fair 311 = .ok (.istore 18, 2) := by decide +kernel
theorem dX12_fair_313 : decode cX12_fair 313 = .ok (.iload 18, 2) := by decide +kernel
theorem dX12_fair_315 : decode cX12_fair 315 = .ok (.aload_n 0, 1) := by decide +kernel
theorem dX12_fair_316 : decode cX12_fair 316 = .ok (.getfield 7, 3) := by decide +kernel
theorem dX12_fair_319 : decode cX12_fair 319 = .ok (.iconst 5, 1) := by decide +kernel
theorem dX12_fair_320 : decode cX12_fair 320 = .ok (.iaload, 1) := by decide +kernel
theorem dX12_fair_321 : decode cX12_fair 321 = .ok (.if_icmp .gt 18, 3) := by decide +kernel
theorem dX12_fair_324 : decode cX12_fair 324 = .ok (.aload_n 0, 1) := by decide +kernel
theorem dX12_fair_325 : decode cX12_fair 325 = .ok (.iload 18, 2) := by decide +kernel
theorem dX12_fair_327 : decode cX12_fair 327 = .ok (.invokevirtual 214, 3) := by decide +kernel
theorem dX12_fair_330 : decode cX12_fair 330 = .ok (.iload 4, 2) := by decide +kernel
theorem dX12_fair_332 : decode cX12_fair 332 = .ok (.if_icmp .gt 7, 3) := by decide +kernel
theorem dX12_fair_335 : decode cX12_fair 335 = .ok (.iconst 1, 1) := by decide +kernel
theorem dX12_fair_336 : decode cX12_fair 336 = .ok (.goto 4, 3) := by decide +kernel
theorem dX12_fair_339 : decode cX12_fair 339 = .ok (.iconst 0, 1) := by decide +kernel
theorem dX12_fair_340 : decode cX12_fair 340 = .ok (.istore 19, 2) := by decide +kernel
theorem dX12_fair_342 : decode cX12_fair 342 = .ok (.aload_n 0, 1) := by decide +kernel
theorem dX12_fair_343 : decode cX12_fair 343 = .ok (.getfield 56, 3) := by decide +kernel
theorem dX12_fair_346 : decode cX12_fair 346 = .ok (.iload 17, 2) := by decide +kernel
theorem dX12_fair_348 : decode cX12_fair 348 = .ok (.iload 19, 2) := by decide +kernel
theorem dX12_fair_350 : decode cX12_fair 350 = .ok (.ifCond .eq 8, 3) := by decide +kernel
theorem dX12_fair_353 : decode cX12_fair 353 = .ok (.bipush (-2), 2) := by decide +kernel
theorem dX12_fair_355 : decode cX12_fair 355 = .ok (.goto 4, 3) := by decide +kernel
theorem dX12_fair_358 : decode cX12_fair 358 = .ok (.iconst (-1), 1) := by decide +kernel
theorem dX12_fair_359 : decode cX12_fair 359 = .ok (.iastore, 1) := by decide +kernel
theorem dX12_fair_360 : decode cX12_fair 360 = .ok (.iload 19, 2) := by decide +kernel
theorem dX12_fair_362 : decode cX12_fair 362 = .ok (.ifCond .ne 6, 3) := by decide +kernel
theorem dX12_fair_365 : decode cX12_fair 365 = .ok (.goto (-146), 3) := by decide +kernel
theorem dX12_fair_368 : decode cX12_fair 368 = .ok (.iload 18, 2) := by decide +kernel
theorem dX12_fair_370 : decode cX12_fair 370 = .ok (.istore 14, 2) := by decide +kernel
theorem dX12_fair_372 : decode cX12_fair 372 = .ok (.iinc 15 1, 3) := by decide +kernel
theorem dX12_fair_375 : decode cX12_fair 375 = .ok (.iload 13, 2) := by decide +kernel
theorem dX12_fair_377 : decode cX12_fair 377 = .ok (.aload_n 0, 1) := by decide +kernel
theorem dX12_fair_378 : decode cX12_fair 378 = .ok (.getfield 53, 3) := by decide +kernel
theorem dX12_fair_381 : decode cX12_fair 381 = .ok (.iload 17, 2) := by decide +kernel
theorem dX12_fair_383 : decode cX12_fair 383 = .ok (.iaload, 1) := by decide +kernel
theorem dX12_fair_384 : decode cX12_fair 384 = .ok (.isub, 1) := by decide +kernel
theorem dX12_fair_385 : decode cX12_fair 385 = .ok (.istore 20, 2) := by decide +kernel
theorem dX12_fair_387 : decode cX12_fair 387 = .ok (.iload 20, 2) := by decide +kernel
theorem dX12_fair_389 : decode cX12_fair 389 = .ok (.iload 9, 2) := by decide +kernel
theorem dX12_fair_391 : decode cX12_fair 391 = .ok (.if_icmp .le 8, 3) := by decide +kernel
theorem dX12_fair_394 : decode cX12_fair 394 = .ok (.iload 20, 2) := by decide +kernel
theorem dX12_fair_396 : decode cX12_fair 396 = .ok (.goto 5, 3) := by decide +kernel
theorem dX12_fair_399 : decode cX12_fair 399 = .ok (.iload 9, 2) := by decide +kernel
theorem dX12_fair_401 : decode cX12_fair 401 = .ok (.istore 9, 2) := by decide +kernel
theorem dX12_fair_403 : decode cX12_fair 403 = .ok (.iload 10, 2) := by decide +kernel
theorem dX12_fair_405 : decode cX12_fair 405 = .ok (.iload 20, 2) := by decide +kernel
theorem dX12_fair_407 : decode cX12_fair 407 = .ok (.iadd, 1) := by decide +kernel
theorem dX12_fair_408 : decode cX12_fair 408 = .ok (.istore 10, 2) := by decide +kernel
theorem dX12_fair_410 : decode cX12_fair 410 = .ok (.goto (-191), 3) := by decide +kernel
theorem dX12_fair_413 : decode cX12_fair 413 = .ok (.iload 15, 2) := by decide +kernel
theorem dX12_fair_415 : decode cX12_fair 415 = .ok (.ifCond .ne 6, 3) := by decide +kernel
theorem dX12_fair_418 : decode cX12_fair 418 = .ok (.goto 117, 3) := by decide +kernel
theorem dX12_fair_421 : decode cX12_fair 421 = .ok (.iload 7, 2) := by decide +kernel
theorem dX12_fair_423 : decode cX12_fair 423 = .ok (.iload 15, 2) := by decide +kernel
theorem dX12_fair_425 : decode cX12_fair 425 = .ok (.iadd, 1) := by decide +kernel
theorem dX12_fair_426 : decode cX12_fair 426 = .ok (.istore 7, 2) := by decide +kernel
theorem dX12_fair_428 : decode cX12_fair 428 = .ok (.iinc 11 1, 3) := by decide +kernel
theorem dX12_fair_431 : decode cX12_fair 431 = .ok (.iload 13, 2) := by decide +kernel
theorem dX12_fair_433 : decode cX12_fair 433 = .ok (.aload_n 0, 1) := by decide +kernel
theorem dX12_fair_434 : decode cX12_fair 434 = .ok (.aload_n 0, 1) := by decide +kernel
theorem dX12_fair_435 : decode cX12_fair 435 = .ok (.iload 14, 2) := by decide +kernel
theorem dX12_fair_437 : decode cX12_fair 437 = .ok (.invokevirtual 214, 3) := by decide +kernel
theorem dX12_fair_440 : decode cX12_fair 440 = .ok (.iload 4, 2) := by decide +kernel
theorem dX12_fair_442 : decode cX12_fair 442 = .ok (.invokevirtual 223, 3) := by decide +kernel
theorem dX12_fair_445 : decode cX12_fair 445 = .ok (.iadd, 1) := by decide +kernel
theorem dX12_fair_446 : decode cX12_fair 446 = .ok (.aload_n 0, 1) := by decide +kernel
theorem dX12_fair_447 : decode cX12_fair 447 = .ok (.aload_n 0, 1) := by decide +kernel
theorem dX12_fair_448 : decode cX12_fair 448 = .ok (.aload_n 0, 1) := by decide +kernel
theorem dX12_fair_449 : decode cX12_fair 449 = .ok (.getfield 7, 3) := by decide +kernel
theorem dX12_fair_452 : decode cX12_fair 452 = .ok (.bipush 6, 2) := by decide +kernel
theorem dX12_fair_454 : decode cX12_fair 454 = .ok (.iaload, 1) := by decide +kernel
theorem dX12_fair_455 : decode cX12_fair 455 = .ok (.invokevirtual 214, 3) := by decide +kernel
theorem dX12_fair_458 : decode cX12_fair 458 = .ok (.iload 4, 2) := by decide +kernel
theorem dX12_fair_460 : decode cX12_fair 460 = .ok (.invokevirtual 223, 3) := by decide +kernel
theorem dX12_fair_463 : decode cX12_fair 463 = .ok (.iadd, 1) := by decide +kernel
theorem dX12_fair_464 : decode cX12_fair 464 = .ok (.istore 12, 2) := by decide +kernel
theorem dX12_fair_466 : decode cX12_fair 466 = .ok (.iconst 0, 1) := by decide +kernel
theorem dX12_fair_467 : decode cX12_fair 467 = .ok (.istore 17, 2) := by decide +kernel
theorem dX12_fair_469 : decode cX12_fair 469 = .ok (.iconst 0, 1) := by decide +kernel
theorem dX12_fair_470 : decode cX12_fair 470 = .ok (.istore 18, 2) := by decide +kernel
theorem dX12_fair_472 : decode cX12_fair 472 = .ok (.iload 18, 2) := by decide +kernel
theorem dX12_fair_474 : decode cX12_fair 474 = .ok (.iload 6, 2) := by decide +kernel
theorem dX12_fair_476 : decode cX12_fair 476 = .ok (.if_icmp .ge 55, 3) := by decide +kernel
theorem dX12_fair_479 : decode cX12_fair 479 = .ok (.aload_n 0, 1) := by decide +kernel
theorem dX12_fair_480 : decode cX12_fair 480 = .ok (.getfield 56, 3) := by decide +kernel
theorem dX12_fair_483 : decode cX12_fair 483 = .ok (.iload 18, 2) := by decide +kernel
theorem dX12_fair_485 : decode cX12_fair 485 = .ok (.iaload, 1) := by decide +kernel
theorem dX12_fair_486 : decode cX12_fair 486 = .ok (.bipush (-2), 2) := by decide +kernel
theorem dX12_fair_488 : decode cX12_fair 488 = .ok (.if_icmp .ne 6, 3) := by decide +kernel
theorem dX12_fair_491 : decode cX12_fair 491 = .ok (.goto 34, 3) := by decide +kernel
theorem dX12_fair_494 : decode cX12_fair 494 = .ok (.aload_n 0, 1) := by decide +kernel
theorem dX12_fair_495 : decode cX12_fair 495 = .ok (.getfield 50, 3) := by decide +kernel
theorem dX12_fair_498 : decode cX12_fair 498 = .ok (.iload 17, 2) := by decide +kernel
theorem dX12_fair_500 : decode cX12_fair 500 = .ok (.aload_n 0, 1) := by decide +kernel
theorem dX12_fair_501 : decode cX12_fair 501 = .ok (.getfield 50, 3) := by decide +kernel
theorem dX12_fair_504 : decode cX12_fair 504 = .ok (.iload 18, 2) := by decide +kernel
theorem dX12_fair_506 : decode cX12_fair 506 = .ok (.iaload, 1) := by decide +kernel
theorem dX12_fair_507 : decode cX12_fair 507 = .ok (.iastore, 1) := by decide +kernel
theorem dX12_fair_508 : decode cX12_fair 508 = .ok (.aload_n 0, 1) := by decide +kernel
theorem dX12_fair_509 : decode cX12_fair 509 = .ok (.getfield 53, 3) := by decide +kernel
theorem dX12_fair_512 : decode cX12_fair 512 = .ok (.iload 17, 2) := by decide +kernel
theorem dX12_fair_514 : decode cX12_fair 514 = .ok (.aload_n 0, 1) := by decide +kernel
theorem dX12_fair_515 : decode cX12_fair 515 = .ok (.getfield 53, 3) := by decide +kernel
theorem dX12_fair_518 : decode cX12_fair 518 = .ok (.iload 18, 2) := by decide +kernel
theorem dX12_fair_520 : decode cX12_fair 520 = .ok (.iaload, 1) := by decide +kernel
theorem dX12_fair_521 : decode cX12_fair 521 = .ok (.iastore, 1) := by decide +kernel
theorem dX12_fair_522 : decode cX12_fair 522 = .ok (.iinc 17 1, 3) := by decide +kernel
theorem dX12_fair_525 : decode cX12_fair 525 = .ok (.iinc 18 1, 3) := by decide +kernel
theorem dX12_fair_528 : decode cX12_fair 528 = .ok (.goto (-56), 3) := by decide +kernel
theorem dX12_fair_531 : decode cX12_fair 531 = .ok (.iload 17, 2) := by decide +kernel
theorem dX12_fair_533 : decode cX12_fair 533 = .ok (.istore 6, 2) := by decide +kernel
theorem dX12_fair_535 : decode cX12_fair 535 = .ok (.iinc 13 1, 3) := by decide +kernel
theorem dX12_fair_538 : decode cX12_fair 538 = .ok (.goto (-445), 3) := by decide +kernel
theorem dX12_fair_541 : decode cX12_fair 541 = .ok (.iload 5, 2) := by decide +kernel
theorem dX12_fair_543 : decode cX12_fair 543 = .ok (.ifCond .ne 8, 3) := by decide +kernel
theorem dX12_fair_546 : decode cX12_fair 546 = .ok (.iload 7, 2) := by decide +kernel
theorem dX12_fair_548 : decode cX12_fair 548 = .ok (.goto 49, 3) := by decide +kernel
theorem dX12_fair_551 : decode cX12_fair 551 = .ok (.iload 5, 2) := by decide +kernel
theorem dX12_fair_553 : decode cX12_fair 553 = .ok (.iconst 1, 1) := by decide +kernel
theorem dX12_fair_554 : decode cX12_fair 554 = .ok (.if_icmp .ne 8, 3) := by decide +kernel
theorem dX12_fair_557 : decode cX12_fair 557 = .ok (.iload 6, 2) := by decide +kernel
theorem dX12_fair_559 : decode cX12_fair 559 = .ok (.goto 38, 3) := by decide +kernel
theorem dX12_fair_562 : decode cX12_fair 562 = .ok (.iload 5, 2) := by decide +kernel
theorem dX12_fair_564 : decode cX12_fair 564 = .ok (.iconst 2, 1) := by decide +kernel
theorem dX12_fair_565 : decode cX12_fair 565 = .ok (.if_icmp .ne 8, 3) := by decide +kernel
theorem dX12_fair_568 : decode cX12_fair 568 = .ok (.iload 8, 2) := by decide +kernel
theorem dX12_fair_570 : decode cX12_fair 570 = .ok (.goto 27, 3) := by decide +kernel
theorem dX12_fair_573 : decode cX12_fair 573 = .ok (.iload 5, 2) := by decide +kernel
theorem dX12_fair_575 : decode cX12_fair 575 = .ok (.iconst 3, 1) := by decide +kernel
theorem dX12_fair_576 : decode cX12_fair 576 = .ok (.if_icmp .ne 8, 3) := by decide +kernel
theorem dX12_fair_579 : decode cX12_fair 579 = .ok (.iload 9, 2) := by decide +kernel
theorem dX12_fair_581 : decode cX12_fair 581 = .ok (.goto 16, 3) := by decide +kernel
theorem dX12_fair_584 : decode cX12_fair 584 = .ok (.iload 5, 2) := by decide +kernel
theorem dX12_fair_586 : decode cX12_fair 586 = .ok (.iconst 4, 1) := by decide +kernel
theorem dX12_fair_587 : decode cX12_fair 587 = .ok (.if_icmp .ne 8, 3) := by decide +kernel
theorem dX12_fair_590 : decode cX12_fair 590 = .ok (.iload 10, 2) := by decide +kernel
theorem dX12_fair_592 : decode cX12_fair 592 = .ok (.goto 5, 3) := by decide +kernel
theorem dX12_fair_595 : decode cX12_fair 595 = .ok (.iload 11, 2) := by decide +kernel
theorem dX12_fair_597 : decode cX12_fair 597 = .ok (.ireturn, 1) := by decide +kernel
theorem dX12_image_0 : decode cX12_image 0 = .ok (.aload_n 0, 1) := by decide +kernel
theorem dX12_image_1 : decode cX12_image 1 = .ok (.iconst 0, 1) := by decide +kernel
theorem dX12_image_2 : decode cX12_image 2 = .ok (.putfield 59, 3) := by decide +kernel
theorem dX12_image_5 : decode cX12_image 5 = .ok (.iconst 0, 1) := by decide +kernel
theorem dX12_image_6 : decode cX12_image 6 = .ok (.istore_n 1, 1) := by decide +kernel
theorem dX12_image_7 : decode cX12_image 7 = .ok (.iload_n 1, 1) := by decide +kernel
theorem dX12_image_8 : decode cX12_image 8 = .ok (.sipush 648, 3) := by decide +kernel
theorem dX12_image_11 : decode cX12_image 11 = .ok (.if_icmp .ge 21, 3) := by decide +kernel
theorem dX12_image_14 : decode cX12_image 14 = .ok (.aload_n 0, 1) := by decide +kernel
theorem dX12_image_15 : decode cX12_image 15 = .ok (.getfield 13, 3) := by decide +kernel
theorem dX12_image_18 : decode cX12_image 18 = .ok (.iload_n 1, 1) := by decide +kernel
theorem dX12_image_19 : decode cX12_image 19 = .ok (.aload_n 0, 1) := by decide +kernel
theorem dX12_image_20 : decode cX12_image 20 = .ok (.getfield 7, 3) := by decide +kernel
theorem dX12_image_23 : decode cX12_image 23 = .ok (.iload_n 1, 1) := by decide +kernel
theorem dX12_image_24 : decode cX12_image 24 = .ok (.iaload, 1) := by decide +kernel
theorem dX12_image_25 : decode cX12_image 25 = .ok (.iastore, 1) := by decide +kernel
theorem dX12_image_26 : decode cX12_image 26 = .ok (.iinc 1 1, 3) := by decide +kernel
theorem dX12_image_29 : decode cX12_image 29 = .ok (.goto (-22), 3) := by decide +kernel
theorem dX12_image_32 : decode cX12_image 32 = .ok (.aload_n 0, 1) := by decide +kernel
theorem dX12_image_33 : decode cX12_image 33 = .ok (.iconst 1, 1) := by decide +kernel
theorem dX12_image_34 : decode cX12_image 34 = .ok (.putfield 298, 3) := by decide +kernel
theorem dX12_image_37 : decode cX12_image 37 = .ok (.return_, 1) := by decide +kernel
theorem dX12_back_0 : decode cX12_back 0 = .ok (.aload_n 0, 1) := by decide +kernel
theorem dX12_back_1 : decode cX12_back 1 = .ok (.iconst 0, 1) := by decide +kernel
theorem dX12_back_2 : decode cX12_back 2 = .ok (.putfield 59, 3) := by decide +kernel
theorem dX12_back_5 : decode cX12_back 5 = .ok (.aload_n 0, 1) := by decide +kernel
theorem dX12_back_6 : decode cX12_back 6 = .ok (.getfield 298, 3) := by decide +kernel
theorem dX12_back_9 : decode cX12_back 9 = .ok (.ifCond .ne 5, 3) := by decide +kernel
theorem dX12_back_12 : decode cX12_back 12 = .ok (.iconst 0, 1) := by decide +kernel
theorem dX12_back_13 : decode cX12_back 13 = .ok (.ireturn, 1) := by decide +kernel
theorem dX12_back_14 : decode cX12_back 14 = .ok (.iconst 0, 1) := by decide +kernel
theorem dX12_back_15 : decode cX12_back 15 = .ok (.istore_n 1, 1) := by decide +kernel
theorem dX12_back_16 : decode cX12_back 16 = .ok (.iload_n 1, 1) := by decide +kernel
theorem dX12_back_17 : decode cX12_back 17 = .ok (.sipush 648, 3) := by decide +kernel
theorem dX12_back_20 : decode cX12_back 20 = .ok (.if_icmp .ge 21, 3) := by decide +kernel
theorem dX12_back_23 : decode cX12_back 23 = .ok (.aload_n 0, 1) := by decide +kernel
theorem dX12_back_24 : decode cX12_back 24 = .ok (.getfield 7, 3) := by decide +kernel
theorem dX12_back_27 : decode cX12_back 27 = .ok (.iload_n 1, 1) := by decide +kernel
theorem dX12_back_28 : decode cX12_back 28 = .ok (.aload_n 0, 1) := by decide +kernel
theorem dX12_back_29 : decode cX12_back 29 = .ok (.getfield 13, 3) := by decide +kernel
theorem dX12_back_32 : decode cX12_back 32 = .ok (.iload_n 1, 1) := by decide +kernel
theorem dX12_back_33 : decode cX12_back 33 = .ok (.iaload, 1) := by decide +kernel
theorem dX12_back_34 : decode cX12_back 34 = .ok (.iastore, 1) := by decide +kernel
theorem dX12_back_35 : decode cX12_back 35 = .ok (.iinc 1 1, 3) := by decide +kernel
theorem dX12_back_38 : decode cX12_back 38 = .ok (.goto (-22), 3) := by decide +kernel
theorem dX12_back_41 : decode cX12_back 41 = .ok (.iconst 1, 1) := by decide +kernel
theorem dX12_back_42 : decode cX12_back 42 = .ok (.ireturn, 1) := by decide +kernel
theorem dX12_count_0 : decode cX12_count 0 = .ok (.aload_n 0, 1) := by decide +kernel
theorem dX12_count_1 : decode cX12_count 1 = .ok (.iconst 0, 1) := by decide +kernel
theorem dX12_count_2 : decode cX12_count 2 = .ok (.putfield 59, 3) := by decide +kernel
theorem dX12_count_5 : decode cX12_count 5 = .ok (.iload_n 1, 1) := by decide +kernel
theorem dX12_count_6 : decode cX12_count 6 = .ok (.iconst 4, 1) := by decide +kernel
theorem dX12_count_7 : decode cX12_count 7 = .ok (.if_icmp .ne 10, 3) := by decide +kernel
theorem dX12_count_10 : decode cX12_count 10 = .ok (.aload_n 0, 1) := by decide +kernel
theorem dX12_count_11 : decode cX12_count 11 = .ok (.getfield 7, 3) := by decide +kernel
theorem dX12_count_14 : decode cX12_count 14 = .ok (.iconst 4, 1) := by decide +kernel
theorem dX12_count_15 : decode cX12_count 15 = .ok (.iaload, 1) := by decide +kernel
theorem dX12_count_16 : decode cX12_count 16 = .ok (.ireturn, 1) := by decide +kernel
theorem dX12_count_17 : decode cX12_count 17 = .ok (.iload_n 1, 1) := by decide +kernel
theorem dX12_count_18 : decode cX12_count 18 = .ok (.iconst 5, 1) := by decide +kernel
theorem dX12_count_19 : decode cX12_count 19 = .ok (.if_icmp .ne 8, 3) := by decide +kernel
theorem dX12_count_22 : decode cX12_count 22 = .ok (.aload_n 0, 1) := by decide +kernel
theorem dX12_count_23 : decode cX12_count 23 = .ok (.invokevirtual 78, 3) := by decide +kernel
theorem dX12_count_26 : decode cX12_count 26 = .ok (.ireturn, 1) := by decide +kernel
theorem dX12_count_27 : decode cX12_count 27 = .ok (.iload_n 1, 1) := by decide +kernel
theorem dX12_count_28 : decode cX12_count 28 = .ok (.ifCond .ne 12, 3) := by decide +kernel
theorem dX12_count_31 : decode cX12_count 31 = .ok (.aload_n 0, 1) := by decide +kernel
theorem dX12_count_32 : decode cX12_count 32 = .ok (.getfield 7, 3) := by decide +kernel
theorem dX12_count_35 : decode cX12_count 35 = .ok (.iconst 1, 1) := by decide +kernel
theorem dX12_count_36 : decode cX12_count 36 = .ok (.iaload, 1) := by decide +kernel
theorem dX12_count_37 : decode cX12_count 37 = .ok (.goto 141, 3) := by decide +kernel
theorem dX12_count_40 : decode cX12_count 40 = .ok (.iload_n 1, 1) := by decide +kernel
theorem dX12_count_41 : decode cX12_count 41 = .ok (.iconst 1, 1) := by decide +kernel
theorem dX12_count_42 : decode cX12_count 42 = .ok (.if_icmp .ne 12, 3) := by decide +kernel
theorem dX12_count_45 : decode cX12_count 45 = .ok (.aload_n 0, 1) := by decide +kernel
theorem dX12_count_46 : decode cX12_count 46 = .ok (.getfield 7, 3) := by decide +kernel
theorem dX12_count_49 : decode cX12_count 49 = .ok (.iconst 0, 1) := by decide +kernel
theorem dX12_count_50 : decode cX12_count 50 = .ok (.iaload, 1) := by decide +kernel
theorem dX12_count_51 : decode cX12_count 51 = .ok (.goto 127, 3) := by decide +kernel
theorem dX12_count_54 : decode cX12_count 54 = .ok (.iload_n 1, 1) := by decide +kernel
theorem dX12_count_55 : decode cX12_count 55 = .ok (.iconst 2, 1) := by decide +kernel
theorem dX12_count_56 : decode cX12_count 56 = .ok (.if_icmp .ne 12, 3) := by decide +kernel
theorem dX12_count_59 : decode cX12_count 59 = .ok (.aload_n 0, 1) := by decide +kernel
theorem dX12_count_60 : decode cX12_count 60 = .ok (.getfield 7, 3) := by decide +kernel
theorem dX12_count_63 : decode cX12_count 63 = .ok (.iconst 2, 1) := by decide +kernel
theorem dX12_count_64 : decode cX12_count 64 = .ok (.iaload, 1) := by decide +kernel
theorem dX12_count_65 : decode cX12_count 65 = .ok (.goto 113, 3) := by decide +kernel
theorem dX12_count_68 : decode cX12_count 68 = .ok (.iload_n 1, 1) := by decide +kernel
theorem dX12_count_69 : decode cX12_count 69 = .ok (.iconst 3, 1) := by decide +kernel
theorem dX12_count_70 : decode cX12_count 70 = .ok (.if_icmp .ne 12, 3) := by decide +kernel
theorem dX12_count_73 : decode cX12_count 73 = .ok (.aload_n 0, 1) := by decide +kernel
theorem dX12_count_74 : decode cX12_count 74 = .ok (.getfield 7, 3) := by decide +kernel
theorem dX12_count_77 : decode cX12_count 77 = .ok (.iconst 3, 1) := by decide +kernel
theorem dX12_count_78 : decode cX12_count 78 = .ok (.iaload, 1) := by decide +kernel
theorem dX12_count_79 : decode cX12_count 79 = .ok (.goto 99, 3) := by decide +kernel
theorem dX12_count_82 : decode cX12_count 82 = .ok (.iload_n 1, 1) := by decide +kernel
theorem dX12_count_83 : decode cX12_count 83 = .ok (.bipush 6, 2) := by decide +kernel
theorem dX12_count_85 : decode cX12_count 85 = .ok (.if_icmp .ne 12, 3) := by decide +kernel
theorem dX12_count_88 : decode cX12_count 88 = .ok (.aload_n 0, 1) := by decide +kernel
theorem dX12_count_89 : decode cX12_count 89 = .ok (.getfield 7, 3) := by decide +kernel
theorem dX12_count_92 : decode cX12_count 92 = .ok (.iconst 5, 1) := by decide +kernel
theorem dX12_count_93 : decode cX12_count 93 = .ok (.iaload, 1) := by decide +kernel
theorem dX12_count_94 : decode cX12_count 94 = .ok (.goto 84, 3) := by decide +kernel
theorem dX12_count_97 : decode cX12_count 97 = .ok (.iload_n 1, 1) := by decide +kernel
theorem dX12_count_98 : decode cX12_count 98 = .ok (.bipush 7, 2) := by decide +kernel
theorem dX12_count_100 : decode cX12_count 100 = .ok (.if_icmp .ne 13, 3) := by decide +kernel
theorem dX12_count_103 : decode cX12_count 103 = .ok (.aload_n 0, 1) := by decide +kernel
theorem dX12_count_104 : decode cX12_count 104 = .ok (.getfield 7, 3) := by decide +kernel
theorem dX12_count_107 : decode cX12_count 107 = .ok (.bipush 6, 2) := by decide +kernel
theorem dX12_count_109 : decode cX12_count 109 = .ok (.iaload, 1) := by decide +kernel
theorem dX12_count_110 : decode cX12_count 110 = .ok (.goto 68, 3) := by decide +kernel
theorem dX12_count_113 : decode cX12_count 113 = .ok (.iload_n 1, 1) := by decide +kernel
theorem dX12_count_114 : decode cX12_count 114 = .ok (.bipush 8, 2) := by decide +kernel
theorem dX12_count_116 : decode cX12_count 116 = .ok (.if_icmp .ne 13, 3) := by decide +kernel
theorem dX12_count_119 : decode cX12_count 119 = .ok (.aload_n 0, 1) := by decide +kernel
theorem dX12_count_120 : decode cX12_count 120 = .ok (.getfield 7, 3) := by decide +kernel
theorem dX12_count_123 : decode cX12_count 123 = .ok (.bipush 7, 2) := by decide +kernel
theorem dX12_count_125 : decode cX12_count 125 = .ok (.iaload, 1) := by decide +kernel
theorem dX12_count_126 : decode cX12_count 126 = .ok (.goto 52, 3) := by decide +kernel
theorem dX12_count_129 : decode cX12_count 129 = .ok (.iload_n 1, 1) := by decide +kernel
theorem dX12_count_130 : decode cX12_count 130 = .ok (.bipush 9, 2) := by decide +kernel
theorem dX12_count_132 : decode cX12_count 132 = .ok (.if_icmp .ne 13, 3) := by decide +kernel
theorem dX12_count_135 : decode cX12_count 135 = .ok (.aload_n 0, 1) := by decide +kernel
theorem dX12_count_136 : decode cX12_count 136 = .ok (.getfield 7, 3) := by decide +kernel
theorem dX12_count_139 : decode cX12_count 139 = .ok (.bipush 8, 2) := by decide +kernel
theorem dX12_count_141 : decode cX12_count 141 = .ok (.iaload, 1) := by decide +kernel
theorem dX12_count_142 : decode cX12_count 142 = .ok (.goto 36, 3) := by decide +kernel
theorem dX12_count_145 : decode cX12_count 145 = .ok (.iload_n 1, 1) := by decide +kernel
theorem dX12_count_146 : decode cX12_count 146 = .ok (.bipush 10, 2) := by decide +kernel
theorem dX12_count_148 : decode cX12_count 148 = .ok (.if_icmp .ne 13, 3) := by decide +kernel
theorem dX12_count_151 : decode cX12_count 151 = .ok (.aload_n 0, 1) := by decide +kernel
theorem dX12_count_152 : decode cX12_count 152 = .ok (.getfield 7, 3) := by decide +kernel
theorem dX12_count_155 : decode cX12_count 155 = .ok (.bipush 10, 2) := by decide +kernel
theorem dX12_count_157 : decode cX12_count 157 = .ok (.iaload, 1) := by decide +kernel
theorem dX12_count_158 : decode cX12_count 158 = .ok (.goto 20, 3) := by decide +kernel
theorem dX12_count_161 : decode cX12_count 161 = .ok (.iload_n 1, 1) := by decide +kernel
theorem dX12_count_162 : decode cX12_count 162 = .ok (.bipush 11, 2) := by decide +kernel
theorem dX12_count_164 : decode cX12_count 164 = .ok (.if_icmp .ne 13, 3) := by decide +kernel
theorem dX12_count_167 : decode cX12_count 167 = .ok (.aload_n 0, 1) := by decide +kernel
theorem dX12_count_168 : decode cX12_count 168 = .ok (.getfield 7, 3) := by decide +kernel
theorem dX12_count_171 : decode cX12_count 171 = .ok (.bipush 11, 2) := by decide +kernel
theorem dX12_count_173 : decode cX12_count 173 = .ok (.iaload, 1) := by decide +kernel
theorem dX12_count_174 : decode cX12_count 174 = .ok (.goto 4, 3) := by decide +kernel
theorem dX12_count_177 : decode cX12_count 177 = .ok (.iconst (-1), 1) := by decide +kernel
theorem dX12_count_178 : decode cX12_count 178 = .ok (.ireturn, 1) := by decide +kernel
theorem dJ6_compare_7cf53_0 : decode cJ6_compare_7cf53 0 = .ok (.iload_n 0, 1) := by decide +kernel
theorem dJ6_compare_7cf53_1 : decode cJ6_compare_7cf53 1 = .ok (.iload_n 1, 1) := by decide +kernel
theorem dJ6_compare_7cf53_2 : decode cJ6_compare_7cf53 2 = .ok (.if_icmp .ge 7, 3) := by decide +kernel
theorem dJ6_compare_7cf53_5 : decode cJ6_compare_7cf53 5 = .ok (.iconst (-1), 1) := by decide +kernel
theorem dJ6_compare_7cf53_6 : decode cJ6_compare_7cf53 6 = .ok (.goto 13, 3) := by decide +kernel
theorem dJ6_compare_7cf53_9 : decode cJ6_compare_7cf53 9 = .ok (.iload_n 0, 1) := by decide +kernel
theorem dJ6_compare_7cf53_10 : decode cJ6_compare_7cf53 10 = .ok (.iload_n 1, 1) := by decide +kernel
theorem dJ6_compare_7cf53_11 : decode cJ6_compare_7cf53 11 = .ok (.if_icmp .ne 7, 3) := by decide +kernel
theorem dJ6_compare_7cf53_14 : decode cJ6_compare_7cf53 14 = .ok (.iconst 0, 1) := by decide +kernel
theorem dJ6_compare_7cf53_15 : decode cJ6_compare_7cf53 15 = .ok (.goto 4, 3) := by decide +kernel
theorem dJ6_compare_7cf53_18 : decode cJ6_compare_7cf53 18 = .ok (.iconst 1, 1) := by decide +kernel
theorem dJ6_compare_7cf53_19 : decode cJ6_compare_7cf53 19 = .ok (.ireturn, 1) := by decide +kernel
theorem dJ6_bitCount_0f7a4_0 : decode cJ6_bitCount_0f7a4 0 = .ok (.iload_n 0, 1) := by decide +kernel
theorem dJ6_bitCount_0f7a4_1 : decode cJ6_bitCount_0f7a4 1 = .ok (.iload_n 0, 1) := by decide +kernel
theorem dJ6_bitCount_0f7a4_2 : decode cJ6_bitCount_0f7a4 2 = .ok (.iconst 1, 1) := by decide +kernel
theorem dJ6_bitCount_0f7a4_3 : decode cJ6_bitCount_0f7a4 3 = .ok (.iushr, 1) := by decide +kernel
theorem dJ6_bitCount_0f7a4_4 : decode cJ6_bitCount_0f7a4 4 = .ok (.ldc_w 265, 3) := by decide +kernel
theorem dJ6_bitCount_0f7a4_7 : decode cJ6_bitCount_0f7a4 7 = .ok (.iand, 1) := by decide +kernel
theorem dJ6_bitCount_0f7a4_8 : decode cJ6_bitCount_0f7a4 8 = .ok (.isub, 1) := by decide +kernel
theorem dJ6_bitCount_0f7a4_9 : decode cJ6_bitCount_0f7a4 9 = .ok (.istore_n 0, 1) := by decide +kernel
theorem dJ6_bitCount_0f7a4_10 : decode cJ6_bitCount_0f7a4 10 = .ok (.iload_n 0, 1) := by decide +kernel
theorem dJ6_bitCount_0f7a4_11 : decode cJ6_bitCount_0f7a4 11 = .ok (.ldc_w 266, 3) := by decide +kernel
theorem dJ6_bitCount_0f7a4_14 : decode cJ6_bitCount_0f7a4 14 = .ok (.iand, 1) := by decide +kernel
theorem dJ6_bitCount_0f7a4_15 : decode cJ6_bitCount_0f7a4 15 = .ok (.iload_n 0, 1) := by decide +kernel
theorem dJ6_bitCount_0f7a4_16 : decode cJ6_bitCount_0f7a4 16 = .ok (.iconst 2, 1) := by decide +kernel
theorem dJ6_bitCount_0f7a4_17 : decode cJ6_bitCount_0f7a4 17 = .ok (.iushr, 1) := by decide +kernel
theorem dJ6_bitCount_0f7a4_18 : decode cJ6_bitCount_0f7a4 18 = .ok (.ldc_w 266, 3) := by decide +kernel
theorem dJ6_bitCount_0f7a4_21 : decode cJ6_bitCount_0f7a4 21 = .ok (.iand, 1) := by decide +kernel
theorem dJ6_bitCount_0f7a4_22 : decode cJ6_bitCount_0f7a4 22 = .ok (.iadd, 1) := by decide +kernel
theorem dJ6_bitCount_0f7a4_23 : decode cJ6_bitCount_0f7a4 23 = .ok (.istore_n 0, 1) := by decide +kernel
theorem dJ6_bitCount_0f7a4_24 : decode cJ6_bitCount_0f7a4 24 = .ok (.iload_n 0, 1) := by decide +kernel
theorem dJ6_bitCount_0f7a4_25 : decode cJ6_bitCount_0f7a4 25 = .ok (.iload_n 0, 1) := by decide +kernel
theorem dJ6_bitCount_0f7a4_26 : decode cJ6_bitCount_0f7a4 26 = .ok (.iconst 4, 1) := by decide +kernel
theorem dJ6_bitCount_0f7a4_27 : decode cJ6_bitCount_0f7a4 27 = .ok (.iushr, 1) := by decide +kernel
theorem dJ6_bitCount_0f7a4_28 : decode cJ6_bitCount_0f7a4 28 = .ok (.iadd, 1) := by decide +kernel
theorem dJ6_bitCount_0f7a4_29 : decode cJ6_bitCount_0f7a4 29 = .ok (.ldc_w 267, 3) := by decide +kernel
theorem dJ6_bitCount_0f7a4_32 : decode cJ6_bitCount_0f7a4 32 = .ok (.iand, 1) := by decide +kernel
theorem dJ6_bitCount_0f7a4_33 : decode cJ6_bitCount_0f7a4 33 = .ok (.istore_n 0, 1) := by decide +kernel
theorem dJ6_bitCount_0f7a4_34 : decode cJ6_bitCount_0f7a4 34 = .ok (.iload_n 0, 1) := by decide +kernel
theorem dJ6_bitCount_0f7a4_35 : decode cJ6_bitCount_0f7a4 35 = .ok (.iload_n 0, 1) := by decide +kernel
theorem dJ6_bitCount_0f7a4_36 : decode cJ6_bitCount_0f7a4 36 = .ok (.bipush 8, 2) := by decide +kernel
theorem dJ6_bitCount_0f7a4_38 : decode cJ6_bitCount_0f7a4 38 = .ok (.iushr, 1) := by decide +kernel
theorem dJ6_bitCount_0f7a4_39 : decode cJ6_bitCount_0f7a4 39 = .ok (.iadd, 1) := by decide +kernel
theorem dJ6_bitCount_0f7a4_40 : decode cJ6_bitCount_0f7a4 40 = .ok (.istore_n 0, 1) := by decide +kernel
theorem dJ6_bitCount_0f7a4_41 : decode cJ6_bitCount_0f7a4 41 = .ok (.iload_n 0, 1) := by decide +kernel
theorem dJ6_bitCount_0f7a4_42 : decode cJ6_bitCount_0f7a4 42 = .ok (.iload_n 0, 1) := by decide +kernel
theorem dJ6_bitCount_0f7a4_43 : decode cJ6_bitCount_0f7a4 43 = .ok (.bipush 16, 2) := by decide +kernel
theorem dJ6_bitCount_0f7a4_45 : decode cJ6_bitCount_0f7a4 45 = .ok (.iushr, 1) := by decide +kernel
theorem dJ6_bitCount_0f7a4_46 : decode cJ6_bitCount_0f7a4 46 = .ok (.iadd, 1) := by decide +kernel
theorem dJ6_bitCount_0f7a4_47 : decode cJ6_bitCount_0f7a4 47 = .ok (.istore_n 0, 1) := by decide +kernel
theorem dJ6_bitCount_0f7a4_48 : decode cJ6_bitCount_0f7a4 48 = .ok (.iload_n 0, 1) := by decide +kernel
theorem dJ6_bitCount_0f7a4_49 : decode cJ6_bitCount_0f7a4 49 = .ok (.bipush 63, 2) := by decide +kernel
theorem dJ6_bitCount_0f7a4_51 : decode cJ6_bitCount_0f7a4 51 = .ok (.iand, 1) := by decide +kernel
theorem dJ6_bitCount_0f7a4_52 : decode cJ6_bitCount_0f7a4 52 = .ok (.ireturn, 1) := by decide +kernel
theorem dJ9_floorMod_7cf53_0 : decode cJ9_floorMod_7cf53 0 = .ok (.iload_n 0, 1) := by decide +kernel
theorem dJ9_floorMod_7cf53_1 : decode cJ9_floorMod_7cf53 1 = .ok (.iload_n 1, 1) := by decide +kernel
theorem dJ9_floorMod_7cf53_2 : decode cJ9_floorMod_7cf53 2 = .ok (.irem, 1) := by decide +kernel
theorem dJ9_floorMod_7cf53_3 : decode cJ9_floorMod_7cf53 3 = .ok (.istore_n 2, 1) := by decide +kernel
theorem dJ9_floorMod_7cf53_4 : decode cJ9_floorMod_7cf53 4 = .ok (.iload_n 0, 1) := by decide +kernel
theorem dJ9_floorMod_7cf53_5 : decode cJ9_floorMod_7cf53 5 = .ok (.iload_n 1, 1) := by decide +kernel
theorem dJ9_floorMod_7cf53_6 : decode cJ9_floorMod_7cf53 6 = .ok (.ixor, 1) := by decide +kernel
theorem dJ9_floorMod_7cf53_7 : decode cJ9_floorMod_7cf53 7 = .ok (.ifCond .ge 11, 3) := by decide +kernel
theorem dJ9_floorMod_7cf53_10 : decode cJ9_floorMod_7cf53 10 = .ok (.iload_n 2, 1) := by decide +kernel
theorem dJ9_floorMod_7cf53_11 : decode cJ9_floorMod_7cf53 11 = .ok (.ifCond .eq 7, 3) := by decide +kernel
theorem dJ9_floorMod_7cf53_14 : decode cJ9_floorMod_7cf53 14 = .ok (.iload_n 2, 1) := by decide +kernel
theorem dJ9_floorMod_7cf53_15 : decode cJ9_floorMod_7cf53 15 = .ok (.iload_n 1, 1) := by decide +kernel
theorem dJ9_floorMod_7cf53_16 : decode cJ9_floorMod_7cf53 16 = .ok (.iadd, 1) := by decide +kernel
theorem dJ9_floorMod_7cf53_17 : decode cJ9_floorMod_7cf53 17 = .ok (.ireturn, 1) := by decide +kernel
theorem dJ9_floorMod_7cf53_18 : decode cJ9_floorMod_7cf53 18 = .ok (.iload_n 2, 1) := by decide +kernel
theorem dJ9_floorMod_7cf53_19 : decode cJ9_floorMod_7cf53 19 = .ok (.ireturn, 1) := by decide +kernel
theorem dJ9_max_7cf53_0 : decode cJ9_max_7cf53 0 = .ok (.iload_n 0, 1) := by decide +kernel
theorem dJ9_max_7cf53_1 : decode cJ9_max_7cf53 1 = .ok (.iload_n 1, 1) := by decide +kernel
theorem dJ9_max_7cf53_2 : decode cJ9_max_7cf53 2 = .ok (.if_icmp .lt 7, 3) := by decide +kernel
theorem dJ9_max_7cf53_5 : decode cJ9_max_7cf53 5 = .ok (.iload_n 0, 1) := by decide +kernel
theorem dJ9_max_7cf53_6 : decode cJ9_max_7cf53 6 = .ok (.goto 4, 3) := by decide +kernel
theorem dJ9_max_7cf53_9 : decode cJ9_max_7cf53 9 = .ok (.iload_n 1, 1) := by decide +kernel
theorem dJ9_max_7cf53_10 : decode cJ9_max_7cf53 10 = .ok (.ireturn, 1) := by decide +kernel
theorem dJ9_min_7cf53_0 : decode cJ9_min_7cf53 0 = .ok (.iload_n 0, 1) := by decide +kernel
theorem dJ9_min_7cf53_1 : decode cJ9_min_7cf53 1 = .ok (.iload_n 1, 1) := by decide +kernel
theorem dJ9_min_7cf53_2 : decode cJ9_min_7cf53 2 = .ok (.if_icmp .gt 7, 3) := by decide +kernel
theorem dJ9_min_7cf53_5 : decode cJ9_min_7cf53 5 = .ok (.iload_n 0, 1) := by decide +kernel
theorem dJ9_min_7cf53_6 : decode cJ9_min_7cf53 6 = .ok (.goto 4, 3) := by decide +kernel
theorem dJ9_min_7cf53_9 : decode cJ9_min_7cf53 9 = .ok (.iload_n 1, 1) := by decide +kernel
theorem dJ9_min_7cf53_10 : decode cJ9_min_7cf53 10 = .ok (.ireturn, 1) := by decide +kernel
theorem dJ0_length_8abf5_0 : decode cJ0_length_8abf5 0 = .ok (.aload_n 0, 1) := by decide +kernel
theorem dJ0_length_8abf5_1 : decode cJ0_length_8abf5 1 = .ok (.getfield 9, 3) := by decide +kernel
theorem dJ0_length_8abf5_4 : decode cJ0_length_8abf5 4 = .ok (.arraylength, 1) := by decide +kernel
theorem dJ0_length_8abf5_5 : decode cJ0_length_8abf5 5 = .ok (.aload_n 0, 1) := by decide +kernel
theorem dJ0_length_8abf5_6 : decode cJ0_length_8abf5 6 = .ok (.invokevirtual 335, 3) := by decide +kernel
theorem dJ0_length_8abf5_9 : decode cJ0_length_8abf5 9 = .ok (.ishr, 1) := by decide +kernel
theorem dJ0_length_8abf5_10 : decode cJ0_length_8abf5 10 = .ok (.ireturn, 1) := by decide +kernel
theorem dJ0_charAt_5068e_0 : decode cJ0_charAt_5068e 0 = .ok (.aload_n 0, 1) := by decide +kernel
theorem dJ0_charAt_5068e_1 : decode cJ0_charAt_5068e 1 = .ok (.invokevirtual 492, 3) := by decide +kernel
theorem dJ0_charAt_5068e_4 : decode cJ0_charAt_5068e 4 = .ok (.ifCond .eq 12, 3) := by decide +kernel
theorem dJ0_charAt_5068e_7 : decode cJ0_charAt_5068e 7 = .ok (.aload_n 0, 1) := by decide +kernel
theorem dJ0_charAt_5068e_8 : decode cJ0_charAt_5068e 8 = .ok (.getfield 9, 3) := by decide +kernel
theorem dJ0_charAt_5068e_11 : decode cJ0_charAt_5068e 11 = .ok (.iload_n 1, 1) := by decide +kernel
theorem dJ0_charAt_5068e_12 : decode cJ0_charAt_5068e 12 = .ok (.invokestatic 495, 3) := by decide +kernel
theorem dJ0_charAt_5068e_15 : decode cJ0_charAt_5068e 15 = .ok (.ireturn, 1) := by decide +kernel
theorem dJ0_charAt_5068e_16 : decode cJ0_charAt_5068e 16 = .ok (.aload_n 0, 1) := by decide +kernel
theorem dJ0_charAt_5068e_17 : decode cJ0_charAt_5068e 17 = .ok (.getfield 9, 3) := by decide +kernel
theorem dJ0_charAt_5068e_20 : decode cJ0_charAt_5068e 20 = .ok (.iload_n 1, 1) := by decide +kernel
theorem dJ0_charAt_5068e_21 : decode cJ0_charAt_5068e 21 = .ok (.invokestatic 498, 3) := by decide +kernel
theorem dJ0_charAt_5068e_24 : decode cJ0_charAt_5068e 24 = .ok (.ireturn, 1) := by decide +kernel
theorem dJ0_coder_7d493_0 : decode cJ0_coder_7d493 0 = .ok (.getstatic 38, 3) := by decide +kernel
theorem dJ0_coder_7d493_3 : decode cJ0_coder_7d493 3 = .ok (.ifCond .eq 10, 3) := by decide +kernel
theorem dJ0_coder_7d493_6 : decode cJ0_coder_7d493 6 = .ok (.aload_n 0, 1) := by decide +kernel
theorem dJ0_coder_7d493_7 : decode cJ0_coder_7d493 7 = .ok (.getfield 15, 3) := by decide +kernel
theorem dJ0_coder_7d493_10 : decode cJ0_coder_7d493 10 = .ok (.goto 4, 3) := by decide +kernel
theorem dJ0_coder_7d493_13 : decode cJ0_coder_7d493 13 = .ok (.iconst 1, 1) := by decide +kernel
theorem dJ0_coder_7d493_14 : decode cJ0_coder_7d493 14 = .ok (.ireturn, 1) := by decide +kernel
theorem dJ0_isLatin1_aae02_0 : decode cJ0_isLatin1_aae02 0 = .ok (.getstatic 38, 3) := by decide +kernel
theorem dJ0_isLatin1_aae02_3 : decode cJ0_isLatin1_aae02 3 = .ok (.ifCond .eq 14, 3) := by decide +kernel
theorem dJ0_isLatin1_aae02_6 : decode cJ0_isLatin1_aae02 6 = .ok (.aload_n 0, 1) := by decide +kernel
theorem dJ0_isLatin1_aae02_7 : decode cJ0_isLatin1_aae02 7 = .ok (.getfield 15, 3) := by decide +kernel
theorem dJ0_isLatin1_aae02_10 : decode cJ0_isLatin1_aae02 10 = .ok (.ifCond .ne 7, 3) := by decide +kernel
theorem dJ0_isLatin1_aae02_13 : decode cJ0_isLatin1_aae02 13 = .ok (.iconst 1, 1) := by decide +kernel
theorem dJ0_isLatin1_aae02_14 : decode cJ0_isLatin1_aae02 14 = .ok (.goto 4, 3) := by decide +kernel
theorem dJ0_isLatin1_aae02_17 : decode cJ0_isLatin1_aae02 17 = .ok (.iconst 0, 1) := by decide +kernel
theorem dJ0_isLatin1_aae02_18 : decode cJ0_isLatin1_aae02 18 = .ok (.ireturn, 1) := by decide +kernel
theorem dJ0_checkIndex_df160_0 : decode cJ0_checkIndex_df160 0 = .ok (.iload_n 0, 1) := by decide +kernel
theorem dJ0_checkIndex_df160_1 : decode cJ0_checkIndex_df160 1 = .ok (.iload_n 1, 1) := by decide +kernel
theorem dJ0_checkIndex_df160_2 : decode cJ0_checkIndex_df160 2 = .ok (.getstatic 1053, 3) := by decide +kernel
theorem dJ0_checkIndex_df160_5 : decode cJ0_checkIndex_df160 5 = .ok (.invokestatic 1059, 3) := by decide +kernel
theorem dJ0_checkIndex_df160_8 : decode cJ0_checkIndex_df160 8 = .ok (.pop, 1) := by decide +kernel
theorem dJ0_checkIndex_df160_9 : decode cJ0_checkIndex_df160 9 = .ok (.return_, 1) := by decide +kernel
theorem dJ1_charAt_3b067_0 : decode cJ1_charAt_3b067 0 = .ok (.iload_n 1, 1) := by decide +kernel
theorem dJ1_charAt_3b067_1 : decode cJ1_charAt_3b067 1 = .ok (.aload_n 0, 1) := by decide +kernel
theorem dJ1_charAt_3b067_2 : decode cJ1_charAt_3b067 2 = .ok (.arraylength, 1) := by decide +kernel
theorem dJ1_charAt_3b067_3 : decode cJ1_charAt_3b067 3 = .ok (.invokestatic 9, 3) := by decide +kernel
theorem dJ1_charAt_3b067_6 : decode cJ1_charAt_3b067 6 = .ok (.aload_n 0, 1) := by decide +kernel
theorem dJ1_charAt_3b067_7 : decode cJ1_charAt_3b067 7 = .ok (.iload_n 1, 1) := by decide +kernel
theorem dJ1_charAt_3b067_8 : decode cJ1_charAt_3b067 8 = .ok (.baload, 1) := by decide +kernel
theorem dJ1_charAt_3b067_9 : decode cJ1_charAt_3b067 9 = .ok (.sipush 255, 3) := by decide +kernel
theorem dJ1_charAt_3b067_12 : decode cJ1_charAt_3b067 12 = .ok (.iand, 1) := by decide +kernel
theorem dJ1_charAt_3b067_13 : decode cJ1_charAt_3b067 13 = .ok (.i2c, 1) := by decide +kernel
theorem dJ1_charAt_3b067_14 : decode cJ1_charAt_3b067 14 = .ok (.ireturn, 1) := by decide +kernel
theorem dJ2_getChar_3b067_0 : decode cJ2_getChar_3b067 0 = .ok (.getstatic 44, 3) := by decide +kernel
theorem dJ2_getChar_3b067_3 : decode cJ2_getChar_3b067 3 = .ok (.ifCond .ne 25, 3) := by decide +kernel
theorem dJ2_getChar_3b067_6 : decode cJ2_getChar_3b067 6 = .ok (.iload_n 1, 1) := by decide +kernel
theorem dJ2_getChar_3b067_7 : decode cJ2_getChar_3b067 7 = .ok (.ifCond .lt 11, 3) := by decide +kernel
theorem dJ2_getChar_3b067_10 : decode cJ2_getChar_3b067 10 = .ok (.iload_n 1, 1) := by decide +kernel
theorem dJ2_getChar_3b067_11 : decode cJ2_getChar_3b067 11 = .ok (.aload_n 0, 1) := by decide +kernel
theorem dJ2_getChar_3b067_12 : decode cJ2_getChar_3b067 12 = .ok (.invokestatic 48, 3) := by decide +kernel
theorem dJ2_getChar_3b067_15 : decode cJ2_getChar_3b067 15 = .ok (.if_icmp .lt 13, 3) := by decide +kernel
theorem dJ2_getChar_3b067_18 : decode cJ2_getChar_3b067 18 = .ok (.new 52, 3) := by decide +kernel
theorem dJ2_getChar_3b067_21 : decode cJ2_getChar_3b067 21 = .ok (.dup, 1) := by decide +kernel
theorem dJ2_getChar_3b067_22 : decode cJ2_getChar_3b067 22 = .ok (.ldc 54, 2) := by decide +kernel
theorem dJ2_getChar_3b067_24 : decode cJ2_getChar_3b067 24 = .ok (.invokespecial 56, 3) := by decide +kernel
theorem dJ2_getChar_3b067_27 : decode cJ2_getChar_3b067 27 = .ok (.athrow, 1) := by decide +kernel
theorem dJ2_getChar_3b067_28 : decode cJ2_getChar_3b067 28 = .ok (.iload_n 1, 1) := by decide +kernel
theorem dJ2_getChar_3b067_29 : decode cJ2_getChar_3b067 29 = .ok (.iconst 1, 1) := by decide +kernel
theorem dJ2_getChar_3b067_30 : decode cJ2_getChar_3b067 30 = .ok (.ishl, 1) := by decide +kernel
theorem dJ2_getChar_3b067_31 : decode cJ2_getChar_3b067 31 = .ok (.istore_n 1, 1) := by decide +kernel
theorem dJ2_getChar_3b067_32 : decode cJ2_getChar_3b067 32 = .ok (.aload_n 0, 1) := by decide +kernel
theorem dJ2_getChar_3b067_33 : decode cJ2_getChar_3b067 33 = .ok (.iload_n 1, 1) := by decide +kernel
theorem dJ2_getChar_3b067_34 : decode cJ2_getChar_3b067 34 = .ok (.iinc 1 1, 3) := by decide +kernel
theorem dJ2_getChar_3b067_37 : decode cJ2_getChar_3b067 37 = .ok (.baload, 1) := by decide +kernel
theorem dJ2_getChar_3b067_38 : decode cJ2_getChar_3b067 38 = .ok (.sipush 255, 3) := by decide +kernel
theorem dJ2_getChar_3b067_41 : decode cJ2_getChar_3b067 41 = .ok (.iand, 1) := by decide +kernel
theorem dJ2_getChar_3b067_42 : decode cJ2_getChar_3b067 42 = .ok (.getstatic 59, 3) := by decide +kernel
theorem dJ2_getChar_3b067_45 : decode cJ2_getChar_3b067 45 = .ok (.ishl, 1) := by decide +kernel
theorem dJ2_getChar_3b067_46 : decode cJ2_getChar_3b067 46 = .ok (.aload_n 0, 1) := by decide +kernel
theorem dJ2_getChar_3b067_47 : decode cJ2_getChar_3b067 47 = .ok (.iload_n 1, 1) := by decide +kernel
theorem dJ2_getChar_3b067_48 : decode cJ2_getChar_3b067 48 = .ok (.baload, 1) := by decide +kernel
theorem dJ2_getChar_3b067_49 : decode cJ2_getChar_3b067 49 = .ok (.sipush 255, 3) := by decide +kernel
theorem dJ2_getChar_3b067_52 : decode cJ2_getChar_3b067 52 = .ok (.iand, 1) := by decide +kernel
theorem dJ2_getChar_3b067_53 : decode cJ2_getChar_3b067 53 = .ok (.getstatic 63, 3) := by decide +kernel
theorem dJ2_getChar_3b067_56 : decode cJ2_getChar_3b067 56 = .ok (.ishl, 1) := by decide +kernel
theorem dJ2_getChar_3b067_57 : decode cJ2_getChar_3b067 57 = .ok (.ior, 1) := by decide +kernel
theorem dJ2_getChar_3b067_58 : decode cJ2_getChar_3b067 58 = .ok (.i2c, 1) := by decide +kernel
theorem dJ2_getChar_3b067_59 : decode cJ2_getChar_3b067 59 = .ok (.ireturn, 1) := by decide +kernel
theorem dJ2_length_9d52b_0 : decode cJ2_length_9d52b 0 = .ok (.aload_n 0, 1) := by decide +kernel
theorem dJ2_length_9d52b_1 : decode cJ2_length_9d52b 1 = .ok (.arraylength, 1) := by decide +kernel
theorem dJ2_length_9d52b_2 : decode cJ2_length_9d52b 2 = .ok (.iconst 1, 1) := by decide +kernel
theorem dJ2_length_9d52b_3 : decode cJ2_length_9d52b 3 = .ok (.ishr, 1) := by decide +kernel
theorem dJ2_length_9d52b_4 : decode cJ2_length_9d52b 4 = .ok (.ireturn, 1) := by decide +kernel
theorem dJ2_charAt_3b067_0 : decode cJ2_charAt_3b067 0 = .ok (.iload_n 1, 1) := by decide +kernel
theorem dJ2_charAt_3b067_1 : decode cJ2_charAt_3b067 1 = .ok (.aload_n 0, 1) := by decide +kernel
theorem dJ2_charAt_3b067_2 : decode cJ2_charAt_3b067 2 = .ok (.invokestatic 67, 3) := by decide +kernel
theorem dJ2_charAt_3b067_5 : decode cJ2_charAt_3b067 5 = .ok (.aload_n 0, 1) := by decide +kernel
theorem dJ2_charAt_3b067_6 : decode cJ2_charAt_3b067 6 = .ok (.iload_n 1, 1) := by decide +kernel
theorem dJ2_charAt_3b067_7 : decode cJ2_charAt_3b067 7 = .ok (.invokestatic 71, 3) := by decide +kernel
theorem dJ2_charAt_3b067_10 : decode cJ2_charAt_3b067 10 = .ok (.ireturn, 1) := by decide +kernel
theorem dJ2_checkIndex_2214a_0 : decode cJ2_checkIndex_2214a 0 = .ok (.iload_n 0, 1) := by decide +kernel
theorem dJ2_checkIndex_2214a_1 : decode cJ2_checkIndex_2214a 1 = .ok (.aload_n 1, 1) := by decide +kernel
theorem dJ2_checkIndex_2214a_2 : decode cJ2_checkIndex_2214a 2 = .ok (.invokestatic 48, 3) := by decide +kernel
theorem dJ2_checkIndex_2214a_5 : decode cJ2_checkIndex_2214a 5 = .ok (.invokestatic 414, 3) := by decide +kernel
theorem dJ2_checkIndex_2214a_8 : decode cJ2_checkIndex_2214a 8 = .ok (.return_, 1) := by decide +kernel
theorem dJ7_fill_53178_0 : decode cJ7_fill_53178 0 = .ok (.iconst 0, 1) := by decide +kernel
theorem dJ7_fill_53178_1 : decode cJ7_fill_53178 1 = .ok (.istore_n 2, 1) := by decide +kernel
theorem dJ7_fill_53178_2 : decode cJ7_fill_53178 2 = .ok (.aload_n 0, 1) := by decide +kernel
theorem dJ7_fill_53178_3 : decode cJ7_fill_53178 3 = .ok (.arraylength, 1) := by decide +kernel
theorem dJ7_fill_53178_4 : decode cJ7_fill_53178 4 = .ok (.istore_n 3, 1) := by decide +kernel
theorem dJ7_fill_53178_5 : decode cJ7_fill_53178 5 = .ok (.iload_n 2, 1) := by decide +kernel
theorem dJ7_fill_53178_6 : decode cJ7_fill_53178 6 = .ok (.iload_n 3, 1) := by decide +kernel
theorem dJ7_fill_53178_7 : decode cJ7_fill_53178 7 = .ok (.if_icmp .ge 13, 3) := by decide +kernel
theorem dJ7_fill_53178_10 : decode cJ7_fill_53178 10 = .ok (.aload_n 0, 1) := by decide +kernel
theorem dJ7_fill_53178_11 : decode cJ7_fill_53178 11 = .ok (.iload_n 2, 1) := by decide +kernel
theorem dJ7_fill_53178_12 : decode cJ7_fill_53178 12 = .ok (.iload_n 1, 1) := by decide +kernel
theorem dJ7_fill_53178_13 : decode cJ7_fill_53178 13 = .ok (.iastore, 1) := by decide +kernel
theorem dJ7_fill_53178_14 : decode cJ7_fill_53178 14 = .ok (.iinc 2 1, 3) := by decide +kernel
theorem dJ7_fill_53178_17 : decode cJ7_fill_53178 17 = .ok (.goto (-12), 3) := by decide +kernel
theorem dJ7_fill_53178_20 : decode cJ7_fill_53178 20 = .ok (.return_, 1) := by decide +kernel
theorem dJ3_checkIndex_8e157_0 : decode cJ3_checkIndex_8e157 0 = .ok (.iload_n 0, 1) := by decide +kernel
theorem dJ3_checkIndex_8e157_1 : decode cJ3_checkIndex_8e157 1 = .ok (.ifCond .lt 8, 3) := by decide +kernel
theorem dJ3_checkIndex_8e157_4 : decode cJ3_checkIndex_8e157 4 = .ok (.iload_n 0, 1) := by decide +kernel
theorem dJ3_checkIndex_8e157_5 : decode cJ3_checkIndex_8e157 5 = .ok (.iload_n 1, 1) := by decide +kernel
theorem dJ3_checkIndex_8e157_6 : decode cJ3_checkIndex_8e157 6 = .ok (.if_icmp .lt 10, 3) := by decide +kernel
theorem dJ3_checkIndex_8e157_9 : decode cJ3_checkIndex_8e157 9 = .ok (.aload_n 2, 1) := by decide +kernel
theorem dJ3_checkIndex_8e157_10 : decode cJ3_checkIndex_8e157 10 = .ok (.iload_n 0, 1) := by decide +kernel
theorem dJ3_checkIndex_8e157_11 : decode cJ3_checkIndex_8e157 11 = .ok (.iload_n 1, 1) := by decide +kernel
theorem dJ3_checkIndex_8e157_12 : decode cJ3_checkIndex_8e157 12 = .ok (.invokestatic 95, 3) := by decide +kernel
theorem dJ3_checkIndex_8e157_15 : decode cJ3_checkIndex_8e157 15 = .ok (.athrow, 1) := by decide +kernel
theorem dJ3_checkIndex_8e157_16 : decode cJ3_checkIndex_8e157 16 = .ok (.iload_n 0, 1) := by decide +kernel
theorem dJ3_checkIndex_8e157_17 : decode cJ3_checkIndex_8e157 17 = .ok (.ireturn, 1) := by decide +kernel
theorem dL_river_0 : decode cL_river 0 = .ok (.aload_n 1, 1) := by decide +kernel
theorem dL_river_1 : decode cL_river 1 = .ok (.iconst 0, 1) := by decide +kernel
theorem dL_river_2 : decode cL_river 2 = .ok (.aload_n 0, 1) := by decide +kernel
theorem dL_river_3 : decode cL_river 3 = .ok (.invokevirtual 7, 3) := by decide +kernel
theorem dL_river_6 : decode cL_river 6 = .ok (.i2l, 1) := by decide +kernel
theorem dL_river_7 : decode cL_river 7 = .ok (.lastore, 1) := by decide +kernel
theorem dL_river_8 : decode cL_river 8 = .ok (.goto 9, 3) := by decide +kernel
theorem dL_river_11 : decode cL_river 11 = .ok (.astore_n 2, 1) := by decide +kernel
theorem dL_river_12 : decode cL_river 12 = .ok (.iconst 1, 1) := by decide +kernel
theorem dL_river_13 : decode cL_river 13 = .ok (.ireturn, 1) := by decide +kernel
theorem dL_river_14 : decode cL_river 14 = .ok (.astore_n 2, 1) := by decide +kernel
theorem dL_river_15 : decode cL_river 15 = .ok (.iconst 2, 1) := by decide +kernel
theorem dL_river_16 : decode cL_river 16 = .ok (.ireturn, 1) := by decide +kernel
theorem dL_river_17 : decode cL_river 17 = .ok (.iconst 0, 1) := by decide +kernel
theorem dL_river_18 : decode cL_river 18 = .ok (.ireturn, 1) := by decide +kernel
theorem dL_rule_0 : decode cL_rule 0 = .ok (.aload_n 1, 1) := by decide +kernel
theorem dL_rule_1 : decode cL_rule 1 = .ok (.iconst 0, 1) := by decide +kernel
theorem dL_rule_2 : decode cL_rule 2 = .ok (.aload_n 0, 1) := by decide +kernel
theorem dL_rule_3 : decode cL_rule 3 = .ok (.invokevirtual 17, 3) := by decide +kernel
theorem dL_rule_6 : decode cL_rule 6 = .ok (.i2l, 1) := by decide +kernel
theorem dL_rule_7 : decode cL_rule 7 = .ok (.lastore, 1) := by decide +kernel
theorem dL_rule_8 : decode cL_rule 8 = .ok (.goto 6, 3) := by decide +kernel
theorem dL_rule_11 : decode cL_rule 11 = .ok (.astore_n 2, 1) := by decide +kernel
theorem dL_rule_12 : decode cL_rule 12 = .ok (.iconst 1, 1) := by decide +kernel
theorem dL_rule_13 : decode cL_rule 13 = .ok (.ireturn, 1) := by decide +kernel
theorem dL_rule_14 : decode cL_rule 14 = .ok (.iconst 0, 1) := by decide +kernel
theorem dL_rule_15 : decode cL_rule 15 = .ok (.ireturn, 1) := by decide +kernel
theorem dL_look_0 : decode cL_look 0 = .ok (.aload_n 3, 1) := by decide +kernel
theorem dL_look_1 : decode cL_look 1 = .ok (.iconst 0, 1) := by decide +kernel
theorem dL_look_2 : decode cL_look 2 = .ok (.aload_n 0, 1) := by decide +kernel
theorem dL_look_3 : decode cL_look 3 = .ok (.iload_n 1, 1) := by decide +kernel
