theorem dL_areCuttings_135 : decode cL_areCuttings 135 = .ok (.iconst (-1), 1) := by decide +kernel
theorem dL_areCuttings_136 : decode cL_areCuttings 136 = .ok (.istore 5, 2) := by decide +kernel
theorem dL_areCuttings_138 : decode cL_areCuttings 138 = .ok (.iconst 0, 1) := by decide +kernel
theorem dL_areCuttings_139 : decode cL_areCuttings 139 = .ok (.istore 6, 2) := by decide +kernel
theorem dL_areCuttings_141 : decode cL_areCuttings 141 = .ok (.iload 6, 2) := by decide +kernel
theorem dL_areCuttings_143 : decode cL_areCuttings 143 = .ok (.bipush 8, 2) := by decide +kernel
theorem dL_areCuttings_145 : decode cL_areCuttings 145 = .ok (.if_icmp .ge 131, 3) := by decide +kernel
theorem dL_areCuttings_148 : decode cL_areCuttings 148 = .ok (.iload 6, 2) := by decide +kernel
theorem dL_areCuttings_150 : decode cL_areCuttings 150 = .ok (.aload_n 1, 1) := by decide +kernel
theorem dL_areCuttings_151 : decode cL_areCuttings 151 = .ok (.iconst 0, 1) := by decide +kernel
theorem dL_areCuttings_152 : decode cL_areCuttings 152 = .ok (.iaload, 1) := by decide +kernel
theorem dL_areCuttings_153 : decode cL_areCuttings 153 = .ok (.if_icmp .ge 123, 3) := by decide +kernel
theorem dL_areCuttings_156 : decode cL_areCuttings 156 = .ok (.iload 4, 2) := by decide +kernel
theorem dL_areCuttings_158 : decode cL_areCuttings 158 = .ok (.ifCond .eq 118, 3) := by decide +kernel
theorem dL_areCuttings_161 : decode cL_areCuttings 161 = .ok (.aload_n 0, 1) := by decide +kernel
theorem dL_areCuttings_162 : decode cL_areCuttings 162 = .ok (.iload 6, 2) := by decide +kernel
theorem dL_areCuttings_164 : decode cL_areCuttings 164 = .ok (.invokestatic 125, 3) := by decide +kernel
theorem dL_areCuttings_167 : decode cL_areCuttings 167 = .ok (.istore 7, 2) := by decide +kernel
theorem dL_areCuttings_169 : decode cL_areCuttings 169 = .ok (.iload 7, 2) := by decide +kernel
theorem dL_areCuttings_171 : decode cL_areCuttings 171 = .ok (.ifCond .lt 92, 3) := by decide +kernel
theorem dL_areCuttings_174 : decode cL_areCuttings 174 = .ok (.iload 6, 2) := by decide +kernel
theorem dL_areCuttings_176 : decode cL_areCuttings 176 = .ok (.ifCond .ne 19, 3) := by decide +kernel
theorem dL_areCuttings_179 : decode cL_areCuttings 179 = .ok (.iload 7, 2) := by decide +kernel
theorem dL_areCuttings_181 : decode cL_areCuttings 181 = .ok (.aload_n 0, 1) := by decide +kernel
theorem dL_areCuttings_182 : decode cL_areCuttings 182 = .ok (.iconst 0, 1) := by decide +kernel
theorem dL_areCuttings_183 : decode cL_areCuttings 183 = .ok (.aload_n 1, 1) := by decide +kernel
theorem dL_areCuttings_184 : decode cL_areCuttings 184 = .ok (.iconst 0, 1) := by decide +kernel
theorem dL_areCuttings_185 : decode cL_areCuttings 185 = .ok (.iaload, 1) := by decide +kernel
theorem dL_areCuttings_186 : decode cL_areCuttings 186 = .ok (.invokevirtual 50, 3) := by decide +kernel
theorem dL_areCuttings_189 : decode cL_areCuttings 189 = .ok (.if_icmp .ne 74, 3) := by decide +kernel
theorem dL_areCuttings_192 : decode cL_areCuttings 192 = .ok (.goto 10, 3) := by decide +kernel
theorem dL_areCuttings_195 : decode cL_areCuttings 195 = .ok (.iload 7, 2) := by decide +kernel
theorem dL_areCuttings_197 : decode cL_areCuttings 197 = .ok (.iload 5, 2) := by decide +kernel
theorem dL_areCuttings_199 : decode cL_areCuttings 199 = .ok (.if_icmp .gt 64, 3) := by decide +kernel
theorem dL_areCuttings_202 : decode cL_areCuttings 202 = .ok (.iload 7, 2) := by decide +kernel
theorem dL_areCuttings_204 : decode cL_areCuttings 204 = .ok (.iload 6, 2) := by decide +kernel
theorem dL_areCuttings_206 : decode cL_areCuttings 206 = .ok (.aload_n 1, 1) := by decide +kernel
theorem dL_areCuttings_207 : decode cL_areCuttings 207 = .ok (.iconst 1, 1) := by decide +kernel
theorem dL_areCuttings_208 : decode cL_areCuttings 208 = .ok (.iaload, 1) := by decide +kernel
theorem dL_areCuttings_209 : decode cL_areCuttings 209 = .ok (.imul, 1) := by decide +kernel
theorem dL_areCuttings_210 : decode cL_areCuttings 210 = .ok (.iadd, 1) := by decide +kernel
theorem dL_areCuttings_211 : decode cL_areCuttings 211 = .ok (.iload_n 2, 1) := by decide +kernel
theorem dL_areCuttings_212 : decode cL_areCuttings 212 = .ok (.if_icmp .lt 51, 3) := by decide +kernel
theorem dL_areCuttings_215 : decode cL_areCuttings 215 = .ok (.iload 6, 2) := by decide +kernel
theorem dL_areCuttings_217 : decode cL_areCuttings 217 = .ok (.aload_n 0, 1) := by decide +kernel
theorem dL_areCuttings_218 : decode cL_areCuttings 218 = .ok (.invokevirtual 112, 3) := by decide +kernel
theorem dL_areCuttings_221 : decode cL_areCuttings 221 = .ok (.if_icmp .ne 16, 3) := by decide +kernel
theorem dL_areCuttings_224 : decode cL_areCuttings 224 = .ok (.iload 7, 2) := by decide +kernel
theorem dL_areCuttings_226 : decode cL_areCuttings 226 = .ok (.iload 6, 2) := by decide +kernel
theorem dL_areCuttings_228 : decode cL_areCuttings 228 = .ok (.aload_n 1, 1) := by decide +kernel
theorem dL_areCuttings_229 : decode cL_areCuttings 229 = .ok (.iconst 1, 1) := by decide +kernel
theorem dL_areCuttings_230 : decode cL_areCuttings 230 = .ok (.iaload, 1) := by decide +kernel
theorem dL_areCuttings_231 : decode cL_areCuttings 231 = .ok (.imul, 1) := by decide +kernel
theorem dL_areCuttings_232 : decode cL_areCuttings 232 = .ok (.iadd, 1) := by decide +kernel
theorem dL_areCuttings_233 : decode cL_areCuttings 233 = .ok (.iload_n 2, 1) := by decide +kernel
theorem dL_areCuttings_234 : decode cL_areCuttings 234 = .ok (.if_icmp .ne 29, 3) := by decide +kernel
theorem dL_areCuttings_237 : decode cL_areCuttings 237 = .ok (.iload 6, 2) := by decide +kernel
theorem dL_areCuttings_239 : decode cL_areCuttings 239 = .ok (.aload_n 0, 1) := by decide +kernel
theorem dL_areCuttings_240 : decode cL_areCuttings 240 = .ok (.invokevirtual 112, 3) := by decide +kernel
theorem dL_areCuttings_243 : decode cL_areCuttings 243 = .ok (.if_icmp .ge 16, 3) := by decide +kernel
theorem dL_areCuttings_246 : decode cL_areCuttings 246 = .ok (.iload 7, 2) := by decide +kernel
theorem dL_areCuttings_248 : decode cL_areCuttings 248 = .ok (.iload 6, 2) := by decide +kernel
theorem dL_areCuttings_250 : decode cL_areCuttings 250 = .ok (.aload_n 1, 1) := by decide +kernel
theorem dL_areCuttings_251 : decode cL_areCuttings 251 = .ok (.iconst 1, 1) := by decide +kernel
theorem dL_areCuttings_252 : decode cL_areCuttings 252 = .ok (.iaload, 1) := by decide +kernel
theorem dL_areCuttings_253 : decode cL_areCuttings 253 = .ok (.imul, 1) := by decide +kernel
theorem dL_areCuttings_254 : decode cL_areCuttings 254 = .ok (.iadd, 1) := by decide +kernel
theorem dL_areCuttings_255 : decode cL_areCuttings 255 = .ok (.iload_n 2, 1) := by decide +kernel
theorem dL_areCuttings_256 : decode cL_areCuttings 256 = .ok (.if_icmp .le 7, 3) := by decide +kernel
theorem dL_areCuttings_259 : decode cL_areCuttings 259 = .ok (.iconst 1, 1) := by decide +kernel
theorem dL_areCuttings_260 : decode cL_areCuttings 260 = .ok (.goto 4, 3) := by decide +kernel
theorem dL_areCuttings_263 : decode cL_areCuttings 263 = .ok (.iconst 0, 1) := by decide +kernel
theorem dL_areCuttings_264 : decode cL_areCuttings 264 = .ok (.istore 4, 2) := by decide +kernel
theorem dL_areCuttings_266 : decode cL_areCuttings 266 = .ok (.iload 7, 2) := by decide +kernel
theorem dL_areCuttings_268 : decode cL_areCuttings 268 = .ok (.istore 5, 2) := by decide +kernel
theorem dL_areCuttings_270 : decode cL_areCuttings 270 = .ok (.iinc 6 1, 3) := by decide +kernel
theorem dL_areCuttings_273 : decode cL_areCuttings 273 = .ok (.goto (-132), 3) := by decide +kernel
theorem dL_areCuttings_276 : decode cL_areCuttings 276 = .ok (.iload 4, 2) := by decide +kernel
theorem dL_areCuttings_278 : decode cL_areCuttings 278 = .ok (.ifCond .eq 57, 3) := by decide +kernel
theorem dL_areCuttings_281 : decode cL_areCuttings 281 = .ok (.aload_n 0, 1) := by decide +kernel
theorem dL_areCuttings_282 : decode cL_areCuttings 282 = .ok (.aload_n 1, 1) := by decide +kernel
theorem dL_areCuttings_283 : decode cL_areCuttings 283 = .ok (.iconst 0, 1) := by decide +kernel
theorem dL_areCuttings_284 : decode cL_areCuttings 284 = .ok (.iaload, 1) := by decide +kernel
theorem dL_areCuttings_285 : decode cL_areCuttings 285 = .ok (.bipush 119, 2) := by decide +kernel
theorem dL_areCuttings_287 : decode cL_areCuttings 287 = .ok (.if_icmp .le 8, 3) := by decide +kernel
theorem dL_areCuttings_290 : decode cL_areCuttings 290 = .ok (.bipush 120, 2) := by decide +kernel
theorem dL_areCuttings_292 : decode cL_areCuttings 292 = .ok (.goto 6, 3) := by decide +kernel
theorem dL_areCuttings_295 : decode cL_areCuttings 295 = .ok (.aload_n 1, 1) := by decide +kernel
theorem dL_areCuttings_296 : decode cL_areCuttings 296 = .ok (.iconst 0, 1) := by decide +kernel
theorem dL_areCuttings_297 : decode cL_areCuttings 297 = .ok (.iaload, 1) := by decide +kernel
theorem dL_areCuttings_298 : decode cL_areCuttings 298 = .ok (.invokestatic 125, 3) := by decide +kernel
theorem dL_areCuttings_301 : decode cL_areCuttings 301 = .ok (.aload_n 1, 1) := by decide +kernel
theorem dL_areCuttings_302 : decode cL_areCuttings 302 = .ok (.iconst 0, 1) := by decide +kernel
theorem dL_areCuttings_303 : decode cL_areCuttings 303 = .ok (.iaload, 1) := by decide +kernel
theorem dL_areCuttings_304 : decode cL_areCuttings 304 = .ok (.bipush 119, 2) := by decide +kernel
theorem dL_areCuttings_306 : decode cL_areCuttings 306 = .ok (.if_icmp .le 8, 3) := by decide +kernel
theorem dL_areCuttings_309 : decode cL_areCuttings 309 = .ok (.bipush (-20), 2) := by decide +kernel
theorem dL_areCuttings_311 : decode cL_areCuttings 311 = .ok (.goto 5, 3) := by decide +kernel
theorem dL_areCuttings_314 : decode cL_areCuttings 314 = .ok (.bipush (-10), 2) := by decide +kernel
theorem dL_areCuttings_316 : decode cL_areCuttings 316 = .ok (.if_icmp .ne 19, 3) := by decide +kernel
theorem dL_areCuttings_319 : decode cL_areCuttings 319 = .ok (.aload_n 0, 1) := by decide +kernel
theorem dL_areCuttings_320 : decode cL_areCuttings 320 = .ok (.aload_n 1, 1) := by decide +kernel
theorem dL_areCuttings_321 : decode cL_areCuttings 321 = .ok (.iconst 0, 1) := by decide +kernel
theorem dL_areCuttings_322 : decode cL_areCuttings 322 = .ok (.iaload, 1) := by decide +kernel
theorem dL_areCuttings_323 : decode cL_areCuttings 323 = .ok (.iconst 1, 1) := by decide +kernel
theorem dL_areCuttings_324 : decode cL_areCuttings 324 = .ok (.isub, 1) := by decide +kernel
theorem dL_areCuttings_325 : decode cL_areCuttings 325 = .ok (.invokestatic 125, 3) := by decide +kernel
theorem dL_areCuttings_328 : decode cL_areCuttings 328 = .ok (.ifCond .ne 7, 3) := by decide +kernel
theorem dL_areCuttings_331 : decode cL_areCuttings 331 = .ok (.iconst 1, 1) := by decide +kernel
theorem dL_areCuttings_332 : decode cL_areCuttings 332 = .ok (.goto 4, 3) := by decide +kernel
theorem dL_areCuttings_335 : decode cL_areCuttings 335 = .ok (.iconst 0, 1) := by decide +kernel
theorem dL_areCuttings_336 : decode cL_areCuttings 336 = .ok (.ireturn, 1) := by decide +kernel
theorem dL_isGreedy_0 : decode cL_isGreedy 0 = .ok (.iconst 0, 1) := by decide +kernel
theorem dL_isGreedy_1 : decode cL_isGreedy 1 = .ok (.istore_n 2, 1) := by decide +kernel
theorem dL_isGreedy_2 : decode cL_isGreedy 2 = .ok (.iconst 1, 1) := by decide +kernel
theorem dL_isGreedy_3 : decode cL_isGreedy 3 = .ok (.istore_n 3, 1) := by decide +kernel
theorem dL_isGreedy_4 : decode cL_isGreedy 4 = .ok (.iconst 0, 1) := by decide +kernel
theorem dL_isGreedy_5 : decode cL_isGreedy 5 = .ok (.istore 4, 2) := by decide +kernel
theorem dL_isGreedy_7 : decode cL_isGreedy 7 = .ok (.iload 4, 2) := by decide +kernel
theorem dL_isGreedy_9 : decode cL_isGreedy 9 = .ok (.aload_n 0, 1) := by decide +kernel
theorem dL_isGreedy_10 : decode cL_isGreedy 10 = .ok (.invokevirtual 109, 3) := by decide +kernel
theorem dL_isGreedy_13 : decode cL_isGreedy 13 = .ok (.if_icmp .gt 103, 3) := by decide +kernel
theorem dL_isGreedy_16 : decode cL_isGreedy 16 = .ok (.iload_n 3, 1) := by decide +kernel
theorem dL_isGreedy_17 : decode cL_isGreedy 17 = .ok (.ifCond .eq 99, 3) := by decide +kernel
theorem dL_isGreedy_20 : decode cL_isGreedy 20 = .ok (.aload_n 1, 1) := by decide +kernel
theorem dL_isGreedy_21 : decode cL_isGreedy 21 = .ok (.iconst 0, 1) := by decide +kernel
theorem dL_isGreedy_22 : decode cL_isGreedy 22 = .ok (.iaload, 1) := by decide +kernel
theorem dL_isGreedy_23 : decode cL_isGreedy 23 = .ok (.ifCond .le 93, 3) := by decide +kernel
theorem dL_isGreedy_26 : decode cL_isGreedy 26 = .ok (.iload 4, 2) := by decide +kernel
theorem dL_isGreedy_28 : decode cL_isGreedy 28 = .ok (.aload_n 0, 1) := by decide +kernel
theorem dL_isGreedy_29 : decode cL_isGreedy 29 = .ok (.invokevirtual 109, 3) := by decide +kernel
theorem dL_isGreedy_32 : decode cL_isGreedy 32 = .ok (.if_icmp .ge 12, 3) := by decide +kernel
theorem dL_isGreedy_35 : decode cL_isGreedy 35 = .ok (.aload_n 0, 1) := by decide +kernel
theorem dL_isGreedy_36 : decode cL_isGreedy 36 = .ok (.iload 4, 2) := by decide +kernel
theorem dL_isGreedy_38 : decode cL_isGreedy 38 = .ok (.invokevirtual 60, 3) := by decide +kernel
theorem dL_isGreedy_41 : decode cL_isGreedy 41 = .ok (.goto 6, 3) := by decide +kernel
theorem dL_isGreedy_44 : decode cL_isGreedy 44 = .ok (.aload_n 1, 1) := by decide +kernel
theorem dL_isGreedy_45 : decode cL_isGreedy 45 = .ok (.iconst 0, 1) := by decide +kernel
theorem dL_isGreedy_46 : decode cL_isGreedy 46 = .ok (.iaload, 1) := by decide +kernel
theorem dL_isGreedy_47 : decode cL_isGreedy 47 = .ok (.istore 5, 2) := by decide +kernel
theorem dL_isGreedy_49 : decode cL_isGreedy 49 = .ok (.iload_n 2, 1) := by decide +kernel
theorem dL_isGreedy_50 : decode cL_isGreedy 50 = .ok (.iconst 1, 1) := by decide +kernel
theorem dL_isGreedy_51 : decode cL_isGreedy 51 = .ok (.iadd, 1) := by decide +kernel
theorem dL_isGreedy_52 : decode cL_isGreedy 52 = .ok (.istore 6, 2) := by decide +kernel
theorem dL_isGreedy_54 : decode cL_isGreedy 54 = .ok (.iload 6, 2) := by decide +kernel
theorem dL_isGreedy_56 : decode cL_isGreedy 56 = .ok (.iload 5, 2) := by decide +kernel
theorem dL_isGreedy_58 : decode cL_isGreedy 58 = .ok (.if_icmp .ge 49, 3) := by decide +kernel
theorem dL_isGreedy_61 : decode cL_isGreedy 61 = .ok (.iload_n 3, 1) := by decide +kernel
theorem dL_isGreedy_62 : decode cL_isGreedy 62 = .ok (.ifCond .eq 45, 3) := by decide +kernel
theorem dL_isGreedy_65 : decode cL_isGreedy 65 = .ok (.aload_n 0, 1) := by decide +kernel
theorem dL_isGreedy_66 : decode cL_isGreedy 66 = .ok (.iload_n 2, 1) := by decide +kernel
theorem dL_isGreedy_67 : decode cL_isGreedy 67 = .ok (.iload 5, 2) := by decide +kernel
theorem dL_isGreedy_69 : decode cL_isGreedy 69 = .ok (.invokevirtual 50, 3) := by decide +kernel
theorem dL_isGreedy_72 : decode cL_isGreedy 72 = .ok (.aload_n 0, 1) := by decide +kernel
theorem dL_isGreedy_73 : decode cL_isGreedy 73 = .ok (.iload_n 2, 1) := by decide +kernel
theorem dL_isGreedy_74 : decode cL_isGreedy 74 = .ok (.iload 6, 2) := by decide +kernel
theorem dL_isGreedy_76 : decode cL_isGreedy 76 = .ok (.invokevirtual 50, 3) := by decide +kernel
theorem dL_isGreedy_79 : decode cL_isGreedy 79 = .ok (.isub, 1) := by decide +kernel
theorem dL_isGreedy_80 : decode cL_isGreedy 80 = .ok (.aload_n 0, 1) := by decide +kernel
theorem dL_isGreedy_81 : decode cL_isGreedy 81 = .ok (.iload 6, 2) := by decide +kernel
theorem dL_isGreedy_83 : decode cL_isGreedy 83 = .ok (.iload 5, 2) := by decide +kernel
theorem dL_isGreedy_85 : decode cL_isGreedy 85 = .ok (.invokevirtual 50, 3) := by decide +kernel
theorem dL_isGreedy_88 : decode cL_isGreedy 88 = .ok (.isub, 1) := by decide +kernel
theorem dL_isGreedy_89 : decode cL_isGreedy 89 = .ok (.aload_n 1, 1) := by decide +kernel
theorem dL_isGreedy_90 : decode cL_isGreedy 90 = .ok (.iconst 1, 1) := by decide +kernel
theorem dL_isGreedy_91 : decode cL_isGreedy 91 = .ok (.iaload, 1) := by decide +kernel
theorem dL_isGreedy_92 : decode cL_isGreedy 92 = .ok (.if_icmp .gt 7, 3) := by decide +kernel
theorem dL_isGreedy_95 : decode cL_isGreedy 95 = .ok (.iconst 1, 1) := by decide +kernel
theorem dL_isGreedy_96 : decode cL_isGreedy 96 = .ok (.goto 4, 3) := by decide +kernel
theorem dL_isGreedy_99 : decode cL_isGreedy 99 = .ok (.iconst 0, 1) := by decide +kernel
theorem dL_isGreedy_100 : decode cL_isGreedy 100 = .ok (.istore_n 3, 1) := by decide +kernel
theorem dL_isGreedy_101 : decode cL_isGreedy 101 = .ok (.iinc 6 1, 3) := by decide +kernel
theorem dL_isGreedy_104 : decode cL_isGreedy 104 = .ok (.goto (-50), 3) := by decide +kernel
theorem dL_isGreedy_107 : decode cL_isGreedy 107 = .ok (.iload 5, 2) := by decide +kernel
theorem dL_isGreedy_109 : decode cL_isGreedy 109 = .ok (.istore_n 2, 1) := by decide +kernel
theorem dL_isGreedy_110 : decode cL_isGreedy 110 = .ok (.iinc 4 1, 3) := by decide +kernel
theorem dL_isGreedy_113 : decode cL_isGreedy 113 = .ok (.goto (-106), 3) := by decide +kernel
theorem dL_isGreedy_116 : decode cL_isGreedy 116 = .ok (.iload_n 3, 1) := by decide +kernel
theorem dL_isGreedy_117 : decode cL_isGreedy 117 = .ok (.ireturn, 1) := by decide +kernel
theorem dL_isAdded_0 : decode cL_isAdded 0 = .ok (.iload 4, 2) := by decide +kernel
theorem dL_isAdded_2 : decode cL_isAdded 2 = .ok (.iconst 3, 1) := by decide +kernel
theorem dL_isAdded_3 : decode cL_isAdded 3 = .ok (.irem, 1) := by decide +kernel
theorem dL_isAdded_4 : decode cL_isAdded 4 = .ok (.ifCond .ne 7, 3) := by decide +kernel
theorem dL_isAdded_7 : decode cL_isAdded 7 = .ok (.iconst 1, 1) := by decide +kernel
theorem dL_isAdded_8 : decode cL_isAdded 8 = .ok (.goto 4, 3) := by decide +kernel
theorem dL_isAdded_11 : decode cL_isAdded 11 = .ok (.iconst 0, 1) := by decide +kernel
theorem dL_isAdded_12 : decode cL_isAdded 12 = .ok (.istore 5, 2) := by decide +kernel
theorem dL_isAdded_14 : decode cL_isAdded 14 = .ok (.iload 5, 2) := by decide +kernel
theorem dL_isAdded_16 : decode cL_isAdded 16 = .ok (.ifCond .eq 15, 3) := by decide +kernel
theorem dL_isAdded_19 : decode cL_isAdded 19 = .ok (.iload_n 2, 1) := by decide +kernel
theorem dL_isAdded_20 : decode cL_isAdded 20 = .ok (.sipush 2100, 3) := by decide +kernel
theorem dL_isAdded_23 : decode cL_isAdded 23 = .ok (.irem, 1) := by decide +kernel
theorem dL_isAdded_24 : decode cL_isAdded 24 = .ok (.sipush 1050, 3) := by decide +kernel
theorem dL_isAdded_27 : decode cL_isAdded 27 = .ok (.isub, 1) := by decide +kernel
theorem dL_isAdded_28 : decode cL_isAdded 28 = .ok (.goto 25, 3) := by decide +kernel
theorem dL_isAdded_31 : decode cL_isAdded 31 = .ok (.iload_n 3, 1) := by decide +kernel
theorem dL_isAdded_32 : decode cL_isAdded 32 = .ok (.iconst 4, 1) := by decide +kernel
theorem dL_isAdded_33 : decode cL_isAdded 33 = .ok (.irem, 1) := by decide +kernel
theorem dL_isAdded_34 : decode cL_isAdded 34 = .ok (.ifCond .ne 15, 3) := by decide +kernel
theorem dL_isAdded_37 : decode cL_isAdded 37 = .ok (.iload_n 2, 1) := by decide +kernel
theorem dL_isAdded_38 : decode cL_isAdded 38 = .ok (.sipush 2004, 3) := by decide +kernel
theorem dL_isAdded_41 : decode cL_isAdded 41 = .ok (.irem, 1) := by decide +kernel
theorem dL_isAdded_42 : decode cL_isAdded 42 = .ok (.sipush 1002, 3) := by decide +kernel
theorem dL_isAdded_45 : decode cL_isAdded 45 = .ok (.isub, 1) := by decide +kernel
theorem dL_isAdded_46 : decode cL_isAdded 46 = .ok (.goto 7, 3) := by decide +kernel
theorem dL_isAdded_49 : decode cL_isAdded 49 = .ok (.iload_n 2, 1) := by decide +kernel
theorem dL_isAdded_50 : decode cL_isAdded 50 = .ok (.bipush 60, 2) := by decide +kernel
theorem dL_isAdded_52 : decode cL_isAdded 52 = .ok (.irem, 1) := by decide +kernel
theorem dL_isAdded_53 : decode cL_isAdded 53 = .ok (.istore 6, 2) := by decide +kernel
theorem dL_isAdded_55 : decode cL_isAdded 55 = .ok (.iload 4, 2) := by decide +kernel
theorem dL_isAdded_57 : decode cL_isAdded 57 = .ok (.bipush 6, 2) := by decide +kernel
theorem dL_isAdded_59 : decode cL_isAdded 59 = .ok (.irem, 1) := by decide +kernel
theorem dL_isAdded_60 : decode cL_isAdded 60 = .ok (.ifCond .ne 15, 3) := by decide +kernel
theorem dL_isAdded_63 : decode cL_isAdded 63 = .ok (.iload_n 3, 1) := by decide +kernel
theorem dL_isAdded_64 : decode cL_isAdded 64 = .ok (.sipush 2005, 3) := by decide +kernel
theorem dL_isAdded_67 : decode cL_isAdded 67 = .ok (.irem, 1) := by decide +kernel
theorem dL_isAdded_68 : decode cL_isAdded 68 = .ok (.sipush 1002, 3) := by decide +kernel
theorem dL_isAdded_71 : decode cL_isAdded 71 = .ok (.isub, 1) := by decide +kernel
theorem dL_isAdded_72 : decode cL_isAdded 72 = .ok (.goto 9, 3) := by decide +kernel
theorem dL_isAdded_75 : decode cL_isAdded 75 = .ok (.iload_n 3, 1) := by decide +kernel
theorem dL_isAdded_76 : decode cL_isAdded 76 = .ok (.bipush 9, 2) := by decide +kernel
theorem dL_isAdded_78 : decode cL_isAdded 78 = .ok (.irem, 1) := by decide +kernel
theorem dL_isAdded_79 : decode cL_isAdded 79 = .ok (.iconst 4, 1) := by decide +kernel
theorem dL_isAdded_80 : decode cL_isAdded 80 = .ok (.isub, 1) := by decide +kernel
theorem dL_isAdded_81 : decode cL_isAdded 81 = .ok (.istore 7, 2) := by decide +kernel
theorem dL_isAdded_83 : decode cL_isAdded 83 = .ok (.iload 5, 2) := by decide +kernel
theorem dL_isAdded_85 : decode cL_isAdded 85 = .ok (.ifCond .eq 14, 3) := by decide +kernel
theorem dL_isAdded_88 : decode cL_isAdded 88 = .ok (.iload 4, 2) := by decide +kernel
theorem dL_isAdded_90 : decode cL_isAdded 90 = .ok (.bipush 6, 2) := by decide +kernel
theorem dL_isAdded_92 : decode cL_isAdded 92 = .ok (.idiv, 1) := by decide +kernel
theorem dL_isAdded_93 : decode cL_isAdded 93 = .ok (.bipush 12, 2) := by decide +kernel
theorem dL_isAdded_95 : decode cL_isAdded 95 = .ok (.irem, 1) := by decide +kernel
theorem dL_isAdded_96 : decode cL_isAdded 96 = .ok (.goto 4, 3) := by decide +kernel
theorem dL_isAdded_99 : decode cL_isAdded 99 = .ok (.iconst 1, 1) := by decide +kernel
theorem dL_isAdded_100 : decode cL_isAdded 100 = .ok (.istore 8, 2) := by decide +kernel
theorem dL_isAdded_102 : decode cL_isAdded 102 = .ok (.iload 6, 2) := by decide +kernel
theorem dL_isAdded_104 : decode cL_isAdded 104 = .ok (.iload 7, 2) := by decide +kernel
theorem dL_isAdded_106 : decode cL_isAdded 106 = .ok (.iload 8, 2) := by decide +kernel
theorem dL_isAdded_108 : decode cL_isAdded 108 = .ok (.iconst 1, 1) := by decide +kernel
theorem dL_isAdded_109 : decode cL_isAdded 109 = .ok (.isub, 1) := by decide +kernel
theorem dL_isAdded_110 : decode cL_isAdded 110 = .ok (.imul, 1) := by decide +kernel
theorem dL_isAdded_111 : decode cL_isAdded 111 = .ok (.iadd, 1) := by decide +kernel
theorem dL_isAdded_112 : decode cL_isAdded 112 = .ok (.istore 9, 2) := by decide +kernel
theorem dL_isAdded_114 : decode cL_isAdded 114 = .ok (.iload 6, 2) := by decide +kernel
theorem dL_isAdded_116 : decode cL_isAdded 116 = .ok (.sipush (-1000), 3) := by decide +kernel
theorem dL_isAdded_119 : decode cL_isAdded 119 = .ok (.if_icmp .lt 57, 3) := by decide +kernel
theorem dL_isAdded_122 : decode cL_isAdded 122 = .ok (.iload 6, 2) := by decide +kernel
theorem dL_isAdded_124 : decode cL_isAdded 124 = .ok (.sipush 1000, 3) := by decide +kernel
theorem dL_isAdded_127 : decode cL_isAdded 127 = .ok (.if_icmp .gt 49, 3) := by decide +kernel
theorem dL_isAdded_130 : decode cL_isAdded 130 = .ok (.iload 5, 2) := by decide +kernel
theorem dL_isAdded_132 : decode cL_isAdded 132 = .ok (.ifCond .eq 40, 3) := by decide +kernel
theorem dL_isAdded_135 : decode cL_isAdded 135 = .ok (.iload 7, 2) := by decide +kernel
theorem dL_isAdded_137 : decode cL_isAdded 137 = .ok (.sipush (-1000), 3) := by decide +kernel
theorem dL_isAdded_140 : decode cL_isAdded 140 = .ok (.if_icmp .lt 36, 3) := by decide +kernel
theorem dL_isAdded_143 : decode cL_isAdded 143 = .ok (.iload 7, 2) := by decide +kernel
theorem dL_isAdded_145 : decode cL_isAdded 145 = .ok (.sipush 1000, 3) := by decide +kernel
theorem dL_isAdded_148 : decode cL_isAdded 148 = .ok (.if_icmp .gt 28, 3) := by decide +kernel
theorem dL_isAdded_151 : decode cL_isAdded 151 = .ok (.iload 8, 2) := by decide +kernel
theorem dL_isAdded_153 : decode cL_isAdded 153 = .ok (.ifCond .le 23, 3) := by decide +kernel
theorem dL_isAdded_156 : decode cL_isAdded 156 = .ok (.iload 9, 2) := by decide +kernel
theorem dL_isAdded_158 : decode cL_isAdded 158 = .ok (.sipush (-1000), 3) := by decide +kernel
theorem dL_isAdded_161 : decode cL_isAdded 161 = .ok (.if_icmp .lt 15, 3) := by decide +kernel
theorem dL_isAdded_164 : decode cL_isAdded 164 = .ok (.iload 9, 2) := by decide +kernel
theorem dL_isAdded_166 : decode cL_isAdded 166 = .ok (.sipush 1000, 3) := by decide +kernel
theorem dL_isAdded_169 : decode cL_isAdded 169 = .ok (.if_icmp .gt 7, 3) := by decide +kernel
theorem dL_isAdded_172 : decode cL_isAdded 172 = .ok (.iconst 1, 1) := by decide +kernel
theorem dL_isAdded_173 : decode cL_isAdded 173 = .ok (.goto 4, 3) := by decide +kernel
theorem dL_isAdded_176 : decode cL_isAdded 176 = .ok (.iconst 0, 1) := by decide +kernel
theorem dL_isAdded_177 : decode cL_isAdded 177 = .ok (.istore 10, 2) := by decide +kernel
theorem dL_isAdded_179 : decode cL_isAdded 179 = .ok (.aload_n 0, 1) := by decide +kernel
theorem dL_isAdded_180 : decode cL_isAdded 180 = .ok (.invokevirtual 84, 3) := by decide +kernel
theorem dL_isAdded_183 : decode cL_isAdded 183 = .ok (.istore 11, 2) := by decide +kernel
theorem dL_isAdded_185 : decode cL_isAdded 185 = .ok (.aload_n 0, 1) := by decide +kernel
theorem dL_isAdded_186 : decode cL_isAdded 186 = .ok (.iload 5, 2) := by decide +kernel
theorem dL_isAdded_188 : decode cL_isAdded 188 = .ok (.iload 6, 2) := by decide +kernel
theorem dL_isAdded_190 : decode cL_isAdded 190 = .ok (.iload 7, 2) := by decide +kernel
theorem dL_isAdded_192 : decode cL_isAdded 192 = .ok (.iload 8, 2) := by decide +kernel
theorem dL_isAdded_194 : decode cL_isAdded 194 = .ok (.invokestatic 128, 3) := by decide +kernel
theorem dL_isAdded_197 : decode cL_isAdded 197 = .ok (.istore 12, 2) := by decide +kernel
theorem dL_isAdded_199 : decode cL_isAdded 199 = .ok (.iload 10, 2) := by decide +kernel
theorem dL_isAdded_201 : decode cL_isAdded 201 = .ok (.ifCond .eq 14, 3) := by decide +kernel
theorem dL_isAdded_204 : decode cL_isAdded 204 = .ok (.aload_n 1, 1) := by decide +kernel
theorem dL_isAdded_205 : decode cL_isAdded 205 = .ok (.iconst 0, 1) := by decide +kernel
theorem dL_isAdded_206 : decode cL_isAdded 206 = .ok (.iaload, 1) := by decide +kernel
theorem dL_isAdded_207 : decode cL_isAdded 207 = .ok (.iload 8, 2) := by decide +kernel
theorem dL_isAdded_209 : decode cL_isAdded 209 = .ok (.iadd, 1) := by decide +kernel
theorem dL_isAdded_210 : decode cL_isAdded 210 = .ok (.bipush 120, 2) := by decide +kernel
theorem dL_isAdded_212 : decode cL_isAdded 212 = .ok (.if_icmp .le 36, 3) := by decide +kernel
theorem dL_isAdded_215 : decode cL_isAdded 215 = .ok (.iload 12, 2) := by decide +kernel
theorem dL_isAdded_217 : decode cL_isAdded 217 = .ok (.iload 10, 2) := by decide +kernel
theorem dL_isAdded_219 : decode cL_isAdded 219 = .ok (.ifCond .eq 8, 3) := by decide +kernel
theorem dL_isAdded_222 : decode cL_isAdded 222 = .ok (.bipush (-10), 2) := by decide +kernel
theorem dL_isAdded_224 : decode cL_isAdded 224 = .ok (.goto 5, 3) := by decide +kernel
theorem dL_isAdded_227 : decode cL_isAdded 227 = .ok (.bipush (-20), 2) := by decide +kernel
theorem dL_isAdded_229 : decode cL_isAdded 229 = .ok (.if_icmp .ne 17, 3) := by decide +kernel
theorem dL_isAdded_232 : decode cL_isAdded 232 = .ok (.aload_n 0, 1) := by decide +kernel
theorem dL_isAdded_233 : decode cL_isAdded 233 = .ok (.invokevirtual 132, 3) := by decide +kernel
theorem dL_isAdded_236 : decode cL_isAdded 236 = .ok (.aload_n 1, 1) := by decide +kernel
theorem dL_isAdded_237 : decode cL_isAdded 237 = .ok (.iconst 0, 1) := by decide +kernel
theorem dL_isAdded_238 : decode cL_isAdded 238 = .ok (.iaload, 1) := by decide +kernel
theorem dL_isAdded_239 : decode cL_isAdded 239 = .ok (.if_icmp .ne 7, 3) := by decide +kernel
theorem dL_isAdded_242 : decode cL_isAdded 242 = .ok (.iconst 1, 1) := by decide +kernel
theorem dL_isAdded_243 : decode cL_isAdded 243 = .ok (.goto 4, 3) := by decide +kernel
theorem dL_isAdded_246 : decode cL_isAdded 246 = .ok (.iconst 0, 1) := by decide +kernel
theorem dL_isAdded_247 : decode cL_isAdded 247 = .ok (.ireturn, 1) := by decide +kernel
theorem dL_isAdded_248 : decode cL_isAdded 248 = .ok (.aload_n 1, 1) := by decide +kernel
theorem dL_isAdded_249 : decode cL_isAdded 249 = .ok (.iconst 0, 1) := by decide +kernel
theorem dL_isAdded_250 : decode cL_isAdded 250 = .ok (.iaload, 1) := by decide +kernel
theorem dL_isAdded_251 : decode cL_isAdded 251 = .ok (.istore 13, 2) := by decide +kernel
theorem dL_isAdded_253 : decode cL_isAdded 253 = .ok (.aload_n 1, 1) := by decide +kernel
theorem dL_isAdded_254 : decode cL_isAdded 254 = .ok (.iconst 0, 1) := by decide +kernel
theorem dL_isAdded_255 : decode cL_isAdded 255 = .ok (.dup2, 1) := by decide +kernel
theorem dL_isAdded_256 : decode cL_isAdded 256 = .ok (.iaload, 1) := by decide +kernel
theorem dL_isAdded_257 : decode cL_isAdded 257 = .ok (.iload 8, 2) := by decide +kernel
theorem dL_isAdded_259 : decode cL_isAdded 259 = .ok (.iadd, 1) := by decide +kernel
theorem dL_isAdded_260 : decode cL_isAdded 260 = .ok (.iastore, 1) := by decide +kernel
theorem dL_isAdded_261 : decode cL_isAdded 261 = .ok (.aload_n 0, 1) := by decide +kernel
theorem dL_isAdded_262 : decode cL_isAdded 262 = .ok (.invokevirtual 132, 3) := by decide +kernel
theorem dL_isAdded_265 : decode cL_isAdded 265 = .ok (.aload_n 1, 1) := by decide +kernel
theorem dL_isAdded_266 : decode cL_isAdded 266 = .ok (.iconst 0, 1) := by decide +kernel
theorem dL_isAdded_267 : decode cL_isAdded 267 = .ok (.iaload, 1) := by decide +kernel
theorem dL_isAdded_268 : decode cL_isAdded 268 = .ok (.if_icmp .ne 42, 3) := by decide +kernel
theorem dL_isAdded_271 : decode cL_isAdded 271 = .ok (.aload_n 0, 1) := by decide +kernel
theorem dL_isAdded_272 : decode cL_isAdded 272 = .ok (.iload 13, 2) := by decide +kernel
theorem dL_isAdded_274 : decode cL_isAdded 274 = .ok (.invokevirtual 38, 3) := by decide +kernel
theorem dL_isAdded_277 : decode cL_isAdded 277 = .ok (.iload 6, 2) := by decide +kernel
theorem dL_isAdded_279 : decode cL_isAdded 279 = .ok (.if_icmp .ne 31, 3) := by decide +kernel
theorem dL_isAdded_282 : decode cL_isAdded 282 = .ok (.aload_n 0, 1) := by decide +kernel
theorem dL_isAdded_283 : decode cL_isAdded 283 = .ok (.aload_n 1, 1) := by decide +kernel
theorem dL_isAdded_284 : decode cL_isAdded 284 = .ok (.iconst 0, 1) := by decide +kernel
theorem dL_isAdded_285 : decode cL_isAdded 285 = .ok (.iaload, 1) := by decide +kernel
theorem dL_isAdded_286 : decode cL_isAdded 286 = .ok (.iconst 1, 1) := by decide +kernel
theorem dL_isAdded_287 : decode cL_isAdded 287 = .ok (.isub, 1) := by decide +kernel
theorem dL_isAdded_288 : decode cL_isAdded 288 = .ok (.invokevirtual 38, 3) := by decide +kernel
theorem dL_isAdded_291 : decode cL_isAdded 291 = .ok (.iload 5, 2) := by decide +kernel
theorem dL_isAdded_293 : decode cL_isAdded 293 = .ok (.ifCond .eq 8, 3) := by decide +kernel
theorem dL_isAdded_296 : decode cL_isAdded 296 = .ok (.iload 9, 2) := by decide +kernel
theorem dL_isAdded_298 : decode cL_isAdded 298 = .ok (.goto 5, 3) := by decide +kernel
theorem dL_isAdded_301 : decode cL_isAdded 301 = .ok (.iload 6, 2) := by decide +kernel
theorem dL_isAdded_303 : decode cL_isAdded 303 = .ok (.if_icmp .ne 7, 3) := by decide +kernel
theorem dL_isAdded_306 : decode cL_isAdded 306 = .ok (.iconst 1, 1) := by decide +kernel
theorem dL_isAdded_307 : decode cL_isAdded 307 = .ok (.goto 4, 3) := by decide +kernel
theorem dL_isAdded_310 : decode cL_isAdded 310 = .ok (.iconst 0, 1) := by decide +kernel
theorem dL_isAdded_311 : decode cL_isAdded 311 = .ok (.istore 14, 2) := by decide +kernel
theorem dL_isAdded_313 : decode cL_isAdded 313 = .ok (.aload_n 0, 1) := by decide +kernel
theorem dL_isAdded_314 : decode cL_isAdded 314 = .ok (.invokevirtual 84, 3) := by decide +kernel
theorem dL_isAdded_317 : decode cL_isAdded 317 = .ok (.iload 11, 2) := by decide +kernel
theorem dL_isAdded_319 : decode cL_isAdded 319 = .ok (.isub, 1) := by decide +kernel
theorem dL_isAdded_320 : decode cL_isAdded 320 = .ok (.istore 15, 2) := by decide +kernel
theorem dL_isAdded_322 : decode cL_isAdded 322 = .ok (.iload 14, 2) := by decide +kernel
theorem dL_isAdded_324 : decode cL_isAdded 324 = .ok (.ifCond .eq 75, 3) := by decide +kernel
theorem dL_isAdded_327 : decode cL_isAdded 327 = .ok (.iload 5, 2) := by decide +kernel
theorem dL_isAdded_329 : decode cL_isAdded 329 = .ok (.ifCond .eq 13, 3) := by decide +kernel
theorem dL_isAdded_332 : decode cL_isAdded 332 = .ok (.iload 12, 2) := by decide +kernel
theorem dL_isAdded_334 : decode cL_isAdded 334 = .ok (.iload 15, 2) := by decide +kernel
theorem dL_isAdded_336 : decode cL_isAdded 336 = .ok (.if_icmp .ne 63, 3) := by decide +kernel
theorem dL_isAdded_339 : decode cL_isAdded 339 = .ok (.goto 36, 3) := by decide +kernel
theorem dL_isAdded_342 : decode cL_isAdded 342 = .ok (.iload 12, 2) := by decide +kernel
theorem dL_isAdded_344 : decode cL_isAdded 344 = .ok (.ifCond .lt 55, 3) := by decide +kernel
theorem dL_isAdded_347 : decode cL_isAdded 347 = .ok (.iload 12, 2) := by decide +kernel
theorem dL_isAdded_349 : decode cL_isAdded 349 = .ok (.bipush 8, 2) := by decide +kernel
theorem dL_isAdded_351 : decode cL_isAdded 351 = .ok (.if_icmp .ge 48, 3) := by decide +kernel
theorem dL_isAdded_354 : decode cL_isAdded 354 = .ok (.iload 15, 2) := by decide +kernel
theorem dL_isAdded_356 : decode cL_isAdded 356 = .ok (.iload 12, 2) := by decide +kernel
theorem dL_isAdded_358 : decode cL_isAdded 358 = .ok (.iconst 1, 1) := by decide +kernel
theorem dL_isAdded_359 : decode cL_isAdded 359 = .ok (.iand, 1) := by decide +kernel
theorem dL_isAdded_360 : decode cL_isAdded 360 = .ok (.iload 12, 2) := by decide +kernel
theorem dL_isAdded_362 : decode cL_isAdded 362 = .ok (.iconst 1, 1) := by decide +kernel
theorem dL_isAdded_363 : decode cL_isAdded 363 = .ok (.ishr, 1) := by decide +kernel
theorem dL_isAdded_364 : decode cL_isAdded 364 = .ok (.iconst 1, 1) := by decide +kernel
theorem dL_isAdded_365 : decode cL_isAdded 365 = .ok (.iand, 1) := by decide +kernel
theorem dL_isAdded_366 : decode cL_isAdded 366 = .ok (.iadd, 1) := by decide +kernel
theorem dL_isAdded_367 : decode cL_isAdded 367 = .ok (.iload 12, 2) := by decide +kernel
theorem dL_isAdded_369 : decode cL_isAdded 369 = .ok (.iconst 2, 1) := by decide +kernel
theorem dL_isAdded_370 : decode cL_isAdded 370 = .ok (.ishr, 1) := by decide +kernel
theorem dL_isAdded_371 : decode cL_isAdded 371 = .ok (.iadd, 1) := by decide +kernel
theorem dL_isAdded_372 : decode cL_isAdded 372 = .ok (.if_icmp .ne 27, 3) := by decide +kernel
theorem dL_isAdded_375 : decode cL_isAdded 375 = .ok (.iload 15, 2) := by decide +kernel
theorem dL_isAdded_377 : decode cL_isAdded 377 = .ok (.ifCond .eq 18, 3) := by decide +kernel
theorem dL_isAdded_380 : decode cL_isAdded 380 = .ok (.aload_n 0, 1) := by decide +kernel
theorem dL_isAdded_381 : decode cL_isAdded 381 = .ok (.aload_n 0, 1) := by decide +kernel
theorem dL_isAdded_382 : decode cL_isAdded 382 = .ok (.invokevirtual 84, 3) := by decide +kernel
theorem dL_isAdded_385 : decode cL_isAdded 385 = .ok (.iconst 1, 1) := by decide +kernel
theorem dL_isAdded_386 : decode cL_isAdded 386 = .ok (.isub, 1) := by decide +kernel
theorem dL_isAdded_387 : decode cL_isAdded 387 = .ok (.invokevirtual 44, 3) := by decide +kernel
theorem dL_isAdded_390 : decode cL_isAdded 390 = .ok (.iload 13, 2) := by decide +kernel
theorem dL_isAdded_392 : decode cL_isAdded 392 = .ok (.if_icmp .lt 7, 3) := by decide +kernel
theorem dL_isAdded_395 : decode cL_isAdded 395 = .ok (.iconst 1, 1) := by decide +kernel
theorem dL_isAdded_396 : decode cL_isAdded 396 = .ok (.goto 4, 3) := by decide +kernel
theorem dL_isAdded_399 : decode cL_isAdded 399 = .ok (.iconst 0, 1) := by decide +kernel
theorem dL_isAdded_400 : decode cL_isAdded 400 = .ok (.ireturn, 1) := by decide +kernel
theorem dL_isDone_0 : decode cL_isDone 0 = .ok (.aload_n 1, 1) := by decide +kernel
theorem dL_isDone_1 : decode cL_isDone 1 = .ok (.iload_n 2, 1) := by decide +kernel
theorem dL_isDone_2 : decode cL_isDone 2 = .ok (.bipush 24, 2) := by decide +kernel
theorem dL_isDone_4 : decode cL_isDone 4 = .ok (.invokestatic 135, 3) := by decide +kernel
theorem dL_isDone_7 : decode cL_isDone 7 = .ok (.istore 4, 2) := by decide +kernel
theorem dL_isDone_9 : decode cL_isDone 9 = .ok (.aload_n 1, 1) := by decide +kernel
theorem dL_isDone_10 : decode cL_isDone 10 = .ok (.iload_n 2, 1) := by decide +kernel
theorem dL_isDone_11 : decode cL_isDone 11 = .ok (.iconst 1, 1) := by decide +kernel
theorem dL_isDone_12 : decode cL_isDone 12 = .ok (.iadd, 1) := by decide +kernel
theorem dL_isDone_13 : decode cL_isDone 13 = .ok (.sipush 6000, 3) := by decide +kernel
theorem dL_isDone_16 : decode cL_isDone 16 = .ok (.invokestatic 135, 3) := by decide +kernel
theorem dL_isDone_19 : decode cL_isDone 19 = .ok (.istore 5, 2) := by decide +kernel
theorem dL_isDone_21 : decode cL_isDone 21 = .ok (.aload_n 1, 1) := by decide +kernel
theorem dL_isDone_22 : decode cL_isDone 22 = .ok (.iload_n 2, 1) := by decide +kernel
theorem dL_isDone_23 : decode cL_isDone 23 = .ok (.iconst 2, 1) := by decide +kernel
theorem dL_isDone_24 : decode cL_isDone 24 = .ok (.iadd, 1) := by decide +kernel
theorem dL_isDone_25 : decode cL_isDone 25 = .ok (.sipush 7000, 3) := by decide +kernel
theorem dL_isDone_28 : decode cL_isDone 28 = .ok (.invokestatic 135, 3) := by decide +kernel
theorem dL_isDone_31 : decode cL_isDone 31 = .ok (.istore 6, 2) := by decide +kernel
theorem dL_isDone_33 : decode cL_isDone 33 = .ok (.aload_n 1, 1) := by decide +kernel
theorem dL_isDone_34 : decode cL_isDone 34 = .ok (.iload_n 2, 1) := by decide +kernel
theorem dL_isDone_35 : decode cL_isDone 35 = .ok (.iconst 3, 1) := by decide +kernel
theorem dL_isDone_36 : decode cL_isDone 36 = .ok (.iadd, 1) := by decide +kernel
theorem dL_isDone_37 : decode cL_isDone 37 = .ok (.sipush 8000, 3) := by decide +kernel
theorem dL_isDone_40 : decode cL_isDone 40 = .ok (.invokestatic 135, 3) := by decide +kernel
theorem dL_isDone_43 : decode cL_isDone 43 = .ok (.istore 7, 2) := by decide +kernel
theorem dL_isDone_45 : decode cL_isDone 45 = .ok (.iload 4, 2) := by decide +kernel
theorem dL_isDone_47 : decode cL_isDone 47 = .ok (.bipush 13, 2) := by decide +kernel
theorem dL_isDone_49 : decode cL_isDone 49 = .ok (.if_icmp .ge 15, 3) := by decide +kernel
theorem dL_isDone_52 : decode cL_isDone 52 = .ok (.aload_n 0, 1) := by decide +kernel
theorem dL_isDone_53 : decode cL_isDone 53 = .ok (.aload_n 3, 1) := by decide +kernel
theorem dL_isDone_54 : decode cL_isDone 54 = .ok (.iload 5, 2) := by decide +kernel
theorem dL_isDone_56 : decode cL_isDone 56 = .ok (.iload 6, 2) := by decide +kernel
theorem dL_isDone_58 : decode cL_isDone 58 = .ok (.iload 7, 2) := by decide +kernel
theorem dL_isDone_60 : decode cL_isDone 60 = .ok (.invokestatic 139, 3) := by decide +kernel
theorem dL_isDone_63 : decode cL_isDone 63 = .ok (.ireturn, 1) := by decide +kernel
theorem dL_isDone_64 : decode cL_isDone 64 = .ok (.iload 4, 2) := by decide +kernel
theorem dL_isDone_66 : decode cL_isDone 66 = .ok (.bipush 15, 2) := by decide +kernel
theorem dL_isDone_68 : decode cL_isDone 68 = .ok (.if_icmp .ge 171, 3) := by decide +kernel
theorem dL_isDone_71 : decode cL_isDone 71 = .ok (.iload 4, 2) := by decide +kernel
theorem dL_isDone_73 : decode cL_isDone 73 = .ok (.bipush 13, 2) := by decide +kernel
theorem dL_isDone_75 : decode cL_isDone 75 = .ok (.if_icmp .ne 23, 3) := by decide +kernel
theorem dL_isDone_78 : decode cL_isDone 78 = .ok (.iload 5, 2) := by decide +kernel
theorem dL_isDone_80 : decode cL_isDone 80 = .ok (.sipush 2003, 3) := by decide +kernel
theorem dL_isDone_83 : decode cL_isDone 83 = .ok (.irem, 1) := by decide +kernel
theorem dL_isDone_84 : decode cL_isDone 84 = .ok (.sipush 2001, 3) := by decide +kernel
theorem dL_isDone_87 : decode cL_isDone 87 = .ok (.if_icmp .ge 7, 3) := by decide +kernel
theorem dL_isDone_90 : decode cL_isDone 90 = .ok (.iconst 1, 1) := by decide +kernel
theorem dL_isDone_91 : decode cL_isDone 91 = .ok (.goto 24, 3) := by decide +kernel
theorem dL_isDone_94 : decode cL_isDone 94 = .ok (.iconst 0, 1) := by decide +kernel
theorem dL_isDone_95 : decode cL_isDone 95 = .ok (.goto 20, 3) := by decide +kernel
theorem dL_isDone_98 : decode cL_isDone 98 = .ok (.iload 6, 2) := by decide +kernel
theorem dL_isDone_100 : decode cL_isDone 100 = .ok (.sipush 1002, 3) := by decide +kernel
theorem dL_isDone_103 : decode cL_isDone 103 = .ok (.irem, 1) := by decide +kernel
theorem dL_isDone_104 : decode cL_isDone 104 = .ok (.sipush 1001, 3) := by decide +kernel
theorem dL_isDone_107 : decode cL_isDone 107 = .ok (.if_icmp .ge 7, 3) := by decide +kernel
theorem dL_isDone_110 : decode cL_isDone 110 = .ok (.iconst 1, 1) := by decide +kernel
theorem dL_isDone_111 : decode cL_isDone 111 = .ok (.goto 4, 3) := by decide +kernel
theorem dL_isDone_114 : decode cL_isDone 114 = .ok (.iconst 0, 1) := by decide +kernel
theorem dL_isDone_115 : decode cL_isDone 115 = .ok (.istore 8, 2) := by decide +kernel
theorem dL_isDone_117 : decode cL_isDone 117 = .ok (.iload 4, 2) := by decide +kernel
theorem dL_isDone_119 : decode cL_isDone 119 = .ok (.bipush 13, 2) := by decide +kernel
theorem dL_isDone_121 : decode cL_isDone 121 = .ok (.if_icmp .ne 32, 3) := by decide +kernel
theorem dL_isDone_124 : decode cL_isDone 124 = .ok (.aload_n 0, 1) := by decide +kernel
theorem dL_isDone_125 : decode cL_isDone 125 = .ok (.iconst 0, 1) := by decide +kernel
theorem dL_isDone_126 : decode cL_isDone 126 = .ok (.iload 5, 2) := by decide +kernel
theorem dL_isDone_128 : decode cL_isDone 128 = .ok (.sipush 2003, 3) := by decide +kernel
theorem dL_isDone_131 : decode cL_isDone 131 = .ok (.irem, 1) := by decide +kernel
theorem dL_isDone_132 : decode cL_isDone 132 = .ok (.sipush 1000, 3) := by decide +kernel
theorem dL_isDone_135 : decode cL_isDone 135 = .ok (.isub, 1) := by decide +kernel
theorem dL_isDone_136 : decode cL_isDone 136 = .ok (.iload 6, 2) := by decide +kernel
theorem dL_isDone_138 : decode cL_isDone 138 = .ok (.bipush 20, 2) := by decide +kernel
theorem dL_isDone_140 : decode cL_isDone 140 = .ok (.irem, 1) := by decide +kernel
theorem dL_isDone_141 : decode cL_isDone 141 = .ok (.iload 7, 2) := by decide +kernel
theorem dL_isDone_143 : decode cL_isDone 143 = .ok (.sipush 200, 3) := by decide +kernel
theorem dL_isDone_146 : decode cL_isDone 146 = .ok (.irem, 1) := by decide +kernel
theorem dL_isDone_147 : decode cL_isDone 147 = .ok (.invokestatic 143, 3) := by decide +kernel
theorem dL_isDone_150 : decode cL_isDone 150 = .ok (.goto 25, 3) := by decide +kernel
theorem dL_isDone_153 : decode cL_isDone 153 = .ok (.aload_n 0, 1) := by decide +kernel
theorem dL_isDone_154 : decode cL_isDone 154 = .ok (.iconst 1, 1) := by decide +kernel
theorem dL_isDone_155 : decode cL_isDone 155 = .ok (.iload 5, 2) := by decide +kernel
theorem dL_isDone_157 : decode cL_isDone 157 = .ok (.bipush 20, 2) := by decide +kernel
theorem dL_isDone_159 : decode cL_isDone 159 = .ok (.irem, 1) := by decide +kernel
theorem dL_isDone_160 : decode cL_isDone 160 = .ok (.iload 6, 2) := by decide +kernel
theorem dL_isDone_162 : decode cL_isDone 162 = .ok (.sipush 1002, 3) := by decide +kernel
theorem dL_isDone_165 : decode cL_isDone 165 = .ok (.irem, 1) := by decide +kernel
theorem dL_isDone_166 : decode cL_isDone 166 = .ok (.iload 7, 2) := by decide +kernel
theorem dL_isDone_168 : decode cL_isDone 168 = .ok (.sipush 200, 3) := by decide +kernel
theorem dL_isDone_171 : decode cL_isDone 171 = .ok (.irem, 1) := by decide +kernel
theorem dL_isDone_172 : decode cL_isDone 172 = .ok (.invokestatic 143, 3) := by decide +kernel
theorem dL_isDone_175 : decode cL_isDone 175 = .ok (.istore 9, 2) := by decide +kernel
theorem dL_isDone_177 : decode cL_isDone 177 = .ok (.iload 9, 2) := by decide +kernel
theorem dL_isDone_179 : decode cL_isDone 179 = .ok (.iload 8, 2) := by decide +kernel
theorem dL_isDone_181 : decode cL_isDone 181 = .ok (.ifCond .eq 7, 3) := by decide +kernel
theorem dL_isDone_184 : decode cL_isDone 184 = .ok (.iconst 0, 1) := by decide +kernel
theorem dL_isDone_185 : decode cL_isDone 185 = .ok (.goto 5, 3) := by decide +kernel
theorem dL_isDone_188 : decode cL_isDone 188 = .ok (.bipush (-20), 2) := by decide +kernel
theorem dL_isDone_190 : decode cL_isDone 190 = .ok (.if_icmp .ne 47, 3) := by decide +kernel
theorem dL_isDone_193 : decode cL_isDone 193 = .ok (.iload 8, 2) := by decide +kernel
theorem dL_isDone_195 : decode cL_isDone 195 = .ok (.ifCond .eq 38, 3) := by decide +kernel
theorem dL_isDone_198 : decode cL_isDone 198 = .ok (.iload 4, 2) := by decide +kernel
theorem dL_isDone_200 : decode cL_isDone 200 = .ok (.bipush 13, 2) := by decide +kernel
theorem dL_isDone_202 : decode cL_isDone 202 = .ok (.if_icmp .ne 17, 3) := by decide +kernel
theorem dL_isDone_205 : decode cL_isDone 205 = .ok (.aload_n 0, 1) := by decide +kernel
theorem dL_isDone_206 : decode cL_isDone 206 = .ok (.invokevirtual 100, 3) := by decide +kernel
theorem dL_isDone_209 : decode cL_isDone 209 = .ok (.ifCond .ne 10, 3) := by decide +kernel
theorem dL_isDone_212 : decode cL_isDone 212 = .ok (.aload_n 0, 1) := by decide +kernel
theorem dL_isDone_213 : decode cL_isDone 213 = .ok (.invokevirtual 103, 3) := by decide +kernel
theorem dL_isDone_216 : decode cL_isDone 216 = .ok (.ifCond .eq 17, 3) := by decide +kernel
theorem dL_isDone_219 : decode cL_isDone 219 = .ok (.iload 4, 2) := by decide +kernel
theorem dL_isDone_221 : decode cL_isDone 221 = .ok (.bipush 14, 2) := by decide +kernel
theorem dL_isDone_223 : decode cL_isDone 223 = .ok (.if_icmp .ne 14, 3) := by decide +kernel
theorem dL_isDone_226 : decode cL_isDone 226 = .ok (.aload_n 0, 1) := by decide +kernel
theorem dL_isDone_227 : decode cL_isDone 227 = .ok (.invokevirtual 106, 3) := by decide +kernel
theorem dL_isDone_230 : decode cL_isDone 230 = .ok (.ifCond .ne 7, 3) := by decide +kernel
theorem dL_isDone_233 : decode cL_isDone 233 = .ok (.iconst 1, 1) := by decide +kernel
theorem dL_isDone_234 : decode cL_isDone 234 = .ok (.goto 4, 3) := by decide +kernel
theorem dL_isDone_237 : decode cL_isDone 237 = .ok (.iconst 0, 1) := by decide +kernel
theorem dL_isDone_238 : decode cL_isDone 238 = .ok (.ireturn, 1) := by decide +kernel
theorem dL_isDone_239 : decode cL_isDone 239 = .ok (.iload 4, 2) := by decide +kernel
theorem dL_isDone_241 : decode cL_isDone 241 = .ok (.bipush 15, 2) := by decide +kernel
theorem dL_isDone_243 : decode cL_isDone 243 = .ok (.if_icmp .ne 77, 3) := by decide +kernel
theorem dL_isDone_246 : decode cL_isDone 246 = .ok (.iload 5, 2) := by decide +kernel
theorem dL_isDone_248 : decode cL_isDone 248 = .ok (.iconst 5, 1) := by decide +kernel
theorem dL_isDone_249 : decode cL_isDone 249 = .ok (.irem, 1) := by decide +kernel
theorem dL_isDone_250 : decode cL_isDone 250 = .ok (.ifCond .ne 8, 3) := by decide +kernel
theorem dL_isDone_253 : decode cL_isDone 253 = .ok (.ldc 146, 2) := by decide +kernel
theorem dL_isDone_255 : decode cL_isDone 255 = .ok (.goto 9, 3) := by decide +kernel
theorem dL_isDone_258 : decode cL_isDone 258 = .ok (.iload 7, 2) := by decide +kernel
theorem dL_isDone_260 : decode cL_isDone 260 = .ok (.sipush 300, 3) := by decide +kernel
theorem dL_isDone_263 : decode cL_isDone 263 = .ok (.irem, 1) := by decide +kernel
theorem dL_isDone_264 : decode cL_isDone 264 = .ok (.istore 8, 2) := by decide +kernel
theorem dL_isDone_266 : decode cL_isDone 266 = .ok (.aload_n 3, 1) := by decide +kernel
theorem dL_isDone_267 : decode cL_isDone 267 = .ok (.iconst 1, 1) := by decide +kernel
theorem dL_isDone_268 : decode cL_isDone 268 = .ok (.iaload, 1) := by decide +kernel
theorem dL_isDone_269 : decode cL_isDone 269 = .ok (.istore 9, 2) := by decide +kernel
theorem dL_isDone_271 : decode cL_isDone 271 = .ok (.aload_n 3, 1) := by decide +kernel
theorem dL_isDone_272 : decode cL_isDone 272 = .ok (.iconst 1, 1) := by decide +kernel
theorem dL_isDone_273 : decode cL_isDone 273 = .ok (.iload 8, 2) := by decide +kernel
theorem dL_isDone_275 : decode cL_isDone 275 = .ok (.ldc 147, 2) := by decide +kernel
theorem dL_isDone_277 : decode cL_isDone 277 = .ok (.if_icmp .le 8, 3) := by decide +kernel
theorem dL_isDone_280 : decode cL_isDone 280 = .ok (.iload 9, 2) := by decide +kernel
theorem dL_isDone_282 : decode cL_isDone 282 = .ok (.goto 5, 3) := by decide +kernel
theorem dL_isDone_285 : decode cL_isDone 285 = .ok (.iload 8, 2) := by decide +kernel
theorem dL_isDone_287 : decode cL_isDone 287 = .ok (.iastore, 1) := by decide +kernel
theorem dL_isDone_288 : decode cL_isDone 288 = .ok (.aload_n 0, 1) := by decide +kernel
theorem dL_isDone_289 : decode cL_isDone 289 = .ok (.iconst 2, 1) := by decide +kernel
theorem dL_isDone_290 : decode cL_isDone 290 = .ok (.iload 8, 2) := by decide +kernel
theorem dL_isDone_292 : decode cL_isDone 292 = .ok (.iconst 0, 1) := by decide +kernel
theorem dL_isDone_293 : decode cL_isDone 293 = .ok (.iconst 0, 1) := by decide +kernel
theorem dL_isDone_294 : decode cL_isDone 294 = .ok (.invokestatic 143, 3) := by decide +kernel
theorem dL_isDone_297 : decode cL_isDone 297 = .ok (.iload 8, 2) := by decide +kernel
theorem dL_isDone_299 : decode cL_isDone 299 = .ok (.ldc 147, 2) := by decide +kernel
theorem dL_isDone_301 : decode cL_isDone 301 = .ok (.if_icmp .le 8, 3) := by decide +kernel
theorem dL_isDone_304 : decode cL_isDone 304 = .ok (.bipush (-20), 2) := by decide +kernel
theorem dL_isDone_306 : decode cL_isDone 306 = .ok (.goto 5, 3) := by decide +kernel
theorem dL_isDone_309 : decode cL_isDone 309 = .ok (.iload 9, 2) := by decide +kernel
theorem dL_isDone_311 : decode cL_isDone 311 = .ok (.if_icmp .ne 7, 3) := by decide +kernel
theorem dL_isDone_314 : decode cL_isDone 314 = .ok (.iconst 1, 1) := by decide +kernel
theorem dL_isDone_315 : decode cL_isDone 315 = .ok (.goto 4, 3) := by decide +kernel
theorem dL_isDone_318 : decode cL_isDone 318 = .ok (.iconst 0, 1) := by decide +kernel
theorem dL_isDone_319 : decode cL_isDone 319 = .ok (.ireturn, 1) := by decide +kernel
theorem dL_isDone_320 : decode cL_isDone 320 = .ok (.iload 4, 2) := by decide +kernel
theorem dL_isDone_322 : decode cL_isDone 322 = .ok (.bipush 19, 2) := by decide +kernel
theorem dL_isDone_324 : decode cL_isDone 324 = .ok (.if_icmp .ge 85, 3) := by decide +kernel
theorem dL_isDone_327 : decode cL_isDone 327 = .ok (.iload 5, 2) := by decide +kernel
theorem dL_isDone_329 : decode cL_isDone 329 = .ok (.aload_n 3, 1) := by decide +kernel
theorem dL_isDone_330 : decode cL_isDone 330 = .ok (.iconst 0, 1) := by decide +kernel
theorem dL_isDone_331 : decode cL_isDone 331 = .ok (.iaload, 1) := by decide +kernel
theorem dL_isDone_332 : decode cL_isDone 332 = .ok (.iconst 1, 1) := by decide +kernel
theorem dL_isDone_333 : decode cL_isDone 333 = .ok (.iadd, 1) := by decide +kernel
theorem dL_isDone_334 : decode cL_isDone 334 = .ok (.irem, 1) := by decide +kernel
theorem dL_isDone_335 : decode cL_isDone 335 = .ok (.istore 8, 2) := by decide +kernel
theorem dL_isDone_337 : decode cL_isDone 337 = .ok (.aload_n 0, 1) := by decide +kernel
theorem dL_isDone_338 : decode cL_isDone 338 = .ok (.bipush 8, 2) := by decide +kernel
theorem dL_isDone_340 : decode cL_isDone 340 = .ok (.iload 8, 2) := by decide +kernel
theorem dL_isDone_342 : decode cL_isDone 342 = .ok (.iconst 0, 1) := by decide +kernel
theorem dL_isDone_343 : decode cL_isDone 343 = .ok (.invokestatic 88, 3) := by decide +kernel
theorem dL_isDone_346 : decode cL_isDone 346 = .ok (.istore 9, 2) := by decide +kernel
theorem dL_isDone_348 : decode cL_isDone 348 = .ok (.aload_n 3, 1) := by decide +kernel
theorem dL_isDone_349 : decode cL_isDone 349 = .ok (.iconst 2, 1) := by decide +kernel
theorem dL_isDone_350 : decode cL_isDone 350 = .ok (.dup2, 1) := by decide +kernel
theorem dL_isDone_351 : decode cL_isDone 351 = .ok (.iaload, 1) := by decide +kernel
theorem dL_isDone_352 : decode cL_isDone 352 = .ok (.iload 9, 2) := by decide +kernel
theorem dL_isDone_354 : decode cL_isDone 354 = .ok (.ifCond .ge 7, 3) := by decide +kernel
theorem dL_isDone_357 : decode cL_isDone 357 = .ok (.iconst 0, 1) := by decide +kernel
theorem dL_isDone_358 : decode cL_isDone 358 = .ok (.goto 14, 3) := by decide +kernel
theorem dL_isDone_361 : decode cL_isDone 361 = .ok (.iload 9, 2) := by decide +kernel
theorem dL_isDone_363 : decode cL_isDone 363 = .ok (.iconst 1, 1) := by decide +kernel
theorem dL_isDone_364 : decode cL_isDone 364 = .ok (.if_icmp .ne 7, 3) := by decide +kernel
theorem dL_isDone_367 : decode cL_isDone 367 = .ok (.iconst 1, 1) := by decide +kernel
theorem dL_isDone_368 : decode cL_isDone 368 = .ok (.goto 4, 3) := by decide +kernel
theorem dL_isDone_371 : decode cL_isDone 371 = .ok (.iconst (-1), 1) := by decide +kernel
theorem dL_isDone_372 : decode cL_isDone 372 = .ok (.iadd, 1) := by decide +kernel
theorem dL_isDone_373 : decode cL_isDone 373 = .ok (.iastore, 1) := by decide +kernel
theorem dL_isDone_374 : decode cL_isDone 374 = .ok (.iload 8, 2) := by decide +kernel
theorem dL_isDone_376 : decode cL_isDone 376 = .ok (.aload_n 3, 1) := by decide +kernel
theorem dL_isDone_377 : decode cL_isDone 377 = .ok (.iconst 0, 1) := by decide +kernel
theorem dL_isDone_378 : decode cL_isDone 378 = .ok (.iaload, 1) := by decide +kernel
theorem dL_isDone_379 : decode cL_isDone 379 = .ok (.if_icmp .ne 19, 3) := by decide +kernel
theorem dL_isDone_382 : decode cL_isDone 382 = .ok (.iload 9, 2) := by decide +kernel
theorem dL_isDone_384 : decode cL_isDone 384 = .ok (.sipush (-3000), 3) := by decide +kernel
theorem dL_isDone_387 : decode cL_isDone 387 = .ok (.if_icmp .ne 7, 3) := by decide +kernel
theorem dL_isDone_390 : decode cL_isDone 390 = .ok (.iconst 1, 1) := by decide +kernel
theorem dL_isDone_391 : decode cL_isDone 391 = .ok (.goto 17, 3) := by decide +kernel
theorem dL_isDone_394 : decode cL_isDone 394 = .ok (.iconst 0, 1) := by decide +kernel
theorem dL_isDone_395 : decode cL_isDone 395 = .ok (.goto 13, 3) := by decide +kernel
theorem dL_isDone_398 : decode cL_isDone 398 = .ok (.iload 9, 2) := by decide +kernel
theorem dL_isDone_400 : decode cL_isDone 400 = .ok (.ifCond .lt 7, 3) := by decide +kernel
theorem dL_isDone_403 : decode cL_isDone 403 = .ok (.iconst 1, 1) := by decide +kernel
theorem dL_isDone_404 : decode cL_isDone 404 = .ok (.goto 4, 3) := by decide +kernel
theorem dL_isDone_407 : decode cL_isDone 407 = .ok (.iconst 0, 1) := by decide +kernel
theorem dL_isDone_408 : decode cL_isDone 408 = .ok (.ireturn, 1) := by decide +kernel
theorem dL_isDone_409 : decode cL_isDone 409 = .ok (.iload 4, 2) := by decide +kernel
theorem dL_isDone_411 : decode cL_isDone 411 = .ok (.bipush 19, 2) := by decide +kernel
theorem dL_isDone_413 : decode cL_isDone 413 = .ok (.if_icmp .ne 73, 3) := by decide +kernel
theorem dL_isDone_416 : decode cL_isDone 416 = .ok (.iload 5, 2) := by decide +kernel
theorem dL_isDone_418 : decode cL_isDone 418 = .ok (.iconst 5, 1) := by decide +kernel
theorem dL_isDone_419 : decode cL_isDone 419 = .ok (.irem, 1) := by decide +kernel
theorem dL_isDone_420 : decode cL_isDone 420 = .ok (.ifCond .ne 66, 3) := by decide +kernel
theorem dL_isDone_423 : decode cL_isDone 423 = .ok (.aload_n 3, 1) := by decide +kernel
theorem dL_isDone_424 : decode cL_isDone 424 = .ok (.iconst 0, 1) := by decide +kernel
theorem dL_isDone_425 : decode cL_isDone 425 = .ok (.iaload, 1) := by decide +kernel
theorem dL_isDone_426 : decode cL_isDone 426 = .ok (.istore 8, 2) := by decide +kernel
theorem dL_isDone_428 : decode cL_isDone 428 = .ok (.aload_n 3, 1) := by decide +kernel
theorem dL_isDone_429 : decode cL_isDone 429 = .ok (.iconst 0, 1) := by decide +kernel
theorem dL_isDone_430 : decode cL_isDone 430 = .ok (.iconst 0, 1) := by decide +kernel
theorem dL_isDone_431 : decode cL_isDone 431 = .ok (.iastore, 1) := by decide +kernel
theorem dL_isDone_432 : decode cL_isDone 432 = .ok (.aload_n 3, 1) := by decide +kernel
theorem dL_isDone_433 : decode cL_isDone 433 = .ok (.iconst 2, 1) := by decide +kernel
theorem dL_isDone_434 : decode cL_isDone 434 = .ok (.iconst 0, 1) := by decide +kernel
theorem dL_isDone_435 : decode cL_isDone 435 = .ok (.iastore, 1) := by decide +kernel
theorem dL_isDone_436 : decode cL_isDone 436 = .ok (.aload_n 0, 1) := by decide +kernel
theorem dL_isDone_437 : decode cL_isDone 437 = .ok (.invokevirtual 148, 3) := by decide +kernel
theorem dL_isDone_440 : decode cL_isDone 440 = .ok (.iload 8, 2) := by decide +kernel
theorem dL_isDone_442 : decode cL_isDone 442 = .ok (.if_icmp .ne 42, 3) := by decide +kernel
theorem dL_isDone_445 : decode cL_isDone 445 = .ok (.aload_n 0, 1) := by decide +kernel
theorem dL_isDone_446 : decode cL_isDone 446 = .ok (.invokevirtual 132, 3) := by decide +kernel
theorem dL_isDone_449 : decode cL_isDone 449 = .ok (.ifCond .ne 35, 3) := by decide +kernel
theorem dL_isDone_452 : decode cL_isDone 452 = .ok (.aload_n 0, 1) := by decide +kernel
theorem dL_isDone_453 : decode cL_isDone 453 = .ok (.invokevirtual 84, 3) := by decide +kernel
theorem dL_isDone_456 : decode cL_isDone 456 = .ok (.ifCond .ne 28, 3) := by decide +kernel
theorem dL_isDone_459 : decode cL_isDone 459 = .ok (.aload_n 0, 1) := by decide +kernel
theorem dL_isDone_460 : decode cL_isDone 460 = .ok (.invokevirtual 100, 3) := by decide +kernel
theorem dL_isDone_463 : decode cL_isDone 463 = .ok (.ifCond .ne 21, 3) := by decide +kernel
theorem dL_isDone_466 : decode cL_isDone 466 = .ok (.aload_n 0, 1) := by decide +kernel
theorem dL_isDone_467 : decode cL_isDone 467 = .ok (.invokevirtual 103, 3) := by decide +kernel
theorem dL_isDone_470 : decode cL_isDone 470 = .ok (.ifCond .ne 14, 3) := by decide +kernel
theorem dL_isDone_473 : decode cL_isDone 473 = .ok (.aload_n 0, 1) := by decide +kernel
theorem dL_isDone_474 : decode cL_isDone 474 = .ok (.invokevirtual 106, 3) := by decide +kernel
theorem dL_isDone_477 : decode cL_isDone 477 = .ok (.ifCond .ne 7, 3) := by decide +kernel
theorem dL_isDone_480 : decode cL_isDone 480 = .ok (.iconst 1, 1) := by decide +kernel
theorem dL_isDone_481 : decode cL_isDone 481 = .ok (.goto 4, 3) := by decide +kernel
theorem dL_isDone_484 : decode cL_isDone 484 = .ok (.iconst 0, 1) := by decide +kernel
theorem dL_isDone_485 : decode cL_isDone 485 = .ok (.ireturn, 1) := by decide +kernel
theorem dL_isDone_486 : decode cL_isDone 486 = .ok (.iload 4, 2) := by decide +kernel
theorem dL_isDone_488 : decode cL_isDone 488 = .ok (.bipush 22, 2) := by decide +kernel
theorem dL_isDone_490 : decode cL_isDone 490 = .ok (.if_icmp .ge 15, 3) := by decide +kernel
theorem dL_isDone_493 : decode cL_isDone 493 = .ok (.aload_n 0, 1) := by decide +kernel
theorem dL_isDone_494 : decode cL_isDone 494 = .ok (.aload_n 3, 1) := by decide +kernel
theorem dL_isDone_495 : decode cL_isDone 495 = .ok (.iload 5, 2) := by decide +kernel
theorem dL_isDone_497 : decode cL_isDone 497 = .ok (.iload 6, 2) := by decide +kernel
theorem dL_isDone_499 : decode cL_isDone 499 = .ok (.invokestatic 151, 3) := by decide +kernel
theorem dL_isDone_502 : decode cL_isDone 502 = .ok (.goto 8, 3) := by decide +kernel
theorem dL_isDone_505 : decode cL_isDone 505 = .ok (.aload_n 0, 1) := by decide +kernel
theorem dL_isDone_506 : decode cL_isDone 506 = .ok (.aload_n 3, 1) := by decide +kernel
theorem dL_isDone_507 : decode cL_isDone 507 = .ok (.invokestatic 155, 3) := by decide +kernel
theorem dL_isDone_510 : decode cL_isDone 510 = .ok (.ireturn, 1) := by decide +kernel
theorem dL_law_0 : decode cL_law 0 = .ok (.new 9, 3) := by decide +kernel
theorem dL_law_3 : decode cL_law 3 = .ok (.dup, 1) := by decide +kernel
theorem dL_law_4 : decode cL_law 4 = .ok (.invokespecial 159, 3) := by decide +kernel
theorem dL_law_7 : decode cL_law 7 = .ok (.astore_n 1, 1) := by decide +kernel
theorem dL_law_8 : decode cL_law 8 = .ok (.iconst 3, 1) := by decide +kernel
theorem dL_law_9 : decode cL_law 9 = .ok (.newarray .int, 2) := by decide +kernel
theorem dL_law_11 : decode cL_law 11 = .ok (.astore_n 2, 1) := by decide +kernel
theorem dL_law_12 : decode cL_law 12 = .ok (.aload_n 2, 1) := by decide +kernel
theorem dL_law_13 : decode cL_law 13 = .ok (.iconst 1, 1) := by decide +kernel
theorem dL_law_14 : decode cL_law 14 = .ok (.bipush 20, 2) := by decide +kernel
theorem dL_law_16 : decode cL_law 16 = .ok (.iastore, 1) := by decide +kernel
theorem dL_law_17 : decode cL_law 17 = .ok (.aload_n 1, 1) := by decide +kernel
theorem dL_law_18 : decode cL_law 18 = .ok (.aload_n 2, 1) := by decide +kernel
theorem dL_law_19 : decode cL_law 19 = .ok (.invokestatic 160, 3) := by decide +kernel
theorem dL_law_22 : decode cL_law 22 = .ok (.ifCond .eq 15, 3) := by decide +kernel
theorem dL_law_25 : decode cL_law 25 = .ok (.aload_n 1, 1) := by decide +kernel
theorem dL_law_26 : decode cL_law 26 = .ok (.aload_n 2, 1) := by decide +kernel
theorem dL_law_27 : decode cL_law 27 = .ok (.invokestatic 163, 3) := by decide +kernel
theorem dL_law_30 : decode cL_law 30 = .ok (.ifCond .eq 7, 3) := by decide +kernel
theorem dL_law_33 : decode cL_law 33 = .ok (.iconst 1, 1) := by decide +kernel
theorem dL_law_34 : decode cL_law 34 = .ok (.goto 4, 3) := by decide +kernel
theorem dL_law_37 : decode cL_law 37 = .ok (.iconst 0, 1) := by decide +kernel
theorem dL_law_38 : decode cL_law 38 = .ok (.istore_n 3, 1) := by decide +kernel
theorem dL_law_39 : decode cL_law 39 = .ok (.iconst 0, 1) := by decide +kernel
theorem dL_law_40 : decode cL_law 40 = .ok (.istore 4, 2) := by decide +kernel
theorem dL_law_42 : decode cL_law 42 = .ok (.iload 4, 2) := by decide +kernel
theorem dL_law_44 : decode cL_law 44 = .ok (.bipush 64, 2) := by decide +kernel
theorem dL_law_46 : decode cL_law 46 = .ok (.if_icmp .ge 58, 3) := by decide +kernel
theorem dL_law_49 : decode cL_law 49 = .ok (.iload_n 3, 1) := by decide +kernel
theorem dL_law_50 : decode cL_law 50 = .ok (.ifCond .eq 54, 3) := by decide +kernel
theorem dL_law_53 : decode cL_law 53 = .ok (.aload_n 1, 1) := by decide +kernel
theorem dL_law_54 : decode cL_law 54 = .ok (.aload_n 0, 1) := by decide +kernel
theorem dL_law_55 : decode cL_law 55 = .ok (.iconst 4, 1) := by decide +kernel
theorem dL_law_56 : decode cL_law 56 = .ok (.iload 4, 2) := by decide +kernel
theorem dL_law_58 : decode cL_law 58 = .ok (.imul, 1) := by decide +kernel
theorem dL_law_59 : decode cL_law 59 = .ok (.aload_n 2, 1) := by decide +kernel
theorem dL_law_60 : decode cL_law 60 = .ok (.invokestatic 166, 3) := by decide +kernel
theorem dL_law_63 : decode cL_law 63 = .ok (.ifCond .eq 33, 3) := by decide +kernel
theorem dL_law_66 : decode cL_law 66 = .ok (.aload_n 1, 1) := by decide +kernel
theorem dL_law_67 : decode cL_law 67 = .ok (.aload_n 2, 1) := by decide +kernel
theorem dL_law_68 : decode cL_law 68 = .ok (.invokestatic 160, 3) := by decide +kernel
theorem dL_law_71 : decode cL_law 71 = .ok (.ifCond .eq 25, 3) := by decide +kernel
theorem dL_law_74 : decode cL_law 74 = .ok (.iload 4, 2) := by decide +kernel
theorem dL_law_76 : decode cL_law 76 = .ok (.bipush 16, 2) := by decide +kernel
theorem dL_law_78 : decode cL_law 78 = .ok (.irem, 1) := by decide +kernel
theorem dL_law_79 : decode cL_law 79 = .ok (.bipush 15, 2) := by decide +kernel
theorem dL_law_81 : decode cL_law 81 = .ok (.if_icmp .lt 11, 3) := by decide +kernel
theorem dL_law_84 : decode cL_law 84 = .ok (.aload_n 1, 1) := by decide +kernel
theorem dL_law_85 : decode cL_law 85 = .ok (.aload_n 2, 1) := by decide +kernel
theorem dL_law_86 : decode cL_law 86 = .ok (.invokestatic 163, 3) := by decide +kernel
theorem dL_law_89 : decode cL_law 89 = .ok (.ifCond .eq 7, 3) := by decide +kernel
theorem dL_law_92 : decode cL_law 92 = .ok (.iconst 1, 1) := by decide +kernel
theorem dL_law_93 : decode cL_law 93 = .ok (.goto 4, 3) := by decide +kernel
theorem dL_law_96 : decode cL_law 96 = .ok (.iconst 0, 1) := by decide +kernel
theorem dL_law_97 : decode cL_law 97 = .ok (.istore_n 3, 1) := by decide +kernel
theorem dL_law_98 : decode cL_law 98 = .ok (.iinc 4 1, 3) := by decide +kernel
theorem dL_law_101 : decode cL_law 101 = .ok (.goto (-59), 3) := by decide +kernel
theorem dL_law_104 : decode cL_law 104 = .ok (.iload_n 3, 1) := by decide +kernel
theorem dL_law_105 : decode cL_law 105 = .ok (.ifCond .eq 129, 3) := by decide +kernel
theorem dL_law_108 : decode cL_law 108 = .ok (.aload_n 1, 1) := by decide +kernel
theorem dL_law_109 : decode cL_law 109 = .ok (.iconst 0, 1) := by decide +kernel
theorem dL_law_110 : decode cL_law 110 = .ok (.sipush 1001, 3) := by decide +kernel
theorem dL_law_113 : decode cL_law 113 = .ok (.iconst 0, 1) := by decide +kernel
theorem dL_law_114 : decode cL_law 114 = .ok (.iconst 0, 1) := by decide +kernel
theorem dL_law_115 : decode cL_law 115 = .ok (.invokestatic 143, 3) := by decide +kernel
theorem dL_law_118 : decode cL_law 118 = .ok (.bipush (-20), 2) := by decide +kernel
theorem dL_law_120 : decode cL_law 120 = .ok (.if_icmp .ne 114, 3) := by decide +kernel
theorem dL_law_123 : decode cL_law 123 = .ok (.aload_n 1, 1) := by decide +kernel
theorem dL_law_124 : decode cL_law 124 = .ok (.iconst 0, 1) := by decide +kernel
theorem dL_law_125 : decode cL_law 125 = .ok (.iconst 0, 1) := by decide +kernel
theorem dL_law_126 : decode cL_law 126 = .ok (.iconst (-1), 1) := by decide +kernel
theorem dL_law_127 : decode cL_law 127 = .ok (.iconst 0, 1) := by decide +kernel
theorem dL_law_128 : decode cL_law 128 = .ok (.invokestatic 143, 3) := by decide +kernel
theorem dL_law_131 : decode cL_law 131 = .ok (.bipush (-20), 2) := by decide +kernel
theorem dL_law_133 : decode cL_law 133 = .ok (.if_icmp .ne 101, 3) := by decide +kernel
theorem dL_law_136 : decode cL_law 136 = .ok (.aload_n 1, 1) := by decide +kernel
theorem dL_law_137 : decode cL_law 137 = .ok (.iconst 1, 1) := by decide +kernel
theorem dL_law_138 : decode cL_law 138 = .ok (.iconst 0, 1) := by decide +kernel
theorem dL_law_139 : decode cL_law 139 = .ok (.iconst 0, 1) := by decide +kernel
theorem dL_law_140 : decode cL_law 140 = .ok (.ldc 146, 2) := by decide +kernel
theorem dL_law_142 : decode cL_law 142 = .ok (.invokestatic 143, 3) := by decide +kernel
theorem dL_law_145 : decode cL_law 145 = .ok (.bipush (-20), 2) := by decide +kernel
theorem dL_law_147 : decode cL_law 147 = .ok (.if_icmp .ne 87, 3) := by decide +kernel
theorem dL_law_150 : decode cL_law 150 = .ok (.aload_n 1, 1) := by decide +kernel
theorem dL_law_151 : decode cL_law 151 = .ok (.iconst 2, 1) := by decide +kernel
theorem dL_law_152 : decode cL_law 152 = .ok (.iconst (-1), 1) := by decide +kernel
theorem dL_law_153 : decode cL_law 153 = .ok (.iconst 0, 1) := by decide +kernel
theorem dL_law_154 : decode cL_law 154 = .ok (.iconst 0, 1) := by decide +kernel
theorem dL_law_155 : decode cL_law 155 = .ok (.invokestatic 143, 3) := by decide +kernel
theorem dL_law_158 : decode cL_law 158 = .ok (.bipush (-20), 2) := by decide +kernel
theorem dL_law_160 : decode cL_law 160 = .ok (.if_icmp .ne 74, 3) := by decide +kernel
theorem dL_law_163 : decode cL_law 163 = .ok (.aload_n 1, 1) := by decide +kernel
theorem dL_law_164 : decode cL_law 164 = .ok (.iconst 0, 1) := by decide +kernel
theorem dL_law_165 : decode cL_law 165 = .ok (.sipush 1001, 3) := by decide +kernel
theorem dL_law_168 : decode cL_law 168 = .ok (.iconst 0, 1) := by decide +kernel
theorem dL_law_169 : decode cL_law 169 = .ok (.iconst 0, 1) := by decide +kernel
theorem dL_law_170 : decode cL_law 170 = .ok (.invokestatic 128, 3) := by decide +kernel
theorem dL_law_173 : decode cL_law 173 = .ok (.bipush (-20), 2) := by decide +kernel
theorem dL_law_175 : decode cL_law 175 = .ok (.if_icmp .ne 59, 3) := by decide +kernel
theorem dL_law_178 : decode cL_law 178 = .ok (.aload_n 1, 1) := by decide +kernel
theorem dL_law_179 : decode cL_law 179 = .ok (.iconst 1, 1) := by decide +kernel
theorem dL_law_180 : decode cL_law 180 = .ok (.iconst 0, 1) := by decide +kernel
theorem dL_law_181 : decode cL_law 181 = .ok (.iconst 0, 1) := by decide +kernel
theorem dL_law_182 : decode cL_law 182 = .ok (.bipush 41, 2) := by decide +kernel
theorem dL_law_184 : decode cL_law 184 = .ok (.invokestatic 128, 3) := by decide +kernel
theorem dL_law_187 : decode cL_law 187 = .ok (.bipush (-20), 2) := by decide +kernel
theorem dL_law_189 : decode cL_law 189 = .ok (.if_icmp .ne 45, 3) := by decide +kernel
theorem dL_law_192 : decode cL_law 192 = .ok (.aload_n 1, 1) := by decide +kernel
theorem dL_law_193 : decode cL_law 193 = .ok (.iconst 0, 1) := by decide +kernel
theorem dL_law_194 : decode cL_law 194 = .ok (.iconst (-1), 1) := by decide +kernel
theorem dL_law_195 : decode cL_law 195 = .ok (.iconst 0, 1) := by decide +kernel
theorem dL_law_196 : decode cL_law 196 = .ok (.invokestatic 88, 3) := by decide +kernel
theorem dL_law_199 : decode cL_law 199 = .ok (.sipush (-3000), 3) := by decide +kernel
theorem dL_law_202 : decode cL_law 202 = .ok (.if_icmp .ne 32, 3) := by decide +kernel
theorem dL_law_205 : decode cL_law 205 = .ok (.aload_n 1, 1) := by decide +kernel
theorem dL_law_206 : decode cL_law 206 = .ok (.bipush 8, 2) := by decide +kernel
theorem dL_law_208 : decode cL_law 208 = .ok (.bipush 120, 2) := by decide +kernel
theorem dL_law_210 : decode cL_law 210 = .ok (.iconst 0, 1) := by decide +kernel
theorem dL_law_211 : decode cL_law 211 = .ok (.invokestatic 88, 3) := by decide +kernel
theorem dL_law_214 : decode cL_law 214 = .ok (.sipush (-3000), 3) := by decide +kernel
theorem dL_law_217 : decode cL_law 217 = .ok (.if_icmp .ne 17, 3) := by decide +kernel
theorem dL_law_220 : decode cL_law 220 = .ok (.aload_n 1, 1) := by decide +kernel
theorem dL_law_221 : decode cL_law 221 = .ok (.iconst (-1), 1) := by decide +kernel
theorem dL_law_222 : decode cL_law 222 = .ok (.invokestatic 125, 3) := by decide +kernel
theorem dL_law_225 : decode cL_law 225 = .ok (.bipush (-20), 2) := by decide +kernel
theorem dL_law_227 : decode cL_law 227 = .ok (.if_icmp .ne 7, 3) := by decide +kernel
theorem dL_law_230 : decode cL_law 230 = .ok (.iconst 1, 1) := by decide +kernel
theorem dL_law_231 : decode cL_law 231 = .ok (.goto 4, 3) := by decide +kernel
theorem dL_law_234 : decode cL_law 234 = .ok (.iconst 0, 1) := by decide +kernel
theorem dL_law_235 : decode cL_law 235 = .ok (.istore_n 3, 1) := by decide +kernel
theorem dL_law_236 : decode cL_law 236 = .ok (.iload_n 3, 1) := by decide +kernel
theorem dL_law_237 : decode cL_law 237 = .ok (.ifCond .eq 15, 3) := by decide +kernel
theorem dL_law_240 : decode cL_law 240 = .ok (.aload_n 1, 1) := by decide +kernel
theorem dL_law_241 : decode cL_law 241 = .ok (.aload_n 2, 1) := by decide +kernel
theorem dL_law_242 : decode cL_law 242 = .ok (.invokestatic 163, 3) := by decide +kernel
theorem dL_law_245 : decode cL_law 245 = .ok (.ifCond .eq 7, 3) := by decide +kernel
theorem dL_law_248 : decode cL_law 248 = .ok (.iconst 1, 1) := by decide +kernel
theorem dL_law_249 : decode cL_law 249 = .ok (.goto 4, 3) := by decide +kernel
theorem dL_law_252 : decode cL_law 252 = .ok (.iconst 0, 1) := by decide +kernel
theorem dL_law_253 : decode cL_law 253 = .ok (.ireturn, 1) := by decide +kernel
