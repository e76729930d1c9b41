theorem dL_swaps_205 : decode cL_swaps 205 = .ok (.iconst 2, 1) := by decide +kernel
theorem dL_swaps_206 : decode cL_swaps 206 = .ok (.invokestatic 118, 3) := by decide +kernel
theorem dL_swaps_209 : decode cL_swaps 209 = .ok (.ifCond .eq 16, 3) := by decide +kernel
theorem dL_swaps_212 : decode cL_swaps 212 = .ok (.aload_n 0, 1) := by decide +kernel
theorem dL_swaps_213 : decode cL_swaps 213 = .ok (.iload 5, 2) := by decide +kernel
theorem dL_swaps_215 : decode cL_swaps 215 = .ok (.iload 4, 2) := by decide +kernel
theorem dL_swaps_217 : decode cL_swaps 217 = .ok (.invokestatic 135, 3) := by decide +kernel
theorem dL_swaps_220 : decode cL_swaps 220 = .ok (.iload 6, 2) := by decide +kernel
theorem dL_swaps_222 : decode cL_swaps 222 = .ok (.if_icmp .ne 38, 3) := by decide +kernel
theorem dL_swaps_225 : decode cL_swaps 225 = .ok (.aload_n 0, 1) := by decide +kernel
theorem dL_swaps_226 : decode cL_swaps 226 = .ok (.aload_n 1, 1) := by decide +kernel
theorem dL_swaps_227 : decode cL_swaps 227 = .ok (.iconst 2, 1) := by decide +kernel
theorem dL_swaps_228 : decode cL_swaps 228 = .ok (.iaload, 1) := by decide +kernel
theorem dL_swaps_229 : decode cL_swaps 229 = .ok (.iconst 1, 1) := by decide +kernel
theorem dL_swaps_230 : decode cL_swaps 230 = .ok (.isub, 1) := by decide +kernel
theorem dL_swaps_231 : decode cL_swaps 231 = .ok (.aload_n 1, 1) := by decide +kernel
theorem dL_swaps_232 : decode cL_swaps 232 = .ok (.iconst 2, 1) := by decide +kernel
theorem dL_swaps_233 : decode cL_swaps 233 = .ok (.iaload, 1) := by decide +kernel
theorem dL_swaps_234 : decode cL_swaps 234 = .ok (.invokestatic 135, 3) := by decide +kernel
theorem dL_swaps_237 : decode cL_swaps 237 = .ok (.ldc 18, 2) := by decide +kernel
theorem dL_swaps_239 : decode cL_swaps 239 = .ok (.if_icmp .ne 21, 3) := by decide +kernel
theorem dL_swaps_242 : decode cL_swaps 242 = .ok (.aload_n 0, 1) := by decide +kernel
theorem dL_swaps_243 : decode cL_swaps 243 = .ok (.aload_n 1, 1) := by decide +kernel
theorem dL_swaps_244 : decode cL_swaps 244 = .ok (.iconst 2, 1) := by decide +kernel
theorem dL_swaps_245 : decode cL_swaps 245 = .ok (.iaload, 1) := by decide +kernel
theorem dL_swaps_246 : decode cL_swaps 246 = .ok (.bipush 30, 2) := by decide +kernel
theorem dL_swaps_248 : decode cL_swaps 248 = .ok (.invokestatic 135, 3) := by decide +kernel
theorem dL_swaps_251 : decode cL_swaps 251 = .ok (.ldc 18, 2) := by decide +kernel
theorem dL_swaps_253 : decode cL_swaps 253 = .ok (.if_icmp .ne 7, 3) := by decide +kernel
theorem dL_swaps_256 : decode cL_swaps 256 = .ok (.iconst 1, 1) := by decide +kernel
theorem dL_swaps_257 : decode cL_swaps 257 = .ok (.goto 4, 3) := by decide +kernel
theorem dL_swaps_260 : decode cL_swaps 260 = .ok (.iconst 0, 1) := by decide +kernel
theorem dL_swaps_261 : decode cL_swaps 261 = .ok (.ireturn, 1) := by decide +kernel
theorem dL_betters_0 : decode cL_betters 0 = .ok (.aload_n 0, 1) := by decide +kernel
theorem dL_betters_1 : decode cL_betters 1 = .ok (.invokevirtual 111, 3) := by decide +kernel
theorem dL_betters_4 : decode cL_betters 4 = .ok (.istore 4, 2) := by decide +kernel
theorem dL_betters_6 : decode cL_betters 6 = .ok (.aload_n 0, 1) := by decide +kernel
theorem dL_betters_7 : decode cL_betters 7 = .ok (.invokevirtual 99, 3) := by decide +kernel
theorem dL_betters_10 : decode cL_betters 10 = .ok (.istore 5, 2) := by decide +kernel
theorem dL_betters_12 : decode cL_betters 12 = .ok (.iload_n 2, 1) := by decide +kernel
theorem dL_betters_13 : decode cL_betters 13 = .ok (.iconst 3, 1) := by decide +kernel
theorem dL_betters_14 : decode cL_betters 14 = .ok (.invokestatic 118, 3) := by decide +kernel
theorem dL_betters_17 : decode cL_betters 17 = .ok (.ifCond .ne 53, 3) := by decide +kernel
theorem dL_betters_20 : decode cL_betters 20 = .ok (.aload_n 0, 1) := by decide +kernel
theorem dL_betters_21 : decode cL_betters 21 = .ok (.invokevirtual 140, 3) := by decide +kernel
theorem dL_betters_24 : decode cL_betters 24 = .ok (.istore 6, 2) := by decide +kernel
theorem dL_betters_26 : decode cL_betters 26 = .ok (.iload 6, 2) := by decide +kernel
theorem dL_betters_28 : decode cL_betters 28 = .ok (.ifCond .lt 40, 3) := by decide +kernel
theorem dL_betters_31 : decode cL_betters 31 = .ok (.iload 5, 2) := by decide +kernel
theorem dL_betters_33 : decode cL_betters 33 = .ok (.ifCond .gt 8, 3) := by decide +kernel
theorem dL_betters_36 : decode cL_betters 36 = .ok (.iload 6, 2) := by decide +kernel
theorem dL_betters_38 : decode cL_betters 38 = .ok (.ifCond .ne 30, 3) := by decide +kernel
theorem dL_betters_41 : decode cL_betters 41 = .ok (.aload_n 0, 1) := by decide +kernel
theorem dL_betters_42 : decode cL_betters 42 = .ok (.invokevirtual 99, 3) := by decide +kernel
theorem dL_betters_45 : decode cL_betters 45 = .ok (.iload 5, 2) := by decide +kernel
theorem dL_betters_47 : decode cL_betters 47 = .ok (.if_icmp .gt 21, 3) := by decide +kernel
theorem dL_betters_50 : decode cL_betters 50 = .ok (.iload 6, 2) := by decide +kernel
theorem dL_betters_52 : decode cL_betters 52 = .ok (.ifCond .gt 12, 3) := by decide +kernel
theorem dL_betters_55 : decode cL_betters 55 = .ok (.aload_n 0, 1) := by decide +kernel
theorem dL_betters_56 : decode cL_betters 56 = .ok (.invokevirtual 111, 3) := by decide +kernel
theorem dL_betters_59 : decode cL_betters 59 = .ok (.iload 4, 2) := by decide +kernel
theorem dL_betters_61 : decode cL_betters 61 = .ok (.if_icmp .ne 7, 3) := by decide +kernel
theorem dL_betters_64 : decode cL_betters 64 = .ok (.iconst 1, 1) := by decide +kernel
theorem dL_betters_65 : decode cL_betters 65 = .ok (.goto 4, 3) := by decide +kernel
theorem dL_betters_68 : decode cL_betters 68 = .ok (.iconst 0, 1) := by decide +kernel
theorem dL_betters_69 : decode cL_betters 69 = .ok (.ireturn, 1) := by decide +kernel
theorem dL_betters_70 : decode cL_betters 70 = .ok (.iconst 0, 1) := by decide +kernel
theorem dL_betters_71 : decode cL_betters 71 = .ok (.istore 6, 2) := by decide +kernel
theorem dL_betters_73 : decode cL_betters 73 = .ok (.iconst 0, 1) := by decide +kernel
theorem dL_betters_74 : decode cL_betters 74 = .ok (.istore 7, 2) := by decide +kernel
theorem dL_betters_76 : decode cL_betters 76 = .ok (.iload 7, 2) := by decide +kernel
theorem dL_betters_78 : decode cL_betters 78 = .ok (.aload_n 1, 1) := by decide +kernel
theorem dL_betters_79 : decode cL_betters 79 = .ok (.iconst 0, 1) := by decide +kernel
theorem dL_betters_80 : decode cL_betters 80 = .ok (.iaload, 1) := by decide +kernel
theorem dL_betters_81 : decode cL_betters 81 = .ok (.if_icmp .ge 28, 3) := by decide +kernel
theorem dL_betters_84 : decode cL_betters 84 = .ok (.iload 6, 2) := by decide +kernel
theorem dL_betters_86 : decode cL_betters 86 = .ok (.aload_n 0, 1) := by decide +kernel
theorem dL_betters_87 : decode cL_betters 87 = .ok (.iload 7, 2) := by decide +kernel
theorem dL_betters_89 : decode cL_betters 89 = .ok (.invokestatic 90, 3) := by decide +kernel
theorem dL_betters_92 : decode cL_betters 92 = .ok (.ifCond .ne 7, 3) := by decide +kernel
theorem dL_betters_95 : decode cL_betters 95 = .ok (.iconst 1, 1) := by decide +kernel
theorem dL_betters_96 : decode cL_betters 96 = .ok (.goto 4, 3) := by decide +kernel
theorem dL_betters_99 : decode cL_betters 99 = .ok (.iconst 0, 1) := by decide +kernel
theorem dL_betters_100 : decode cL_betters 100 = .ok (.iadd, 1) := by decide +kernel
theorem dL_betters_101 : decode cL_betters 101 = .ok (.istore 6, 2) := by decide +kernel
theorem dL_betters_103 : decode cL_betters 103 = .ok (.iinc 7 1, 3) := by decide +kernel
theorem dL_betters_106 : decode cL_betters 106 = .ok (.goto (-30), 3) := by decide +kernel
theorem dL_betters_109 : decode cL_betters 109 = .ok (.aload_n 0, 1) := by decide +kernel
theorem dL_betters_110 : decode cL_betters 110 = .ok (.invokestatic 143, 3) := by decide +kernel
theorem dL_betters_113 : decode cL_betters 113 = .ok (.istore 7, 2) := by decide +kernel
theorem dL_betters_115 : decode cL_betters 115 = .ok (.iload 6, 2) := by decide +kernel
theorem dL_betters_117 : decode cL_betters 117 = .ok (.iconst 5, 1) := by decide +kernel
theorem dL_betters_118 : decode cL_betters 118 = .ok (.if_icmp .le 13, 3) := by decide +kernel
theorem dL_betters_121 : decode cL_betters 121 = .ok (.iload 7, 2) := by decide +kernel
theorem dL_betters_123 : decode cL_betters 123 = .ok (.ldc 21, 2) := by decide +kernel
theorem dL_betters_125 : decode cL_betters 125 = .ok (.if_icmp .eq 20, 3) := by decide +kernel
theorem dL_betters_128 : decode cL_betters 128 = .ok (.goto 15, 3) := by decide +kernel
theorem dL_betters_131 : decode cL_betters 131 = .ok (.iload 7, 2) := by decide +kernel
theorem dL_betters_133 : decode cL_betters 133 = .ok (.ifCond .lt 10, 3) := by decide +kernel
theorem dL_betters_136 : decode cL_betters 136 = .ok (.iload 7, 2) := by decide +kernel
theorem dL_betters_138 : decode cL_betters 138 = .ok (.iload 4, 2) := by decide +kernel
theorem dL_betters_140 : decode cL_betters 140 = .ok (.if_icmp .le 5, 3) := by decide +kernel
theorem dL_betters_143 : decode cL_betters 143 = .ok (.iconst 0, 1) := by decide +kernel
theorem dL_betters_144 : decode cL_betters 144 = .ok (.ireturn, 1) := by decide +kernel
theorem dL_betters_145 : decode cL_betters 145 = .ok (.iload_n 2, 1) := by decide +kernel
theorem dL_betters_146 : decode cL_betters 146 = .ok (.iconst 3, 1) := by decide +kernel
theorem dL_betters_147 : decode cL_betters 147 = .ok (.invokestatic 118, 3) := by decide +kernel
theorem dL_betters_150 : decode cL_betters 150 = .ok (.iconst 1, 1) := by decide +kernel
theorem dL_betters_151 : decode cL_betters 151 = .ok (.if_icmp .ne 18, 3) := by decide +kernel
theorem dL_betters_154 : decode cL_betters 154 = .ok (.aload_n 0, 1) := by decide +kernel
theorem dL_betters_155 : decode cL_betters 155 = .ok (.invokevirtual 111, 3) := by decide +kernel
theorem dL_betters_158 : decode cL_betters 158 = .ok (.iload 4, 2) := by decide +kernel
theorem dL_betters_160 : decode cL_betters 160 = .ok (.if_icmp .ne 7, 3) := by decide +kernel
theorem dL_betters_163 : decode cL_betters 163 = .ok (.iconst 1, 1) := by decide +kernel
theorem dL_betters_164 : decode cL_betters 164 = .ok (.goto 4, 3) := by decide +kernel
theorem dL_betters_167 : decode cL_betters 167 = .ok (.iconst 0, 1) := by decide +kernel
theorem dL_betters_168 : decode cL_betters 168 = .ok (.ireturn, 1) := by decide +kernel
theorem dL_betters_169 : decode cL_betters 169 = .ok (.aload_n 0, 1) := by decide +kernel
theorem dL_betters_170 : decode cL_betters 170 = .ok (.invokevirtual 145, 3) := by decide +kernel
theorem dL_betters_173 : decode cL_betters 173 = .ok (.istore 8, 2) := by decide +kernel
theorem dL_betters_175 : decode cL_betters 175 = .ok (.aload_n 0, 1) := by decide +kernel
theorem dL_betters_176 : decode cL_betters 176 = .ok (.invokevirtual 111, 3) := by decide +kernel
theorem dL_betters_179 : decode cL_betters 179 = .ok (.istore 9, 2) := by decide +kernel
theorem dL_betters_181 : decode cL_betters 181 = .ok (.iload 8, 2) := by decide +kernel
theorem dL_betters_183 : decode cL_betters 183 = .ok (.ifCond .lt 45, 3) := by decide +kernel
theorem dL_betters_186 : decode cL_betters 186 = .ok (.iload 8, 2) := by decide +kernel
theorem dL_betters_188 : decode cL_betters 188 = .ok (.ifCond .ne 13, 3) := by decide +kernel
theorem dL_betters_191 : decode cL_betters 191 = .ok (.iload 9, 2) := by decide +kernel
theorem dL_betters_193 : decode cL_betters 193 = .ok (.iload 4, 2) := by decide +kernel
theorem dL_betters_195 : decode cL_betters 195 = .ok (.if_icmp .ne 33, 3) := by decide +kernel
theorem dL_betters_198 : decode cL_betters 198 = .ok (.goto 10, 3) := by decide +kernel
theorem dL_betters_201 : decode cL_betters 201 = .ok (.iload 9, 2) := by decide +kernel
theorem dL_betters_203 : decode cL_betters 203 = .ok (.iload 4, 2) := by decide +kernel
theorem dL_betters_205 : decode cL_betters 205 = .ok (.if_icmp .ge 23, 3) := by decide +kernel
theorem dL_betters_208 : decode cL_betters 208 = .ok (.aload_n 0, 1) := by decide +kernel
theorem dL_betters_209 : decode cL_betters 209 = .ok (.invokevirtual 145, 3) := by decide +kernel
theorem dL_betters_212 : decode cL_betters 212 = .ok (.ifCond .ne 16, 3) := by decide +kernel
theorem dL_betters_215 : decode cL_betters 215 = .ok (.aload_n 0, 1) := by decide +kernel
theorem dL_betters_216 : decode cL_betters 216 = .ok (.invokevirtual 111, 3) := by decide +kernel
theorem dL_betters_219 : decode cL_betters 219 = .ok (.iload 9, 2) := by decide +kernel
theorem dL_betters_221 : decode cL_betters 221 = .ok (.if_icmp .ne 7, 3) := by decide +kernel
theorem dL_betters_224 : decode cL_betters 224 = .ok (.iconst 1, 1) := by decide +kernel
theorem dL_betters_225 : decode cL_betters 225 = .ok (.goto 4, 3) := by decide +kernel
theorem dL_betters_228 : decode cL_betters 228 = .ok (.iconst 0, 1) := by decide +kernel
theorem dL_betters_229 : decode cL_betters 229 = .ok (.istore 10, 2) := by decide +kernel
theorem dL_betters_231 : decode cL_betters 231 = .ok (.iconst 0, 1) := by decide +kernel
theorem dL_betters_232 : decode cL_betters 232 = .ok (.istore 11, 2) := by decide +kernel
theorem dL_betters_234 : decode cL_betters 234 = .ok (.iload 11, 2) := by decide +kernel
theorem dL_betters_236 : decode cL_betters 236 = .ok (.bipush 6, 2) := by decide +kernel
theorem dL_betters_238 : decode cL_betters 238 = .ok (.if_icmp .ge 93, 3) := by decide +kernel
theorem dL_betters_241 : decode cL_betters 241 = .ok (.iload 10, 2) := by decide +kernel
theorem dL_betters_243 : decode cL_betters 243 = .ok (.ifCond .eq 88, 3) := by decide +kernel
theorem dL_betters_246 : decode cL_betters 246 = .ok (.aload_n 1, 1) := by decide +kernel
theorem dL_betters_247 : decode cL_betters 247 = .ok (.iconst 2, 1) := by decide +kernel
theorem dL_betters_248 : decode cL_betters 248 = .ok (.iaload, 1) := by decide +kernel
theorem dL_betters_249 : decode cL_betters 249 = .ok (.bipush 30, 2) := by decide +kernel
theorem dL_betters_251 : decode cL_betters 251 = .ok (.if_icmp .ge 80, 3) := by decide +kernel
theorem dL_betters_254 : decode cL_betters 254 = .ok (.aload_n 1, 1) := by decide +kernel
theorem dL_betters_255 : decode cL_betters 255 = .ok (.iconst 2, 1) := by decide +kernel
theorem dL_betters_256 : decode cL_betters 256 = .ok (.iaload, 1) := by decide +kernel
theorem dL_betters_257 : decode cL_betters 257 = .ok (.iload_n 3, 1) := by decide +kernel
theorem dL_betters_258 : decode cL_betters 258 = .ok (.iload 11, 2) := by decide +kernel
theorem dL_betters_260 : decode cL_betters 260 = .ok (.ishr, 1) := by decide +kernel
theorem dL_betters_261 : decode cL_betters 261 = .ok (.bipush 30, 2) := by decide +kernel
theorem dL_betters_263 : decode cL_betters 263 = .ok (.aload_n 1, 1) := by decide +kernel
theorem dL_betters_264 : decode cL_betters 264 = .ok (.iconst 2, 1) := by decide +kernel
theorem dL_betters_265 : decode cL_betters 265 = .ok (.iaload, 1) := by decide +kernel
theorem dL_betters_266 : decode cL_betters 266 = .ok (.isub, 1) := by decide +kernel
theorem dL_betters_267 : decode cL_betters 267 = .ok (.invokestatic 118, 3) := by decide +kernel
theorem dL_betters_270 : decode cL_betters 270 = .ok (.iadd, 1) := by decide +kernel
theorem dL_betters_271 : decode cL_betters 271 = .ok (.istore 12, 2) := by decide +kernel
theorem dL_betters_273 : decode cL_betters 273 = .ok (.aload_n 1, 1) := by decide +kernel
theorem dL_betters_274 : decode cL_betters 274 = .ok (.iconst 2, 1) := by decide +kernel
theorem dL_betters_275 : decode cL_betters 275 = .ok (.iaload, 1) := by decide +kernel
theorem dL_betters_276 : decode cL_betters 276 = .ok (.iload_n 2, 1) := by decide +kernel
theorem dL_betters_277 : decode cL_betters 277 = .ok (.iload 11, 2) := by decide +kernel
theorem dL_betters_279 : decode cL_betters 279 = .ok (.ishr, 1) := by decide +kernel
theorem dL_betters_280 : decode cL_betters 280 = .ok (.bipush 30, 2) := by decide +kernel
theorem dL_betters_282 : decode cL_betters 282 = .ok (.aload_n 1, 1) := by decide +kernel
theorem dL_betters_283 : decode cL_betters 283 = .ok (.iconst 2, 1) := by decide +kernel
theorem dL_betters_284 : decode cL_betters 284 = .ok (.iaload, 1) := by decide +kernel
theorem dL_betters_285 : decode cL_betters 285 = .ok (.isub, 1) := by decide +kernel
theorem dL_betters_286 : decode cL_betters 286 = .ok (.invokestatic 118, 3) := by decide +kernel
theorem dL_betters_289 : decode cL_betters 289 = .ok (.iadd, 1) := by decide +kernel
theorem dL_betters_290 : decode cL_betters 290 = .ok (.istore 13, 2) := by decide +kernel
theorem dL_betters_292 : decode cL_betters 292 = .ok (.aload_n 0, 1) := by decide +kernel
theorem dL_betters_293 : decode cL_betters 293 = .ok (.iload 12, 2) := by decide +kernel
theorem dL_betters_295 : decode cL_betters 295 = .ok (.iload 13, 2) := by decide +kernel
theorem dL_betters_297 : decode cL_betters 297 = .ok (.invokestatic 135, 3) := by decide +kernel
theorem dL_betters_300 : decode cL_betters 300 = .ok (.iload 9, 2) := by decide +kernel
theorem dL_betters_302 : decode cL_betters 302 = .ok (.if_icmp .lt 20, 3) := by decide +kernel
theorem dL_betters_305 : decode cL_betters 305 = .ok (.aload_n 0, 1) := by decide +kernel
theorem dL_betters_306 : decode cL_betters 306 = .ok (.iload 12, 2) := by decide +kernel
theorem dL_betters_308 : decode cL_betters 308 = .ok (.iload 13, 2) := by decide +kernel
theorem dL_betters_310 : decode cL_betters 310 = .ok (.invokestatic 135, 3) := by decide +kernel
theorem dL_betters_313 : decode cL_betters 313 = .ok (.iload 9, 2) := by decide +kernel
theorem dL_betters_315 : decode cL_betters 315 = .ok (.if_icmp .ne 7, 3) := by decide +kernel
theorem dL_betters_318 : decode cL_betters 318 = .ok (.iconst 1, 1) := by decide +kernel
theorem dL_betters_319 : decode cL_betters 319 = .ok (.goto 4, 3) := by decide +kernel
theorem dL_betters_322 : decode cL_betters 322 = .ok (.iconst 0, 1) := by decide +kernel
theorem dL_betters_323 : decode cL_betters 323 = .ok (.istore 10, 2) := by decide +kernel
theorem dL_betters_325 : decode cL_betters 325 = .ok (.iinc 11 1, 3) := by decide +kernel
theorem dL_betters_328 : decode cL_betters 328 = .ok (.goto (-94), 3) := by decide +kernel
theorem dL_betters_331 : decode cL_betters 331 = .ok (.iload 10, 2) := by decide +kernel
theorem dL_betters_333 : decode cL_betters 333 = .ok (.ireturn, 1) := by decide +kernel
theorem dL_ends_0 : decode cL_ends 0 = .ok (.aload_n 1, 1) := by decide +kernel
theorem dL_ends_1 : decode cL_ends 1 = .ok (.iconst 2, 1) := by decide +kernel
theorem dL_ends_2 : decode cL_ends 2 = .ok (.iaload, 1) := by decide +kernel
theorem dL_ends_3 : decode cL_ends 3 = .ok (.bipush 30, 2) := by decide +kernel
theorem dL_ends_5 : decode cL_ends 5 = .ok (.if_icmp .ne 25, 3) := by decide +kernel
theorem dL_ends_8 : decode cL_ends 8 = .ok (.aload_n 0, 1) := by decide +kernel
theorem dL_ends_9 : decode cL_ends 9 = .ok (.invokestatic 137, 3) := by decide +kernel
theorem dL_ends_12 : decode cL_ends 12 = .ok (.ldc 21, 2) := by decide +kernel
theorem dL_ends_14 : decode cL_ends 14 = .ok (.if_icmp .ne 14, 3) := by decide +kernel
theorem dL_ends_17 : decode cL_ends 17 = .ok (.aload_n 0, 1) := by decide +kernel
theorem dL_ends_18 : decode cL_ends 18 = .ok (.invokevirtual 111, 3) := by decide +kernel
theorem dL_ends_21 : decode cL_ends 21 = .ok (.ifCond .ne 7, 3) := by decide +kernel
theorem dL_ends_24 : decode cL_ends 24 = .ok (.iconst 1, 1) := by decide +kernel
theorem dL_ends_25 : decode cL_ends 25 = .ok (.goto 4, 3) := by decide +kernel
theorem dL_ends_28 : decode cL_ends 28 = .ok (.iconst 0, 1) := by decide +kernel
theorem dL_ends_29 : decode cL_ends 29 = .ok (.ireturn, 1) := by decide +kernel
theorem dL_ends_30 : decode cL_ends 30 = .ok (.aload_n 0, 1) := by decide +kernel
theorem dL_ends_31 : decode cL_ends 31 = .ok (.invokevirtual 111, 3) := by decide +kernel
theorem dL_ends_34 : decode cL_ends 34 = .ok (.istore_n 2, 1) := by decide +kernel
theorem dL_ends_35 : decode cL_ends 35 = .ok (.aload_n 0, 1) := by decide +kernel
theorem dL_ends_36 : decode cL_ends 36 = .ok (.aload_n 1, 1) := by decide +kernel
theorem dL_ends_37 : decode cL_ends 37 = .ok (.iconst 2, 1) := by decide +kernel
theorem dL_ends_38 : decode cL_ends 38 = .ok (.iaload, 1) := by decide +kernel
theorem dL_ends_39 : decode cL_ends 39 = .ok (.invokestatic 85, 3) := by decide +kernel
theorem dL_ends_42 : decode cL_ends 42 = .ok (.istore_n 3, 1) := by decide +kernel
theorem dL_ends_43 : decode cL_ends 43 = .ok (.iload_n 3, 1) := by decide +kernel
theorem dL_ends_44 : decode cL_ends 44 = .ok (.ifCond .lt 18, 3) := by decide +kernel
theorem dL_ends_47 : decode cL_ends 47 = .ok (.aload_n 0, 1) := by decide +kernel
theorem dL_ends_48 : decode cL_ends 48 = .ok (.iload_n 3, 1) := by decide +kernel
theorem dL_ends_49 : decode cL_ends 49 = .ok (.aload_n 1, 1) := by decide +kernel
theorem dL_ends_50 : decode cL_ends 50 = .ok (.iconst 2, 1) := by decide +kernel
theorem dL_ends_51 : decode cL_ends 51 = .ok (.iaload, 1) := by decide +kernel
theorem dL_ends_52 : decode cL_ends 52 = .ok (.invokestatic 94, 3) := by decide +kernel
theorem dL_ends_55 : decode cL_ends 55 = .ok (.ifCond .ne 7, 3) := by decide +kernel
theorem dL_ends_58 : decode cL_ends 58 = .ok (.iconst 1, 1) := by decide +kernel
theorem dL_ends_59 : decode cL_ends 59 = .ok (.goto 4, 3) := by decide +kernel
theorem dL_ends_62 : decode cL_ends 62 = .ok (.iconst 0, 1) := by decide +kernel
theorem dL_ends_63 : decode cL_ends 63 = .ok (.istore 4, 2) := by decide +kernel
theorem dL_ends_65 : decode cL_ends 65 = .ok (.aload_n 1, 1) := by decide +kernel
theorem dL_ends_66 : decode cL_ends 66 = .ok (.iconst 2, 1) := by decide +kernel
theorem dL_ends_67 : decode cL_ends 67 = .ok (.iaload, 1) := by decide +kernel
theorem dL_ends_68 : decode cL_ends 68 = .ok (.iconst 1, 1) := by decide +kernel
theorem dL_ends_69 : decode cL_ends 69 = .ok (.iadd, 1) := by decide +kernel
theorem dL_ends_70 : decode cL_ends 70 = .ok (.istore 5, 2) := by decide +kernel
theorem dL_ends_72 : decode cL_ends 72 = .ok (.iload 5, 2) := by decide +kernel
theorem dL_ends_74 : decode cL_ends 74 = .ok (.bipush 30, 2) := by decide +kernel
theorem dL_ends_76 : decode cL_ends 76 = .ok (.if_icmp .ge 18, 3) := by decide +kernel
theorem dL_ends_79 : decode cL_ends 79 = .ok (.aload_n 0, 1) := by decide +kernel
theorem dL_ends_80 : decode cL_ends 80 = .ok (.iload 5, 2) := by decide +kernel
theorem dL_ends_82 : decode cL_ends 82 = .ok (.invokestatic 85, 3) := by decide +kernel
theorem dL_ends_85 : decode cL_ends 85 = .ok (.ifCond .lt 9, 3) := by decide +kernel
theorem dL_ends_88 : decode cL_ends 88 = .ok (.iinc 5 1, 3) := by decide +kernel
theorem dL_ends_91 : decode cL_ends 91 = .ok (.goto (-19), 3) := by decide +kernel
theorem dL_ends_94 : decode cL_ends 94 = .ok (.aload_n 0, 1) := by decide +kernel
theorem dL_ends_95 : decode cL_ends 95 = .ok (.iconst 0, 1) := by decide +kernel
theorem dL_ends_96 : decode cL_ends 96 = .ok (.invokestatic 114, 3) := by decide +kernel
theorem dL_ends_99 : decode cL_ends 99 = .ok (.istore 6, 2) := by decide +kernel
theorem dL_ends_101 : decode cL_ends 101 = .ok (.aload_n 0, 1) := by decide +kernel
theorem dL_ends_102 : decode cL_ends 102 = .ok (.invokestatic 137, 3) := by decide +kernel
theorem dL_ends_105 : decode cL_ends 105 = .ok (.istore 7, 2) := by decide +kernel
theorem dL_ends_107 : decode cL_ends 107 = .ok (.aload_n 1, 1) := by decide +kernel
theorem dL_ends_108 : decode cL_ends 108 = .ok (.iconst 2, 1) := by decide +kernel
theorem dL_ends_109 : decode cL_ends 109 = .ok (.dup2, 1) := by decide +kernel
theorem dL_ends_110 : decode cL_ends 110 = .ok (.iaload, 1) := by decide +kernel
theorem dL_ends_111 : decode cL_ends 111 = .ok (.iconst 1, 1) := by decide +kernel
theorem dL_ends_112 : decode cL_ends 112 = .ok (.iadd, 1) := by decide +kernel
theorem dL_ends_113 : decode cL_ends 113 = .ok (.iastore, 1) := by decide +kernel
theorem dL_ends_114 : decode cL_ends 114 = .ok (.iload 7, 2) := by decide +kernel
theorem dL_ends_116 : decode cL_ends 116 = .ok (.iload 4, 2) := by decide +kernel
theorem dL_ends_118 : decode cL_ends 118 = .ok (.ifCond .eq 7, 3) := by decide +kernel
theorem dL_ends_121 : decode cL_ends 121 = .ok (.iconst (-1), 1) := by decide +kernel
theorem dL_ends_122 : decode cL_ends 122 = .ok (.goto 4, 3) := by decide +kernel
theorem dL_ends_125 : decode cL_ends 125 = .ok (.iload_n 3, 1) := by decide +kernel
theorem dL_ends_126 : decode cL_ends 126 = .ok (.if_icmp .ne 46, 3) := by decide +kernel
theorem dL_ends_129 : decode cL_ends 129 = .ok (.aload_n 0, 1) := by decide +kernel
theorem dL_ends_130 : decode cL_ends 130 = .ok (.invokevirtual 102, 3) := by decide +kernel
theorem dL_ends_133 : decode cL_ends 133 = .ok (.aload_n 1, 1) := by decide +kernel
theorem dL_ends_134 : decode cL_ends 134 = .ok (.iconst 2, 1) := by decide +kernel
theorem dL_ends_135 : decode cL_ends 135 = .ok (.iaload, 1) := by decide +kernel
theorem dL_ends_136 : decode cL_ends 136 = .ok (.if_icmp .ne 36, 3) := by decide +kernel
theorem dL_ends_139 : decode cL_ends 139 = .ok (.iload 7, 2) := by decide +kernel
theorem dL_ends_141 : decode cL_ends 141 = .ok (.ifCond .ge 27, 3) := by decide +kernel
theorem dL_ends_144 : decode cL_ends 144 = .ok (.aload_n 0, 1) := by decide +kernel
theorem dL_ends_145 : decode cL_ends 145 = .ok (.iconst 0, 1) := by decide +kernel
theorem dL_ends_146 : decode cL_ends 146 = .ok (.invokestatic 114, 3) := by decide +kernel
theorem dL_ends_149 : decode cL_ends 149 = .ok (.iload 6, 2) := by decide +kernel
theorem dL_ends_151 : decode cL_ends 151 = .ok (.bipush 20, 2) := by decide +kernel
theorem dL_ends_153 : decode cL_ends 153 = .ok (.if_icmp .ge 10, 3) := by decide +kernel
theorem dL_ends_156 : decode cL_ends 156 = .ok (.iload 6, 2) := by decide +kernel
theorem dL_ends_158 : decode cL_ends 158 = .ok (.iconst 1, 1) := by decide +kernel
theorem dL_ends_159 : decode cL_ends 159 = .ok (.iadd, 1) := by decide +kernel
theorem dL_ends_160 : decode cL_ends 160 = .ok (.goto 5, 3) := by decide +kernel
theorem dL_ends_163 : decode cL_ends 163 = .ok (.bipush 20, 2) := by decide +kernel
theorem dL_ends_165 : decode cL_ends 165 = .ok (.if_icmp .ne 7, 3) := by decide +kernel
theorem dL_ends_168 : decode cL_ends 168 = .ok (.iconst 1, 1) := by decide +kernel
theorem dL_ends_169 : decode cL_ends 169 = .ok (.goto 4, 3) := by decide +kernel
theorem dL_ends_172 : decode cL_ends 172 = .ok (.iconst 0, 1) := by decide +kernel
theorem dL_ends_173 : decode cL_ends 173 = .ok (.istore 8, 2) := by decide +kernel
theorem dL_ends_175 : decode cL_ends 175 = .ok (.iload 4, 2) := by decide +kernel
theorem dL_ends_177 : decode cL_ends 177 = .ok (.ifCond .eq 63, 3) := by decide +kernel
theorem dL_ends_180 : decode cL_ends 180 = .ok (.iload 8, 2) := by decide +kernel
theorem dL_ends_182 : decode cL_ends 182 = .ok (.ifCond .eq 56, 3) := by decide +kernel
theorem dL_ends_185 : decode cL_ends 185 = .ok (.aload_n 0, 1) := by decide +kernel
theorem dL_ends_186 : decode cL_ends 186 = .ok (.invokevirtual 105, 3) := by decide +kernel
theorem dL_ends_189 : decode cL_ends 189 = .ok (.aload_n 1, 1) := by decide +kernel
theorem dL_ends_190 : decode cL_ends 190 = .ok (.iconst 3, 1) := by decide +kernel
theorem dL_ends_191 : decode cL_ends 191 = .ok (.iaload, 1) := by decide +kernel
theorem dL_ends_192 : decode cL_ends 192 = .ok (.if_icmp .ne 46, 3) := by decide +kernel
theorem dL_ends_195 : decode cL_ends 195 = .ok (.iload 5, 2) := by decide +kernel
theorem dL_ends_197 : decode cL_ends 197 = .ok (.bipush 30, 2) := by decide +kernel
theorem dL_ends_199 : decode cL_ends 199 = .ok (.if_icmp .ge 26, 3) := by decide +kernel
theorem dL_ends_202 : decode cL_ends 202 = .ok (.aload_n 0, 1) := by decide +kernel
theorem dL_ends_203 : decode cL_ends 203 = .ok (.iload_n 3, 1) := by decide +kernel
theorem dL_ends_204 : decode cL_ends 204 = .ok (.invokestatic 92, 3) := by decide +kernel
theorem dL_ends_207 : decode cL_ends 207 = .ok (.iload 5, 2) := by decide +kernel
theorem dL_ends_209 : decode cL_ends 209 = .ok (.if_icmp .ne 29, 3) := by decide +kernel
theorem dL_ends_212 : decode cL_ends 212 = .ok (.aload_n 0, 1) := by decide +kernel
theorem dL_ends_213 : decode cL_ends 213 = .ok (.iload 5, 2) := by decide +kernel
theorem dL_ends_215 : decode cL_ends 215 = .ok (.invokestatic 85, 3) := by decide +kernel
theorem dL_ends_218 : decode cL_ends 218 = .ok (.iload_n 3, 1) := by decide +kernel
theorem dL_ends_219 : decode cL_ends 219 = .ok (.if_icmp .ne 19, 3) := by decide +kernel
theorem dL_ends_222 : decode cL_ends 222 = .ok (.goto 12, 3) := by decide +kernel
theorem dL_ends_225 : decode cL_ends 225 = .ok (.aload_n 0, 1) := by decide +kernel
theorem dL_ends_226 : decode cL_ends 226 = .ok (.iload_n 3, 1) := by decide +kernel
theorem dL_ends_227 : decode cL_ends 227 = .ok (.invokestatic 90, 3) := by decide +kernel
theorem dL_ends_230 : decode cL_ends 230 = .ok (.iconst 2, 1) := by decide +kernel
theorem dL_ends_231 : decode cL_ends 231 = .ok (.if_icmp .ne 7, 3) := by decide +kernel
theorem dL_ends_234 : decode cL_ends 234 = .ok (.iconst 1, 1) := by decide +kernel
theorem dL_ends_235 : decode cL_ends 235 = .ok (.goto 4, 3) := by decide +kernel
theorem dL_ends_238 : decode cL_ends 238 = .ok (.iconst 0, 1) := by decide +kernel
theorem dL_ends_239 : decode cL_ends 239 = .ok (.ireturn, 1) := by decide +kernel
theorem dL_ends_240 : decode cL_ends 240 = .ok (.aload_n 1, 1) := by decide +kernel
theorem dL_ends_241 : decode cL_ends 241 = .ok (.iconst 3, 1) := by decide +kernel
theorem dL_ends_242 : decode cL_ends 242 = .ok (.iaload, 1) := by decide +kernel
theorem dL_ends_243 : decode cL_ends 243 = .ok (.iload_n 2, 1) := by decide +kernel
theorem dL_ends_244 : decode cL_ends 244 = .ok (.iadd, 1) := by decide +kernel
theorem dL_ends_245 : decode cL_ends 245 = .ok (.istore 9, 2) := by decide +kernel
theorem dL_ends_247 : decode cL_ends 247 = .ok (.aload_n 1, 1) := by decide +kernel
theorem dL_ends_248 : decode cL_ends 248 = .ok (.iconst 3, 1) := by decide +kernel
theorem dL_ends_249 : decode cL_ends 249 = .ok (.aload_n 0, 1) := by decide +kernel
theorem dL_ends_250 : decode cL_ends 250 = .ok (.invokevirtual 105, 3) := by decide +kernel
theorem dL_ends_253 : decode cL_ends 253 = .ok (.iastore, 1) := by decide +kernel
theorem dL_ends_254 : decode cL_ends 254 = .ok (.iload 8, 2) := by decide +kernel
theorem dL_ends_256 : decode cL_ends 256 = .ok (.ifCond .eq 49, 3) := by decide +kernel
theorem dL_ends_259 : decode cL_ends 259 = .ok (.aload_n 1, 1) := by decide +kernel
theorem dL_ends_260 : decode cL_ends 260 = .ok (.iconst 3, 1) := by decide +kernel
theorem dL_ends_261 : decode cL_ends 261 = .ok (.iaload, 1) := by decide +kernel
theorem dL_ends_262 : decode cL_ends 262 = .ok (.aload_n 0, 1) := by decide +kernel
theorem dL_ends_263 : decode cL_ends 263 = .ok (.invokevirtual 111, 3) := by decide +kernel
theorem dL_ends_266 : decode cL_ends 266 = .ok (.iadd, 1) := by decide +kernel
theorem dL_ends_267 : decode cL_ends 267 = .ok (.iload 9, 2) := by decide +kernel
theorem dL_ends_269 : decode cL_ends 269 = .ok (.if_icmp .ne 36, 3) := by decide +kernel
theorem dL_ends_272 : decode cL_ends 272 = .ok (.iload 7, 2) := by decide +kernel
theorem dL_ends_274 : decode cL_ends 274 = .ok (.ifCond .lt 27, 3) := by decide +kernel
theorem dL_ends_277 : decode cL_ends 277 = .ok (.aload_n 0, 1) := by decide +kernel
theorem dL_ends_278 : decode cL_ends 278 = .ok (.iload 7, 2) := by decide +kernel
theorem dL_ends_280 : decode cL_ends 280 = .ok (.invokestatic 90, 3) := by decide +kernel
theorem dL_ends_283 : decode cL_ends 283 = .ok (.iconst 1, 1) := by decide +kernel
theorem dL_ends_284 : decode cL_ends 284 = .ok (.if_icmp .ne 21, 3) := by decide +kernel
theorem dL_ends_287 : decode cL_ends 287 = .ok (.aload_n 0, 1) := by decide +kernel
theorem dL_ends_288 : decode cL_ends 288 = .ok (.iload 7, 2) := by decide +kernel
theorem dL_ends_290 : decode cL_ends 290 = .ok (.invokestatic 92, 3) := by decide +kernel
theorem dL_ends_293 : decode cL_ends 293 = .ok (.aload_n 1, 1) := by decide +kernel
theorem dL_ends_294 : decode cL_ends 294 = .ok (.iconst 2, 1) := by decide +kernel
theorem dL_ends_295 : decode cL_ends 295 = .ok (.iaload, 1) := by decide +kernel
theorem dL_ends_296 : decode cL_ends 296 = .ok (.iconst 1, 1) := by decide +kernel
theorem dL_ends_297 : decode cL_ends 297 = .ok (.isub, 1) := by decide +kernel
theorem dL_ends_298 : decode cL_ends 298 = .ok (.if_icmp .ne 7, 3) := by decide +kernel
theorem dL_ends_301 : decode cL_ends 301 = .ok (.iconst 1, 1) := by decide +kernel
theorem dL_ends_302 : decode cL_ends 302 = .ok (.goto 4, 3) := by decide +kernel
theorem dL_ends_305 : decode cL_ends 305 = .ok (.iconst 0, 1) := by decide +kernel
theorem dL_ends_306 : decode cL_ends 306 = .ok (.ireturn, 1) := by decide +kernel
theorem dL_others_0 : decode cL_others 0 = .ok (.iload_n 3, 1) := by decide +kernel
theorem dL_others_1 : decode cL_others 1 = .ok (.bipush 8, 2) := by decide +kernel
theorem dL_others_3 : decode cL_others 3 = .ok (.invokestatic 118, 3) := by decide +kernel
theorem dL_others_6 : decode cL_others 6 = .ok (.istore 5, 2) := by decide +kernel
theorem dL_others_8 : decode cL_others 8 = .ok (.iload 5, 2) := by decide +kernel
theorem dL_others_10 : decode cL_others 10 = .ok (.iconst 2, 1) := by decide +kernel
theorem dL_others_11 : decode cL_others 11 = .ok (.if_icmp .ge 185, 3) := by decide +kernel
theorem dL_others_14 : decode cL_others 14 = .ok (.iload 4, 2) := by decide +kernel
theorem dL_others_16 : decode cL_others 16 = .ok (.bipush 30, 2) := by decide +kernel
theorem dL_others_18 : decode cL_others 18 = .ok (.invokestatic 118, 3) := by decide +kernel
theorem dL_others_21 : decode cL_others 21 = .ok (.istore 6, 2) := by decide +kernel
theorem dL_others_23 : decode cL_others 23 = .ok (.iload 6, 2) := by decide +kernel
theorem dL_others_25 : decode cL_others 25 = .ok (.iload 4, 2) := by decide +kernel
theorem dL_others_27 : decode cL_others 27 = .ok (.iconst 5, 1) := by decide +kernel
theorem dL_others_28 : decode cL_others 28 = .ok (.ishr, 1) := by decide +kernel
theorem dL_others_29 : decode cL_others 29 = .ok (.bipush 30, 2) := by decide +kernel
theorem dL_others_31 : decode cL_others 31 = .ok (.iload 6, 2) := by decide +kernel
theorem dL_others_33 : decode cL_others 33 = .ok (.isub, 1) := by decide +kernel
theorem dL_others_34 : decode cL_others 34 = .ok (.invokestatic 118, 3) := by decide +kernel
theorem dL_others_37 : decode cL_others 37 = .ok (.iadd, 1) := by decide +kernel
theorem dL_others_38 : decode cL_others 38 = .ok (.istore 7, 2) := by decide +kernel
theorem dL_others_40 : decode cL_others 40 = .ok (.aload_n 1, 1) := by decide +kernel
theorem dL_others_41 : decode cL_others 41 = .ok (.iconst 1, 1) := by decide +kernel
theorem dL_others_42 : decode cL_others 42 = .ok (.iaload, 1) := by decide +kernel
theorem dL_others_43 : decode cL_others 43 = .ok (.bipush 20, 2) := by decide +kernel
theorem dL_others_45 : decode cL_others 45 = .ok (.if_icmp .ge 9, 3) := by decide +kernel
theorem dL_others_48 : decode cL_others 48 = .ok (.aload_n 1, 1) := by decide +kernel
theorem dL_others_49 : decode cL_others 49 = .ok (.iconst 1, 1) := by decide +kernel
theorem dL_others_50 : decode cL_others 50 = .ok (.iaload, 1) := by decide +kernel
theorem dL_others_51 : decode cL_others 51 = .ok (.goto 5, 3) := by decide +kernel
theorem dL_others_54 : decode cL_others 54 = .ok (.ldc 21, 2) := by decide +kernel
theorem dL_others_56 : decode cL_others 56 = .ok (.istore 8, 2) := by decide +kernel
theorem dL_others_58 : decode cL_others 58 = .ok (.aload_n 0, 1) := by decide +kernel
theorem dL_others_59 : decode cL_others 59 = .ok (.invokevirtual 99, 3) := by decide +kernel
theorem dL_others_62 : decode cL_others 62 = .ok (.istore 9, 2) := by decide +kernel
theorem dL_others_64 : decode cL_others 64 = .ok (.aload_n 1, 1) := by decide +kernel
theorem dL_others_65 : decode cL_others 65 = .ok (.iconst 1, 1) := by decide +kernel
theorem dL_others_66 : decode cL_others 66 = .ok (.dup2, 1) := by decide +kernel
theorem dL_others_67 : decode cL_others 67 = .ok (.iaload, 1) := by decide +kernel
theorem dL_others_68 : decode cL_others 68 = .ok (.iload 8, 2) := by decide +kernel
theorem dL_others_70 : decode cL_others 70 = .ok (.ifCond .ge 7, 3) := by decide +kernel
theorem dL_others_73 : decode cL_others 73 = .ok (.iconst 0, 1) := by decide +kernel
theorem dL_others_74 : decode cL_others 74 = .ok (.goto 4, 3) := by decide +kernel
theorem dL_others_77 : decode cL_others 77 = .ok (.iconst 1, 1) := by decide +kernel
theorem dL_others_78 : decode cL_others 78 = .ok (.iadd, 1) := by decide +kernel
theorem dL_others_79 : decode cL_others 79 = .ok (.iastore, 1) := by decide +kernel
theorem dL_others_80 : decode cL_others 80 = .ok (.aload_n 0, 1) := by decide +kernel
theorem dL_others_81 : decode cL_others 81 = .ok (.iload 4, 2) := by decide +kernel
theorem dL_others_83 : decode cL_others 83 = .ok (.bipush 10, 2) := by decide +kernel
theorem dL_others_85 : decode cL_others 85 = .ok (.ishr, 1) := by decide +kernel
theorem dL_others_86 : decode cL_others 86 = .ok (.iconst 4, 1) := by decide +kernel
theorem dL_others_87 : decode cL_others 87 = .ok (.invokestatic 118, 3) := by decide +kernel
theorem dL_others_90 : decode cL_others 90 = .ok (.iload 6, 2) := by decide +kernel
theorem dL_others_92 : decode cL_others 92 = .ok (.iload 7, 2) := by decide +kernel
theorem dL_others_94 : decode cL_others 94 = .ok (.iconst 1, 1) := by decide +kernel
theorem dL_others_95 : decode cL_others 95 = .ok (.iload 4, 2) := by decide +kernel
theorem dL_others_97 : decode cL_others 97 = .ok (.bipush 12, 2) := by decide +kernel
theorem dL_others_99 : decode cL_others 99 = .ok (.ishr, 1) := by decide +kernel
theorem dL_others_100 : decode cL_others 100 = .ok (.bipush 9, 2) := by decide +kernel
theorem dL_others_102 : decode cL_others 102 = .ok (.invokestatic 118, 3) := by decide +kernel
theorem dL_others_105 : decode cL_others 105 = .ok (.iadd, 1) := by decide +kernel
theorem dL_others_106 : decode cL_others 106 = .ok (.invokestatic 148, 3) := by decide +kernel
theorem dL_others_109 : decode cL_others 109 = .ok (.iload 8, 2) := by decide +kernel
theorem dL_others_111 : decode cL_others 111 = .ok (.if_icmp .ne 83, 3) := by decide +kernel
theorem dL_others_114 : decode cL_others 114 = .ok (.aload_n 0, 1) := by decide +kernel
theorem dL_others_115 : decode cL_others 115 = .ok (.invokevirtual 99, 3) := by decide +kernel
theorem dL_others_118 : decode cL_others 118 = .ok (.iload 9, 2) := by decide +kernel
theorem dL_others_120 : decode cL_others 120 = .ok (.if_icmp .gt 74, 3) := by decide +kernel
theorem dL_others_123 : decode cL_others 123 = .ok (.aload_n 0, 1) := by decide +kernel
theorem dL_others_124 : decode cL_others 124 = .ok (.iconst 4, 1) := by decide +kernel
theorem dL_others_125 : decode cL_others 125 = .ok (.iconst 0, 1) := by decide +kernel
theorem dL_others_126 : decode cL_others 126 = .ok (.iconst 0, 1) := by decide +kernel
theorem dL_others_127 : decode cL_others 127 = .ok (.iconst 1, 1) := by decide +kernel
theorem dL_others_128 : decode cL_others 128 = .ok (.invokestatic 148, 3) := by decide +kernel
theorem dL_others_131 : decode cL_others 131 = .ok (.ldc 18, 2) := by decide +kernel
theorem dL_others_133 : decode cL_others 133 = .ok (.if_icmp .ne 61, 3) := by decide +kernel
theorem dL_others_136 : decode cL_others 136 = .ok (.aload_n 0, 1) := by decide +kernel
theorem dL_others_137 : decode cL_others 137 = .ok (.iconst 0, 1) := by decide +kernel
theorem dL_others_138 : decode cL_others 138 = .ok (.iconst 5, 1) := by decide +kernel
theorem dL_others_139 : decode cL_others 139 = .ok (.iconst 4, 1) := by decide +kernel
theorem dL_others_140 : decode cL_others 140 = .ok (.iconst 1, 1) := by decide +kernel
theorem dL_others_141 : decode cL_others 141 = .ok (.invokestatic 148, 3) := by decide +kernel
theorem dL_others_144 : decode cL_others 144 = .ok (.ldc 18, 2) := by decide +kernel
theorem dL_others_146 : decode cL_others 146 = .ok (.if_icmp .ne 48, 3) := by decide +kernel
theorem dL_others_149 : decode cL_others 149 = .ok (.aload_n 0, 1) := by decide +kernel
theorem dL_others_150 : decode cL_others 150 = .ok (.iconst 0, 1) := by decide +kernel
theorem dL_others_151 : decode cL_others 151 = .ok (.iconst 0, 1) := by decide +kernel
theorem dL_others_152 : decode cL_others 152 = .ok (.bipush 30, 2) := by decide +kernel
theorem dL_others_154 : decode cL_others 154 = .ok (.iconst 1, 1) := by decide +kernel
theorem dL_others_155 : decode cL_others 155 = .ok (.invokestatic 148, 3) := by decide +kernel
theorem dL_others_158 : decode cL_others 158 = .ok (.ldc 18, 2) := by decide +kernel
theorem dL_others_160 : decode cL_others 160 = .ok (.if_icmp .ne 34, 3) := by decide +kernel
theorem dL_others_163 : decode cL_others 163 = .ok (.aload_n 0, 1) := by decide +kernel
theorem dL_others_164 : decode cL_others 164 = .ok (.iconst 0, 1) := by decide +kernel
theorem dL_others_165 : decode cL_others 165 = .ok (.iconst 0, 1) := by decide +kernel
theorem dL_others_166 : decode cL_others 166 = .ok (.iconst 0, 1) := by decide +kernel
theorem dL_others_167 : decode cL_others 167 = .ok (.iconst 0, 1) := by decide +kernel
theorem dL_others_168 : decode cL_others 168 = .ok (.invokestatic 148, 3) := by decide +kernel
theorem dL_others_171 : decode cL_others 171 = .ok (.ldc 18, 2) := by decide +kernel
theorem dL_others_173 : decode cL_others 173 = .ok (.if_icmp .ne 21, 3) := by decide +kernel
theorem dL_others_176 : decode cL_others 176 = .ok (.aload_n 0, 1) := by decide +kernel
theorem dL_others_177 : decode cL_others 177 = .ok (.iconst 0, 1) := by decide +kernel
theorem dL_others_178 : decode cL_others 178 = .ok (.iconst 0, 1) := by decide +kernel
theorem dL_others_179 : decode cL_others 179 = .ok (.iconst 0, 1) := by decide +kernel
theorem dL_others_180 : decode cL_others 180 = .ok (.bipush 10, 2) := by decide +kernel
theorem dL_others_182 : decode cL_others 182 = .ok (.invokestatic 148, 3) := by decide +kernel
theorem dL_others_185 : decode cL_others 185 = .ok (.ldc 18, 2) := by decide +kernel
theorem dL_others_187 : decode cL_others 187 = .ok (.if_icmp .ne 7, 3) := by decide +kernel
theorem dL_others_190 : decode cL_others 190 = .ok (.iconst 1, 1) := by decide +kernel
theorem dL_others_191 : decode cL_others 191 = .ok (.goto 4, 3) := by decide +kernel
theorem dL_others_194 : decode cL_others 194 = .ok (.iconst 0, 1) := by decide +kernel
theorem dL_others_195 : decode cL_others 195 = .ok (.ireturn, 1) := by decide +kernel
theorem dL_others_196 : decode cL_others 196 = .ok (.iload 5, 2) := by decide +kernel
theorem dL_others_198 : decode cL_others 198 = .ok (.iconst 2, 1) := by decide +kernel
theorem dL_others_199 : decode cL_others 199 = .ok (.if_icmp .ne 134, 3) := by decide +kernel
theorem dL_others_202 : decode cL_others 202 = .ok (.aload_n 1, 1) := by decide +kernel
theorem dL_others_203 : decode cL_others 203 = .ok (.iconst 1, 1) := by decide +kernel
theorem dL_others_204 : decode cL_others 204 = .ok (.iaload, 1) := by decide +kernel
theorem dL_others_205 : decode cL_others 205 = .ok (.ifCond .ne 19, 3) := by decide +kernel
theorem dL_others_208 : decode cL_others 208 = .ok (.aload_n 0, 1) := by decide +kernel
theorem dL_others_209 : decode cL_others 209 = .ok (.iconst 0, 1) := by decide +kernel
theorem dL_others_210 : decode cL_others 210 = .ok (.invokestatic 150, 3) := by decide +kernel
theorem dL_others_213 : decode cL_others 213 = .ok (.ldc 28, 2) := by decide +kernel
theorem dL_others_215 : decode cL_others 215 = .ok (.if_icmp .ne 7, 3) := by decide +kernel
theorem dL_others_218 : decode cL_others 218 = .ok (.iconst 1, 1) := by decide +kernel
theorem dL_others_219 : decode cL_others 219 = .ok (.goto 4, 3) := by decide +kernel
theorem dL_others_222 : decode cL_others 222 = .ok (.iconst 0, 1) := by decide +kernel
theorem dL_others_223 : decode cL_others 223 = .ok (.ireturn, 1) := by decide +kernel
theorem dL_others_224 : decode cL_others 224 = .ok (.iload 4, 2) := by decide +kernel
theorem dL_others_226 : decode cL_others 226 = .ok (.aload_n 1, 1) := by decide +kernel
theorem dL_others_227 : decode cL_others 227 = .ok (.iconst 1, 1) := by decide +kernel
theorem dL_others_228 : decode cL_others 228 = .ok (.iaload, 1) := by decide +kernel
theorem dL_others_229 : decode cL_others 229 = .ok (.invokestatic 118, 3) := by decide +kernel
theorem dL_others_232 : decode cL_others 232 = .ok (.istore 6, 2) := by decide +kernel
theorem dL_others_234 : decode cL_others 234 = .ok (.aload_n 0, 1) := by decide +kernel
theorem dL_others_235 : decode cL_others 235 = .ok (.invokevirtual 99, 3) := by decide +kernel
theorem dL_others_238 : decode cL_others 238 = .ok (.istore 7, 2) := by decide +kernel
theorem dL_others_240 : decode cL_others 240 = .ok (.aload_n 0, 1) := by decide +kernel
theorem dL_others_241 : decode cL_others 241 = .ok (.iload 6, 2) := by decide +kernel
theorem dL_others_243 : decode cL_others 243 = .ok (.invokestatic 150, 3) := by decide +kernel
theorem dL_others_246 : decode cL_others 246 = .ok (.istore 8, 2) := by decide +kernel
theorem dL_others_248 : decode cL_others 248 = .ok (.aload_n 2, 1) := by decide +kernel
theorem dL_others_249 : decode cL_others 249 = .ok (.iload 6, 2) := by decide +kernel
theorem dL_others_251 : decode cL_others 251 = .ok (.iaload, 1) := by decide +kernel
theorem dL_others_252 : decode cL_others 252 = .ok (.ifCond .ne 28, 3) := by decide +kernel
theorem dL_others_255 : decode cL_others 255 = .ok (.iload 8, 2) := by decide +kernel
theorem dL_others_257 : decode cL_others 257 = .ok (.ifCond .lt 19, 3) := by decide +kernel
theorem dL_others_260 : decode cL_others 260 = .ok (.aload_n 0, 1) := by decide +kernel
theorem dL_others_261 : decode cL_others 261 = .ok (.invokevirtual 99, 3) := by decide +kernel
theorem dL_others_264 : decode cL_others 264 = .ok (.iload 7, 2) := by decide +kernel
theorem dL_others_266 : decode cL_others 266 = .ok (.iload 8, 2) := by decide +kernel
theorem dL_others_268 : decode cL_others 268 = .ok (.iadd, 1) := by decide +kernel
theorem dL_others_269 : decode cL_others 269 = .ok (.if_icmp .ne 7, 3) := by decide +kernel
theorem dL_others_272 : decode cL_others 272 = .ok (.iconst 1, 1) := by decide +kernel
theorem dL_others_273 : decode cL_others 273 = .ok (.goto 19, 3) := by decide +kernel
theorem dL_others_276 : decode cL_others 276 = .ok (.iconst 0, 1) := by decide +kernel
theorem dL_others_277 : decode cL_others 277 = .ok (.goto 15, 3) := by decide +kernel
theorem dL_others_280 : decode cL_others 280 = .ok (.iload 8, 2) := by decide +kernel
theorem dL_others_282 : decode cL_others 282 = .ok (.ldc 21, 2) := by decide +kernel
theorem dL_others_284 : decode cL_others 284 = .ok (.if_icmp .ne 7, 3) := by decide +kernel
theorem dL_others_287 : decode cL_others 287 = .ok (.iconst 1, 1) := by decide +kernel
theorem dL_others_288 : decode cL_others 288 = .ok (.goto 4, 3) := by decide +kernel
theorem dL_others_291 : decode cL_others 291 = .ok (.iconst 0, 1) := by decide +kernel
theorem dL_others_292 : decode cL_others 292 = .ok (.istore 9, 2) := by decide +kernel
theorem dL_others_294 : decode cL_others 294 = .ok (.aload_n 2, 1) := by decide +kernel
theorem dL_others_295 : decode cL_others 295 = .ok (.iload 6, 2) := by decide +kernel
theorem dL_others_297 : decode cL_others 297 = .ok (.iconst 1, 1) := by decide +kernel
theorem dL_others_298 : decode cL_others 298 = .ok (.iastore, 1) := by decide +kernel
theorem dL_others_299 : decode cL_others 299 = .ok (.iload 9, 2) := by decide +kernel
theorem dL_others_301 : decode cL_others 301 = .ok (.ifCond .eq 30, 3) := by decide +kernel
theorem dL_others_304 : decode cL_others 304 = .ok (.aload_n 0, 1) := by decide +kernel
theorem dL_others_305 : decode cL_others 305 = .ok (.iload 6, 2) := by decide +kernel
theorem dL_others_307 : decode cL_others 307 = .ok (.invokestatic 150, 3) := by decide +kernel
theorem dL_others_310 : decode cL_others 310 = .ok (.ldc 21, 2) := by decide +kernel
theorem dL_others_312 : decode cL_others 312 = .ok (.if_icmp .ne 19, 3) := by decide +kernel
theorem dL_others_315 : decode cL_others 315 = .ok (.aload_n 0, 1) := by decide +kernel
theorem dL_others_316 : decode cL_others 316 = .ok (.aload_n 1, 1) := by decide +kernel
theorem dL_others_317 : decode cL_others 317 = .ok (.iconst 1, 1) := by decide +kernel
theorem dL_others_318 : decode cL_others 318 = .ok (.iaload, 1) := by decide +kernel
theorem dL_others_319 : decode cL_others 319 = .ok (.invokestatic 150, 3) := by decide +kernel
theorem dL_others_322 : decode cL_others 322 = .ok (.ldc 28, 2) := by decide +kernel
theorem dL_others_324 : decode cL_others 324 = .ok (.if_icmp .ne 7, 3) := by decide +kernel
theorem dL_others_327 : decode cL_others 327 = .ok (.iconst 1, 1) := by decide +kernel
theorem dL_others_328 : decode cL_others 328 = .ok (.goto 4, 3) := by decide +kernel
theorem dL_others_331 : decode cL_others 331 = .ok (.iconst 0, 1) := by decide +kernel
theorem dL_others_332 : decode cL_others 332 = .ok (.ireturn, 1) := by decide +kernel
theorem dL_others_333 : decode cL_others 333 = .ok (.iload 5, 2) := by decide +kernel
theorem dL_others_335 : decode cL_others 335 = .ok (.iconst 3, 1) := by decide +kernel
theorem dL_others_336 : decode cL_others 336 = .ok (.if_icmp .ne 111, 3) := by decide +kernel
theorem dL_others_339 : decode cL_others 339 = .ok (.iload 4, 2) := by decide +kernel
theorem dL_others_341 : decode cL_others 341 = .ok (.iconst 5, 1) := by decide +kernel
theorem dL_others_342 : decode cL_others 342 = .ok (.invokestatic 118, 3) := by decide +kernel
theorem dL_others_345 : decode cL_others 345 = .ok (.istore 6, 2) := by decide +kernel
theorem dL_others_347 : decode cL_others 347 = .ok (.iload 4, 2) := by decide +kernel
theorem dL_others_349 : decode cL_others 349 = .ok (.iconst 3, 1) := by decide +kernel
theorem dL_others_350 : decode cL_others 350 = .ok (.ishr, 1) := by decide +kernel
theorem dL_others_351 : decode cL_others 351 = .ok (.bipush 30, 2) := by decide +kernel
theorem dL_others_353 : decode cL_others 353 = .ok (.invokestatic 118, 3) := by decide +kernel
theorem dL_others_356 : decode cL_others 356 = .ok (.istore 7, 2) := by decide +kernel
theorem dL_others_358 : decode cL_others 358 = .ok (.iload 4, 2) := by decide +kernel
theorem dL_others_360 : decode cL_others 360 = .ok (.bipush 8, 2) := by decide +kernel
theorem dL_others_362 : decode cL_others 362 = .ok (.ishr, 1) := by decide +kernel
theorem dL_others_363 : decode cL_others 363 = .ok (.iconst 2, 1) := by decide +kernel
theorem dL_others_364 : decode cL_others 364 = .ok (.invokestatic 118, 3) := by decide +kernel
theorem dL_others_367 : decode cL_others 367 = .ok (.ifCond .ne 7, 3) := by decide +kernel
theorem dL_others_370 : decode cL_others 370 = .ok (.iconst 1, 1) := by decide +kernel
theorem dL_others_371 : decode cL_others 371 = .ok (.goto 4, 3) := by decide +kernel
theorem dL_others_374 : decode cL_others 374 = .ok (.iconst 0, 1) := by decide +kernel
theorem dL_others_375 : decode cL_others 375 = .ok (.istore 8, 2) := by decide +kernel
theorem dL_others_377 : decode cL_others 377 = .ok (.aload_n 0, 1) := by decide +kernel
theorem dL_others_378 : decode cL_others 378 = .ok (.iload 6, 2) := by decide +kernel
theorem dL_others_380 : decode cL_others 380 = .ok (.iload 7, 2) := by decide +kernel
theorem dL_others_382 : decode cL_others 382 = .ok (.iload 8, 2) := by decide +kernel
theorem dL_others_384 : decode cL_others 384 = .ok (.invokestatic 152, 3) := by decide +kernel
theorem dL_others_387 : decode cL_others 387 = .ok (.ifCond .lt 58, 3) := by decide +kernel
theorem dL_others_390 : decode cL_others 390 = .ok (.aload_n 0, 1) := by decide +kernel
theorem dL_others_391 : decode cL_others 391 = .ok (.iload 6, 2) := by decide +kernel
theorem dL_others_393 : decode cL_others 393 = .ok (.iload 7, 2) := by decide +kernel
theorem dL_others_395 : decode cL_others 395 = .ok (.iload 8, 2) := by decide +kernel
theorem dL_others_397 : decode cL_others 397 = .ok (.invokestatic 152, 3) := by decide +kernel
theorem dL_others_400 : decode cL_others 400 = .ok (.iload 8, 2) := by decide +kernel
theorem dL_others_402 : decode cL_others 402 = .ok (.ifCond .eq 7, 3) := by decide +kernel
theorem dL_others_405 : decode cL_others 405 = .ok (.iconst 1, 1) := by decide +kernel
theorem dL_others_406 : decode cL_others 406 = .ok (.goto 4, 3) := by decide +kernel
theorem dL_others_409 : decode cL_others 409 = .ok (.iconst 0, 1) := by decide +kernel
theorem dL_others_410 : decode cL_others 410 = .ok (.if_icmp .ne 35, 3) := by decide +kernel
theorem dL_others_413 : decode cL_others 413 = .ok (.aload_n 0, 1) := by decide +kernel
theorem dL_others_414 : decode cL_others 414 = .ok (.iconst 5, 1) := by decide +kernel
theorem dL_others_415 : decode cL_others 415 = .ok (.bipush 30, 2) := by decide +kernel
theorem dL_others_417 : decode cL_others 417 = .ok (.iload 8, 2) := by decide +kernel
theorem dL_others_419 : decode cL_others 419 = .ok (.invokestatic 152, 3) := by decide +kernel
theorem dL_others_422 : decode cL_others 422 = .ok (.ldc 28, 2) := by decide +kernel
theorem dL_others_424 : decode cL_others 424 = .ok (.if_icmp .ne 21, 3) := by decide +kernel
theorem dL_others_427 : decode cL_others 427 = .ok (.aload_n 0, 1) := by decide +kernel
theorem dL_others_428 : decode cL_others 428 = .ok (.iconst 0, 1) := by decide +kernel
theorem dL_others_429 : decode cL_others 429 = .ok (.bipush 30, 2) := by decide +kernel
theorem dL_others_431 : decode cL_others 431 = .ok (.iload 8, 2) := by decide +kernel
theorem dL_others_433 : decode cL_others 433 = .ok (.invokestatic 152, 3) := by decide +kernel
theorem dL_others_436 : decode cL_others 436 = .ok (.ldc 18, 2) := by decide +kernel
theorem dL_others_438 : decode cL_others 438 = .ok (.if_icmp .ne 7, 3) := by decide +kernel
theorem dL_others_441 : decode cL_others 441 = .ok (.iconst 1, 1) := by decide +kernel
theorem dL_others_442 : decode cL_others 442 = .ok (.goto 4, 3) := by decide +kernel
theorem dL_others_445 : decode cL_others 445 = .ok (.iconst 0, 1) := by decide +kernel
theorem dL_others_446 : decode cL_others 446 = .ok (.ireturn, 1) := by decide +kernel
theorem dL_others_447 : decode cL_others 447 = .ok (.iload 4, 2) := by decide +kernel
theorem dL_others_449 : decode cL_others 449 = .ok (.iconst 5, 1) := by decide +kernel
theorem dL_others_450 : decode cL_others 450 = .ok (.invokestatic 118, 3) := by decide +kernel
theorem dL_others_453 : decode cL_others 453 = .ok (.istore 6, 2) := by decide +kernel
theorem dL_others_455 : decode cL_others 455 = .ok (.aload_n 0, 1) := by decide +kernel
theorem dL_others_456 : decode cL_others 456 = .ok (.iload 6, 2) := by decide +kernel
theorem dL_others_458 : decode cL_others 458 = .ok (.iconst 0, 1) := by decide +kernel
theorem dL_others_459 : decode cL_others 459 = .ok (.invokestatic 116, 3) := by decide +kernel
theorem dL_others_462 : decode cL_others 462 = .ok (.aload_n 0, 1) := by decide +kernel
theorem dL_others_463 : decode cL_others 463 = .ok (.iload 6, 2) := by decide +kernel
theorem dL_others_465 : decode cL_others 465 = .ok (.iconst 1, 1) := by decide +kernel
theorem dL_others_466 : decode cL_others 466 = .ok (.invokestatic 116, 3) := by decide +kernel
theorem dL_others_469 : decode cL_others 469 = .ok (.iadd, 1) := by decide +kernel
theorem dL_others_470 : decode cL_others 470 = .ok (.aload_n 0, 1) := by decide +kernel
theorem dL_others_471 : decode cL_others 471 = .ok (.iload 6, 2) := by decide +kernel
theorem dL_others_473 : decode cL_others 473 = .ok (.iconst 2, 1) := by decide +kernel
theorem dL_others_474 : decode cL_others 474 = .ok (.invokestatic 116, 3) := by decide +kernel
theorem dL_others_477 : decode cL_others 477 = .ok (.iadd, 1) := by decide +kernel
theorem dL_others_478 : decode cL_others 478 = .ok (.aload_n 0, 1) := by decide +kernel
theorem dL_others_479 : decode cL_others 479 = .ok (.iload 6, 2) := by decide +kernel
theorem dL_others_481 : decode cL_others 481 = .ok (.iconst 3, 1) := by decide +kernel
theorem dL_others_482 : decode cL_others 482 = .ok (.invokestatic 116, 3) := by decide +kernel
theorem dL_others_485 : decode cL_others 485 = .ok (.iadd, 1) := by decide +kernel
theorem dL_others_486 : decode cL_others 486 = .ok (.istore 7, 2) := by decide +kernel
theorem dL_others_488 : decode cL_others 488 = .ok (.iload 5, 2) := by decide +kernel
theorem dL_others_490 : decode cL_others 490 = .ok (.bipush 6, 2) := by decide +kernel
theorem dL_others_492 : decode cL_others 492 = .ok (.if_icmp .ge 74, 3) := by decide +kernel
theorem dL_others_495 : decode cL_others 495 = .ok (.iload 7, 2) := by decide +kernel
theorem dL_others_497 : decode cL_others 497 = .ok (.bipush 20, 2) := by decide +kernel
theorem dL_others_499 : decode cL_others 499 = .ok (.if_icmp .ge 10, 3) := by decide +kernel
theorem dL_others_502 : decode cL_others 502 = .ok (.iload 7, 2) := by decide +kernel
theorem dL_others_504 : decode cL_others 504 = .ok (.iconst 1, 1) := by decide +kernel
theorem dL_others_505 : decode cL_others 505 = .ok (.iadd, 1) := by decide +kernel
theorem dL_others_506 : decode cL_others 506 = .ok (.goto 5, 3) := by decide +kernel
theorem dL_others_509 : decode cL_others 509 = .ok (.ldc 21, 2) := by decide +kernel
theorem dL_others_511 : decode cL_others 511 = .ok (.istore 8, 2) := by decide +kernel
theorem dL_others_513 : decode cL_others 513 = .ok (.aload_n 1, 1) := by decide +kernel
theorem dL_others_514 : decode cL_others 514 = .ok (.iconst 3, 1) := by decide +kernel
theorem dL_others_515 : decode cL_others 515 = .ok (.dup2, 1) := by decide +kernel
theorem dL_others_516 : decode cL_others 516 = .ok (.iaload, 1) := by decide +kernel
theorem dL_others_517 : decode cL_others 517 = .ok (.iload 8, 2) := by decide +kernel
theorem dL_others_519 : decode cL_others 519 = .ok (.ifCond .ge 7, 3) := by decide +kernel
theorem dL_others_522 : decode cL_others 522 = .ok (.iconst 0, 1) := by decide +kernel
theorem dL_others_523 : decode cL_others 523 = .ok (.goto 4, 3) := by decide +kernel
theorem dL_others_526 : decode cL_others 526 = .ok (.iconst 5, 1) := by decide +kernel
theorem dL_others_527 : decode cL_others 527 = .ok (.iadd, 1) := by decide +kernel
theorem dL_others_528 : decode cL_others 528 = .ok (.iastore, 1) := by decide +kernel
theorem dL_others_529 : decode cL_others 529 = .ok (.aload_n 0, 1) := by decide +kernel
theorem dL_others_530 : decode cL_others 530 = .ok (.iload 6, 2) := by decide +kernel
theorem dL_others_532 : decode cL_others 532 = .ok (.invokestatic 155, 3) := by decide +kernel
theorem dL_others_535 : decode cL_others 535 = .ok (.iload 8, 2) := by decide +kernel
theorem dL_others_537 : decode cL_others 537 = .ok (.if_icmp .ne 27, 3) := by decide +kernel
theorem dL_others_540 : decode cL_others 540 = .ok (.aload_n 0, 1) := by decide +kernel
theorem dL_others_541 : decode cL_others 541 = .ok (.invokevirtual 105, 3) := by decide +kernel
theorem dL_others_544 : decode cL_others 544 = .ok (.aload_n 1, 1) := by decide +kernel
theorem dL_others_545 : decode cL_others 545 = .ok (.iconst 3, 1) := by decide +kernel
theorem dL_others_546 : decode cL_others 546 = .ok (.iaload, 1) := by decide +kernel
theorem dL_others_547 : decode cL_others 547 = .ok (.if_icmp .ne 17, 3) := by decide +kernel
theorem dL_others_550 : decode cL_others 550 = .ok (.aload_n 0, 1) := by decide +kernel
theorem dL_others_551 : decode cL_others 551 = .ok (.iconst 5, 1) := by decide +kernel
theorem dL_others_552 : decode cL_others 552 = .ok (.invokestatic 155, 3) := by decide +kernel
theorem dL_others_555 : decode cL_others 555 = .ok (.ldc 28, 2) := by decide +kernel
theorem dL_others_557 : decode cL_others 557 = .ok (.if_icmp .ne 7, 3) := by decide +kernel
theorem dL_others_560 : decode cL_others 560 = .ok (.iconst 1, 1) := by decide +kernel
theorem dL_others_561 : decode cL_others 561 = .ok (.goto 4, 3) := by decide +kernel
theorem dL_others_564 : decode cL_others 564 = .ok (.iconst 0, 1) := by decide +kernel
theorem dL_others_565 : decode cL_others 565 = .ok (.ireturn, 1) := by decide +kernel
theorem dL_others_566 : decode cL_others 566 = .ok (.iload 5, 2) := by decide +kernel
theorem dL_others_568 : decode cL_others 568 = .ok (.bipush 6, 2) := by decide +kernel
theorem dL_others_570 : decode cL_others 570 = .ok (.if_icmp .ne 133, 3) := by decide +kernel
theorem dL_others_573 : decode cL_others 573 = .ok (.iload 4, 2) := by decide +kernel
theorem dL_others_575 : decode cL_others 575 = .ok (.iconst 3, 1) := by decide +kernel
theorem dL_others_576 : decode cL_others 576 = .ok (.ishr, 1) := by decide +kernel
theorem dL_others_577 : decode cL_others 577 = .ok (.iconst 3, 1) := by decide +kernel
theorem dL_others_578 : decode cL_others 578 = .ok (.invokestatic 118, 3) := by decide +kernel
theorem dL_others_581 : decode cL_others 581 = .ok (.istore 8, 2) := by decide +kernel
theorem dL_others_583 : decode cL_others 583 = .ok (.aload_n 0, 1) := by decide +kernel
theorem dL_others_584 : decode cL_others 584 = .ok (.iload 6, 2) := by decide +kernel
theorem dL_others_586 : decode cL_others 586 = .ok (.iload 8, 2) := by decide +kernel
theorem dL_others_588 : decode cL_others 588 = .ok (.invokestatic 116, 3) := by decide +kernel
theorem dL_others_591 : decode cL_others 591 = .ok (.istore 9, 2) := by decide +kernel
theorem dL_others_593 : decode cL_others 593 = .ok (.aload_n 0, 1) := by decide +kernel
theorem dL_others_594 : decode cL_others 594 = .ok (.iload 6, 2) := by decide +kernel
theorem dL_others_596 : decode cL_others 596 = .ok (.iconst 3, 1) := by decide +kernel
theorem dL_others_597 : decode cL_others 597 = .ok (.invokestatic 116, 3) := by decide +kernel
theorem dL_others_600 : decode cL_others 600 = .ok (.istore 10, 2) := by decide +kernel
theorem dL_others_602 : decode cL_others 602 = .ok (.aload_n 0, 1) := by decide +kernel
theorem dL_others_603 : decode cL_others 603 = .ok (.iload 6, 2) := by decide +kernel
theorem dL_others_605 : decode cL_others 605 = .ok (.iload 8, 2) := by decide +kernel
theorem dL_others_607 : decode cL_others 607 = .ok (.invokestatic 157, 3) := by decide +kernel
theorem dL_others_610 : decode cL_others 610 = .ok (.iload 9, 2) := by decide +kernel
theorem dL_others_612 : decode cL_others 612 = .ok (.ifCond .le 10, 3) := by decide +kernel
theorem dL_others_615 : decode cL_others 615 = .ok (.iload 10, 2) := by decide +kernel
theorem dL_others_617 : decode cL_others 617 = .ok (.iconst 1, 1) := by decide +kernel
theorem dL_others_618 : decode cL_others 618 = .ok (.iadd, 1) := by decide +kernel
theorem dL_others_619 : decode cL_others 619 = .ok (.goto 5, 3) := by decide +kernel
theorem dL_others_622 : decode cL_others 622 = .ok (.ldc 21, 2) := by decide +kernel
theorem dL_others_624 : decode cL_others 624 = .ok (.if_icmp .ne 77, 3) := by decide +kernel
theorem dL_others_627 : decode cL_others 627 = .ok (.aload_n 0, 1) := by decide +kernel
theorem dL_others_628 : decode cL_others 628 = .ok (.iload 6, 2) := by decide +kernel
theorem dL_others_630 : decode cL_others 630 = .ok (.iload 8, 2) := by decide +kernel
theorem dL_others_632 : decode cL_others 632 = .ok (.invokestatic 116, 3) := by decide +kernel
theorem dL_others_635 : decode cL_others 635 = .ok (.iload 9, 2) := by decide +kernel
theorem dL_others_637 : decode cL_others 637 = .ok (.ifCond .le 10, 3) := by decide +kernel
theorem dL_others_640 : decode cL_others 640 = .ok (.iload 9, 2) := by decide +kernel
theorem dL_others_642 : decode cL_others 642 = .ok (.iconst 1, 1) := by decide +kernel
theorem dL_others_643 : decode cL_others 643 = .ok (.isub, 1) := by decide +kernel
theorem dL_others_644 : decode cL_others 644 = .ok (.goto 4, 3) := by decide +kernel
theorem dL_others_647 : decode cL_others 647 = .ok (.iconst 0, 1) := by decide +kernel
theorem dL_others_648 : decode cL_others 648 = .ok (.if_icmp .ne 53, 3) := by decide +kernel
theorem dL_others_651 : decode cL_others 651 = .ok (.aload_n 0, 1) := by decide +kernel
theorem dL_others_652 : decode cL_others 652 = .ok (.iload 6, 2) := by decide +kernel
theorem dL_others_654 : decode cL_others 654 = .ok (.iconst 3, 1) := by decide +kernel
theorem dL_others_655 : decode cL_others 655 = .ok (.invokestatic 116, 3) := by decide +kernel
theorem dL_others_658 : decode cL_others 658 = .ok (.iload 9, 2) := by decide +kernel
theorem dL_others_660 : decode cL_others 660 = .ok (.ifCond .le 10, 3) := by decide +kernel
theorem dL_others_663 : decode cL_others 663 = .ok (.iload 10, 2) := by decide +kernel
theorem dL_others_665 : decode cL_others 665 = .ok (.iconst 1, 1) := by decide +kernel
theorem dL_others_666 : decode cL_others 666 = .ok (.iadd, 1) := by decide +kernel
theorem dL_others_667 : decode cL_others 667 = .ok (.goto 5, 3) := by decide +kernel
theorem dL_others_670 : decode cL_others 670 = .ok (.iload 10, 2) := by decide +kernel
theorem dL_others_672 : decode cL_others 672 = .ok (.if_icmp .ne 29, 3) := by decide +kernel
theorem dL_others_675 : decode cL_others 675 = .ok (.aload_n 0, 1) := by decide +kernel
theorem dL_others_676 : decode cL_others 676 = .ok (.iconst 0, 1) := by decide +kernel
theorem dL_others_677 : decode cL_others 677 = .ok (.iconst 3, 1) := by decide +kernel
theorem dL_others_678 : decode cL_others 678 = .ok (.invokestatic 157, 3) := by decide +kernel
theorem dL_others_681 : decode cL_others 681 = .ok (.ldc 18, 2) := by decide +kernel
theorem dL_others_683 : decode cL_others 683 = .ok (.if_icmp .ne 18, 3) := by decide +kernel
theorem dL_others_686 : decode cL_others 686 = .ok (.aload_n 0, 1) := by decide +kernel
theorem dL_others_687 : decode cL_others 687 = .ok (.iconst 5, 1) := by decide +kernel
theorem dL_others_688 : decode cL_others 688 = .ok (.iconst 3, 1) := by decide +kernel
theorem dL_others_689 : decode cL_others 689 = .ok (.invokestatic 157, 3) := by decide +kernel
theorem dL_others_692 : decode cL_others 692 = .ok (.ldc 28, 2) := by decide +kernel
theorem dL_others_694 : decode cL_others 694 = .ok (.if_icmp .ne 7, 3) := by decide +kernel
theorem dL_others_697 : decode cL_others 697 = .ok (.iconst 1, 1) := by decide +kernel
theorem dL_others_698 : decode cL_others 698 = .ok (.goto 4, 3) := by decide +kernel
theorem dL_others_701 : decode cL_others 701 = .ok (.iconst 0, 1) := by decide +kernel
theorem dL_others_702 : decode cL_others 702 = .ok (.ireturn, 1) := by decide +kernel
theorem dL_others_703 : decode cL_others 703 = .ok (.iconst 0, 1) := by decide +kernel
theorem dL_others_704 : decode cL_others 704 = .ok (.istore 8, 2) := by decide +kernel
theorem dL_others_706 : decode cL_others 706 = .ok (.iconst 0, 1) := by decide +kernel
theorem dL_others_707 : decode cL_others 707 = .ok (.istore 9, 2) := by decide +kernel
theorem dL_others_709 : decode cL_others 709 = .ok (.iload 9, 2) := by decide +kernel
theorem dL_others_711 : decode cL_others 711 = .ok (.iconst 5, 1) := by decide +kernel
theorem dL_others_712 : decode cL_others 712 = .ok (.if_icmp .ge 21, 3) := by decide +kernel
theorem dL_others_715 : decode cL_others 715 = .ok (.iload 8, 2) := by decide +kernel
theorem dL_others_717 : decode cL_others 717 = .ok (.aload_n 0, 1) := by decide +kernel
theorem dL_others_718 : decode cL_others 718 = .ok (.iload 9, 2) := by decide +kernel
theorem dL_others_720 : decode cL_others 720 = .ok (.iconst 3, 1) := by decide +kernel
theorem dL_others_721 : decode cL_others 721 = .ok (.invokestatic 116, 3) := by decide +kernel
theorem dL_others_724 : decode cL_others 724 = .ok (.iadd, 1) := by decide +kernel
theorem dL_others_725 : decode cL_others 725 = .ok (.istore 8, 2) := by decide +kernel
theorem dL_others_727 : decode cL_others 727 = .ok (.iinc 9 1, 3) := by decide +kernel
theorem dL_others_730 : decode cL_others 730 = .ok (.goto (-21), 3) := by decide +kernel
theorem dL_others_733 : decode cL_others 733 = .ok (.aload_n 0, 1) := by decide +kernel
theorem dL_others_734 : decode cL_others 734 = .ok (.invokevirtual 159, 3) := by decide +kernel
theorem dL_others_737 : decode cL_others 737 = .ok (.iload 8, 2) := by decide +kernel
theorem dL_others_739 : decode cL_others 739 = .ok (.if_icmp .ne 24, 3) := by decide +kernel
theorem dL_others_742 : decode cL_others 742 = .ok (.aload_n 0, 1) := by decide +kernel
theorem dL_others_743 : decode cL_others 743 = .ok (.invokevirtual 159, 3) := by decide +kernel
theorem dL_others_746 : decode cL_others 746 = .ok (.ifCond .ne 17, 3) := by decide +kernel
theorem dL_others_749 : decode cL_others 749 = .ok (.aload_n 0, 1) := by decide +kernel
theorem dL_others_750 : decode cL_others 750 = .ok (.iload 6, 2) := by decide +kernel
theorem dL_others_752 : decode cL_others 752 = .ok (.iconst 3, 1) := by decide +kernel
theorem dL_others_753 : decode cL_others 753 = .ok (.invokestatic 116, 3) := by decide +kernel
theorem dL_others_756 : decode cL_others 756 = .ok (.ifCond .ne 7, 3) := by decide +kernel
theorem dL_others_759 : decode cL_others 759 = .ok (.iconst 1, 1) := by decide +kernel
theorem dL_others_760 : decode cL_others 760 = .ok (.goto 4, 3) := by decide +kernel
theorem dL_others_763 : decode cL_others 763 = .ok (.iconst 0, 1) := by decide +kernel
theorem dL_others_764 : decode cL_others 764 = .ok (.ireturn, 1) := by decide +kernel
theorem dL_acts_0 : decode cL_acts 0 = .ok (.iload 4, 2) := by decide +kernel
theorem dL_acts_2 : decode cL_acts 2 = .ok (.bipush 24, 2) := by decide +kernel
theorem dL_acts_4 : decode cL_acts 4 = .ok (.invokestatic 118, 3) := by decide +kernel
theorem dL_acts_7 : decode cL_acts 7 = .ok (.istore 6, 2) := by decide +kernel
theorem dL_acts_9 : decode cL_acts 9 = .ok (.aload_n 1, 1) := by decide +kernel
theorem dL_acts_10 : decode cL_acts 10 = .ok (.iconst 0, 1) := by decide +kernel
theorem dL_acts_11 : decode cL_acts 11 = .ok (.iaload, 1) := by decide +kernel
theorem dL_acts_12 : decode cL_acts 12 = .ok (.iconst 2, 1) := by decide +kernel
theorem dL_acts_13 : decode cL_acts 13 = .ok (.if_icmp .lt 10, 3) := by decide +kernel
theorem dL_acts_16 : decode cL_acts 16 = .ok (.iload 6, 2) := by decide +kernel
theorem dL_acts_18 : decode cL_acts 18 = .ok (.bipush 11, 2) := by decide +kernel
theorem dL_acts_20 : decode cL_acts 20 = .ok (.if_icmp .ge 16, 3) := by decide +kernel
theorem dL_acts_23 : decode cL_acts 23 = .ok (.aload_n 0, 1) := by decide +kernel
theorem dL_acts_24 : decode cL_acts 24 = .ok (.aload_n 1, 1) := by decide +kernel
theorem dL_acts_25 : decode cL_acts 25 = .ok (.aload_n 2, 1) := by decide +kernel
theorem dL_acts_26 : decode cL_acts 26 = .ok (.iload 4, 2) := by decide +kernel
theorem dL_acts_28 : decode cL_acts 28 = .ok (.iconst 5, 1) := by decide +kernel
theorem dL_acts_29 : decode cL_acts 29 = .ok (.ishr, 1) := by decide +kernel
theorem dL_acts_30 : decode cL_acts 30 = .ok (.iload 5, 2) := by decide +kernel
theorem dL_acts_32 : decode cL_acts 32 = .ok (.invokestatic 162, 3) := by decide +kernel
theorem dL_acts_35 : decode cL_acts 35 = .ok (.ireturn, 1) := by decide +kernel
theorem dL_acts_36 : decode cL_acts 36 = .ok (.iload 6, 2) := by decide +kernel
theorem dL_acts_38 : decode cL_acts 38 = .ok (.bipush 15, 2) := by decide +kernel
theorem dL_acts_40 : decode cL_acts 40 = .ok (.if_icmp .ge 15, 3) := by decide +kernel
theorem dL_acts_43 : decode cL_acts 43 = .ok (.aload_n 0, 1) := by decide +kernel
theorem dL_acts_44 : decode cL_acts 44 = .ok (.aload_n 1, 1) := by decide +kernel
theorem dL_acts_45 : decode cL_acts 45 = .ok (.iload 4, 2) := by decide +kernel
theorem dL_acts_47 : decode cL_acts 47 = .ok (.iconst 5, 1) := by decide +kernel
theorem dL_acts_48 : decode cL_acts 48 = .ok (.ishr, 1) := by decide +kernel
theorem dL_acts_49 : decode cL_acts 49 = .ok (.iload 5, 2) := by decide +kernel
theorem dL_acts_51 : decode cL_acts 51 = .ok (.invokestatic 165, 3) := by decide +kernel
theorem dL_acts_54 : decode cL_acts 54 = .ok (.ireturn, 1) := by decide +kernel
theorem dL_acts_55 : decode cL_acts 55 = .ok (.iload 6, 2) := by decide +kernel
theorem dL_acts_57 : decode cL_acts 57 = .ok (.bipush 15, 2) := by decide +kernel
theorem dL_acts_59 : decode cL_acts 59 = .ok (.if_icmp .ne 30, 3) := by decide +kernel
theorem dL_acts_62 : decode cL_acts 62 = .ok (.aload_n 1, 1) := by decide +kernel
theorem dL_acts_63 : decode cL_acts 63 = .ok (.iconst 4, 1) := by decide +kernel
theorem dL_acts_64 : decode cL_acts 64 = .ok (.iaload, 1) := by decide +kernel
theorem dL_acts_65 : decode cL_acts 65 = .ok (.bipush 8, 2) := by decide +kernel
theorem dL_acts_67 : decode cL_acts 67 = .ok (.if_icmp .ge 22, 3) := by decide +kernel
theorem dL_acts_70 : decode cL_acts 70 = .ok (.aload_n 1, 1) := by decide +kernel
theorem dL_acts_71 : decode cL_acts 71 = .ok (.iconst 4, 1) := by decide +kernel
theorem dL_acts_72 : decode cL_acts 72 = .ok (.dup2, 1) := by decide +kernel
theorem dL_acts_73 : decode cL_acts 73 = .ok (.iaload, 1) := by decide +kernel
theorem dL_acts_74 : decode cL_acts 74 = .ok (.iconst 1, 1) := by decide +kernel
theorem dL_acts_75 : decode cL_acts 75 = .ok (.iadd, 1) := by decide +kernel
theorem dL_acts_76 : decode cL_acts 76 = .ok (.iastore, 1) := by decide +kernel
theorem dL_acts_77 : decode cL_acts 77 = .ok (.aload_n 0, 1) := by decide +kernel
theorem dL_acts_78 : decode cL_acts 78 = .ok (.aload_n 1, 1) := by decide +kernel
theorem dL_acts_79 : decode cL_acts 79 = .ok (.iload 4, 2) := by decide +kernel
theorem dL_acts_81 : decode cL_acts 81 = .ok (.iconst 5, 1) := by decide +kernel
theorem dL_acts_82 : decode cL_acts 82 = .ok (.ishr, 1) := by decide +kernel
theorem dL_acts_83 : decode cL_acts 83 = .ok (.iload 5, 2) := by decide +kernel
theorem dL_acts_85 : decode cL_acts 85 = .ok (.invokestatic 169, 3) := by decide +kernel
theorem dL_acts_88 : decode cL_acts 88 = .ok (.ireturn, 1) := by decide +kernel
theorem dL_acts_89 : decode cL_acts 89 = .ok (.iload 6, 2) := by decide +kernel
theorem dL_acts_91 : decode cL_acts 91 = .ok (.bipush 18, 2) := by decide +kernel
theorem dL_acts_93 : decode cL_acts 93 = .ok (.if_icmp .ge 11, 3) := by decide +kernel
theorem dL_acts_96 : decode cL_acts 96 = .ok (.aload_n 0, 1) := by decide +kernel
theorem dL_acts_97 : decode cL_acts 97 = .ok (.aload_n 1, 1) := by decide +kernel
theorem dL_acts_98 : decode cL_acts 98 = .ok (.invokestatic 172, 3) := by decide +kernel
theorem dL_acts_101 : decode cL_acts 101 = .ok (.goto 15, 3) := by decide +kernel
theorem dL_acts_104 : decode cL_acts 104 = .ok (.aload_n 0, 1) := by decide +kernel
theorem dL_acts_105 : decode cL_acts 105 = .ok (.aload_n 1, 1) := by decide +kernel
theorem dL_acts_106 : decode cL_acts 106 = .ok (.aload_n 3, 1) := by decide +kernel
theorem dL_acts_107 : decode cL_acts 107 = .ok (.iload 4, 2) := by decide +kernel
theorem dL_acts_109 : decode cL_acts 109 = .ok (.iconst 5, 1) := by decide +kernel
theorem dL_acts_110 : decode cL_acts 110 = .ok (.ishr, 1) := by decide +kernel
theorem dL_acts_111 : decode cL_acts 111 = .ok (.iload 5, 2) := by decide +kernel
theorem dL_acts_113 : decode cL_acts 113 = .ok (.invokestatic 176, 3) := by decide +kernel
theorem dL_acts_116 : decode cL_acts 116 = .ok (.ireturn, 1) := by decide +kernel
theorem dL_law_0 : decode cL_law 0 = .ok (.new 11, 3) := by decide +kernel
theorem dL_law_3 : decode cL_law 3 = .ok (.dup, 1) := by decide +kernel
theorem dL_law_4 : decode cL_law 4 = .ok (.invokespecial 179, 3) := by decide +kernel
theorem dL_law_7 : decode cL_law 7 = .ok (.astore_n 1, 1) := by decide +kernel
theorem dL_law_8 : decode cL_law 8 = .ok (.iconst 5, 1) := by decide +kernel
theorem dL_law_9 : decode cL_law 9 = .ok (.newarray .int, 2) := by decide +kernel
theorem dL_law_11 : decode cL_law 11 = .ok (.astore_n 2, 1) := by decide +kernel
theorem dL_law_12 : decode cL_law 12 = .ok (.bipush 50, 2) := by decide +kernel
theorem dL_law_14 : decode cL_law 14 = .ok (.newarray .int, 2) := by decide +kernel
theorem dL_law_16 : decode cL_law 16 = .ok (.astore_n 3, 1) := by decide +kernel
theorem dL_law_17 : decode cL_law 17 = .ok (.bipush 20, 2) := by decide +kernel
theorem dL_law_19 : decode cL_law 19 = .ok (.newarray .int, 2) := by decide +kernel
theorem dL_law_21 : decode cL_law 21 = .ok (.astore 4, 2) := by decide +kernel
theorem dL_law_23 : decode cL_law 23 = .ok (.aload_n 1, 1) := by decide +kernel
theorem dL_law_24 : decode cL_law 24 = .ok (.invokevirtual 111, 3) := by decide +kernel
theorem dL_law_27 : decode cL_law 27 = .ok (.ifCond .ne 35, 3) := by decide +kernel
theorem dL_law_30 : decode cL_law 30 = .ok (.aload_n 1, 1) := by decide +kernel
theorem dL_law_31 : decode cL_law 31 = .ok (.invokevirtual 140, 3) := by decide +kernel
theorem dL_law_34 : decode cL_law 34 = .ok (.ifCond .ne 28, 3) := by decide +kernel
theorem dL_law_37 : decode cL_law 37 = .ok (.aload_n 1, 1) := by decide +kernel
theorem dL_law_38 : decode cL_law 38 = .ok (.invokevirtual 145, 3) := by decide +kernel
theorem dL_law_41 : decode cL_law 41 = .ok (.ifCond .ne 21, 3) := by decide +kernel
theorem dL_law_44 : decode cL_law 44 = .ok (.aload_n 1, 1) := by decide +kernel
theorem dL_law_45 : decode cL_law 45 = .ok (.invokestatic 143, 3) := by decide +kernel
theorem dL_law_48 : decode cL_law 48 = .ok (.ifCond .ne 14, 3) := by decide +kernel
theorem dL_law_51 : decode cL_law 51 = .ok (.aload_n 1, 1) := by decide +kernel
theorem dL_law_52 : decode cL_law 52 = .ok (.invokevirtual 159, 3) := by decide +kernel
theorem dL_law_55 : decode cL_law 55 = .ok (.ifCond .ne 7, 3) := by decide +kernel
theorem dL_law_58 : decode cL_law 58 = .ok (.iconst 1, 1) := by decide +kernel
theorem dL_law_59 : decode cL_law 59 = .ok (.goto 4, 3) := by decide +kernel
theorem dL_law_62 : decode cL_law 62 = .ok (.iconst 0, 1) := by decide +kernel
theorem dL_law_63 : decode cL_law 63 = .ok (.istore 5, 2) := by decide +kernel
theorem dL_law_65 : decode cL_law 65 = .ok (.iconst 0, 1) := by decide +kernel
theorem dL_law_66 : decode cL_law 66 = .ok (.istore 6, 2) := by decide +kernel
theorem dL_law_68 : decode cL_law 68 = .ok (.iload 6, 2) := by decide +kernel
theorem dL_law_70 : decode cL_law 70 = .ok (.sipush 140, 3) := by decide +kernel
theorem dL_law_73 : decode cL_law 73 = .ok (.if_icmp .ge 69, 3) := by decide +kernel
theorem dL_law_76 : decode cL_law 76 = .ok (.iload 5, 2) := by decide +kernel
theorem dL_law_78 : decode cL_law 78 = .ok (.ifCond .eq 64, 3) := by decide +kernel
theorem dL_law_81 : decode cL_law 81 = .ok (.aload_n 1, 1) := by decide +kernel
theorem dL_law_82 : decode cL_law 82 = .ok (.aload_n 2, 1) := by decide +kernel
theorem dL_law_83 : decode cL_law 83 = .ok (.aload_n 3, 1) := by decide +kernel
theorem dL_law_84 : decode cL_law 84 = .ok (.aload 4, 2) := by decide +kernel
theorem dL_law_86 : decode cL_law 86 = .ok (.aload_n 0, 1) := by decide +kernel
theorem dL_law_87 : decode cL_law 87 = .ok (.iconst 2, 1) := by decide +kernel
theorem dL_law_88 : decode cL_law 88 = .ok (.iload 6, 2) := by decide +kernel
theorem dL_law_90 : decode cL_law 90 = .ok (.imul, 1) := by decide +kernel
theorem dL_law_91 : decode cL_law 91 = .ok (.invokestatic 180, 3) := by decide +kernel
theorem dL_law_94 : decode cL_law 94 = .ok (.aload_n 0, 1) := by decide +kernel
theorem dL_law_95 : decode cL_law 95 = .ok (.iconst 2, 1) := by decide +kernel
theorem dL_law_96 : decode cL_law 96 = .ok (.iload 6, 2) := by decide +kernel
theorem dL_law_98 : decode cL_law 98 = .ok (.imul, 1) := by decide +kernel
theorem dL_law_99 : decode cL_law 99 = .ok (.iconst 1, 1) := by decide +kernel
theorem dL_law_100 : decode cL_law 100 = .ok (.iadd, 1) := by decide +kernel
theorem dL_law_101 : decode cL_law 101 = .ok (.invokestatic 180, 3) := by decide +kernel
theorem dL_law_104 : decode cL_law 104 = .ok (.invokestatic 184, 3) := by decide +kernel
theorem dL_law_107 : decode cL_law 107 = .ok (.ifCond .eq 26, 3) := by decide +kernel
theorem dL_law_110 : decode cL_law 110 = .ok (.iload 6, 2) := by decide +kernel
theorem dL_law_112 : decode cL_law 112 = .ok (.bipush 10, 2) := by decide +kernel
theorem dL_law_114 : decode cL_law 114 = .ok (.irem, 1) := by decide +kernel
theorem dL_law_115 : decode cL_law 115 = .ok (.bipush 9, 2) := by decide +kernel
theorem dL_law_117 : decode cL_law 117 = .ok (.if_icmp .lt 12, 3) := by decide +kernel
theorem dL_law_120 : decode cL_law 120 = .ok (.aload_n 1, 1) := by decide +kernel
theorem dL_law_121 : decode cL_law 121 = .ok (.aload_n 2, 1) := by decide +kernel
theorem dL_law_122 : decode cL_law 122 = .ok (.aload_n 3, 1) := by decide +kernel
theorem dL_law_123 : decode cL_law 123 = .ok (.invokestatic 188, 3) := by decide +kernel
theorem dL_law_126 : decode cL_law 126 = .ok (.ifCond .eq 7, 3) := by decide +kernel
theorem dL_law_129 : decode cL_law 129 = .ok (.iconst 1, 1) := by decide +kernel
theorem dL_law_130 : decode cL_law 130 = .ok (.goto 4, 3) := by decide +kernel
theorem dL_law_133 : decode cL_law 133 = .ok (.iconst 0, 1) := by decide +kernel
theorem dL_law_134 : decode cL_law 134 = .ok (.istore 5, 2) := by decide +kernel
theorem dL_law_136 : decode cL_law 136 = .ok (.iinc 6 1, 3) := by decide +kernel
theorem dL_law_139 : decode cL_law 139 = .ok (.goto (-71), 3) := by decide +kernel
theorem dL_law_142 : decode cL_law 142 = .ok (.iload 5, 2) := by decide +kernel
theorem dL_law_144 : decode cL_law 144 = .ok (.ireturn, 1) := by decide +kernel
