theorem dX9_worked_49 : decode cX9_worked 49 = .ok (.aload_n 0, 1) := by decide +kernel
theorem dX9_worked_50 : decode cX9_worked 50 = .ok (.getfield 87, 3) := by decide +kernel
theorem dX9_worked_53 : decode cX9_worked 53 = .ok (.iload_n 2, 1) := by decide +kernel
theorem dX9_worked_54 : decode cX9_worked 54 = .ok (.iload 4, 2) := by decide +kernel
theorem dX9_worked_56 : decode cX9_worked 56 = .ok (.bipush 30, 2) := by decide +kernel
theorem dX9_worked_58 : decode cX9_worked 58 = .ok (.if_icmp .ne 7, 3) := by decide +kernel
theorem dX9_worked_61 : decode cX9_worked 61 = .ok (.iconst 1, 1) := by decide +kernel
theorem dX9_worked_62 : decode cX9_worked 62 = .ok (.goto 4, 3) := by decide +kernel
theorem dX9_worked_65 : decode cX9_worked 65 = .ok (.iconst 0, 1) := by decide +kernel
theorem dX9_worked_66 : decode cX9_worked 66 = .ok (.iastore, 1) := by decide +kernel
theorem dX9_worked_67 : decode cX9_worked 67 = .ok (.aload_n 0, 1) := by decide +kernel
theorem dX9_worked_68 : decode cX9_worked 68 = .ok (.iload_n 2, 1) := by decide +kernel
theorem dX9_worked_69 : decode cX9_worked 69 = .ok (.invokevirtual 222, 3) := by decide +kernel
theorem dX9_worked_72 : decode cX9_worked 72 = .ok (.goto 257, 3) := by decide +kernel
theorem dX9_worked_75 : decode cX9_worked 75 = .ok (.iload 4, 2) := by decide +kernel
theorem dX9_worked_77 : decode cX9_worked 77 = .ok (.bipush 20, 2) := by decide +kernel
theorem dX9_worked_79 : decode cX9_worked 79 = .ok (.if_icmp .eq 10, 3) := by decide +kernel
theorem dX9_worked_82 : decode cX9_worked 82 = .ok (.iload 4, 2) := by decide +kernel
theorem dX9_worked_84 : decode cX9_worked 84 = .ok (.bipush 21, 2) := by decide +kernel
theorem dX9_worked_86 : decode cX9_worked 86 = .ok (.if_icmp .ne 19, 3) := by decide +kernel
theorem dX9_worked_89 : decode cX9_worked 89 = .ok (.aload_n 0, 1) := by decide +kernel
theorem dX9_worked_90 : decode cX9_worked 90 = .ok (.iload_n 2, 1) := by decide +kernel
theorem dX9_worked_91 : decode cX9_worked 91 = .ok (.invokevirtual 219, 3) := by decide +kernel
theorem dX9_worked_94 : decode cX9_worked 94 = .ok (.aload_n 0, 1) := by decide +kernel
theorem dX9_worked_95 : decode cX9_worked 95 = .ok (.getfield 78, 3) := by decide +kernel
theorem dX9_worked_98 : decode cX9_worked 98 = .ok (.iload_n 2, 1) := by decide +kernel
theorem dX9_worked_99 : decode cX9_worked 99 = .ok (.iload 4, 2) := by decide +kernel
theorem dX9_worked_101 : decode cX9_worked 101 = .ok (.iastore, 1) := by decide +kernel
theorem dX9_worked_102 : decode cX9_worked 102 = .ok (.goto 227, 3) := by decide +kernel
theorem dX9_worked_105 : decode cX9_worked 105 = .ok (.iload 4, 2) := by decide +kernel
theorem dX9_worked_107 : decode cX9_worked 107 = .ok (.bipush 22, 2) := by decide +kernel
theorem dX9_worked_109 : decode cX9_worked 109 = .ok (.if_icmp .ne 14, 3) := by decide +kernel
theorem dX9_worked_112 : decode cX9_worked 112 = .ok (.aload_n 0, 1) := by decide +kernel
theorem dX9_worked_113 : decode cX9_worked 113 = .ok (.getfield 84, 3) := by decide +kernel
theorem dX9_worked_116 : decode cX9_worked 116 = .ok (.iload_n 2, 1) := by decide +kernel
theorem dX9_worked_117 : decode cX9_worked 117 = .ok (.iload 4, 2) := by decide +kernel
theorem dX9_worked_119 : decode cX9_worked 119 = .ok (.iastore, 1) := by decide +kernel
theorem dX9_worked_120 : decode cX9_worked 120 = .ok (.goto 209, 3) := by decide +kernel
theorem dX9_worked_123 : decode cX9_worked 123 = .ok (.iload 4, 2) := by decide +kernel
theorem dX9_worked_125 : decode cX9_worked 125 = .ok (.bipush 24, 2) := by decide +kernel
theorem dX9_worked_127 : decode cX9_worked 127 = .ok (.if_icmp .eq 10, 3) := by decide +kernel
theorem dX9_worked_130 : decode cX9_worked 130 = .ok (.iload 4, 2) := by decide +kernel
theorem dX9_worked_132 : decode cX9_worked 132 = .ok (.bipush 25, 2) := by decide +kernel
theorem dX9_worked_134 : decode cX9_worked 134 = .ok (.if_icmp .ne 46, 3) := by decide +kernel
theorem dX9_worked_137 : decode cX9_worked 137 = .ok (.aload_n 0, 1) := by decide +kernel
theorem dX9_worked_138 : decode cX9_worked 138 = .ok (.iload_n 2, 1) := by decide +kernel
theorem dX9_worked_139 : decode cX9_worked 139 = .ok (.invokevirtual 219, 3) := by decide +kernel
theorem dX9_worked_142 : decode cX9_worked 142 = .ok (.aload_n 0, 1) := by decide +kernel
theorem dX9_worked_143 : decode cX9_worked 143 = .ok (.getfield 69, 3) := by decide +kernel
theorem dX9_worked_146 : decode cX9_worked 146 = .ok (.iload_n 2, 1) := by decide +kernel
theorem dX9_worked_147 : decode cX9_worked 147 = .ok (.aload_n 0, 1) := by decide +kernel
theorem dX9_worked_148 : decode cX9_worked 148 = .ok (.getfield 75, 3) := by decide +kernel
theorem dX9_worked_151 : decode cX9_worked 151 = .ok (.iload_n 2, 1) := by decide +kernel
theorem dX9_worked_152 : decode cX9_worked 152 = .ok (.iaload, 1) := by decide +kernel
theorem dX9_worked_153 : decode cX9_worked 153 = .ok (.iastore, 1) := by decide +kernel
theorem dX9_worked_154 : decode cX9_worked 154 = .ok (.aload_n 0, 1) := by decide +kernel
theorem dX9_worked_155 : decode cX9_worked 155 = .ok (.getfield 72, 3) := by decide +kernel
theorem dX9_worked_158 : decode cX9_worked 158 = .ok (.iload_n 2, 1) := by decide +kernel
theorem dX9_worked_159 : decode cX9_worked 159 = .ok (.iload 4, 2) := by decide +kernel
theorem dX9_worked_161 : decode cX9_worked 161 = .ok (.iastore, 1) := by decide +kernel
theorem dX9_worked_162 : decode cX9_worked 162 = .ok (.aload_n 0, 1) := by decide +kernel
theorem dX9_worked_163 : decode cX9_worked 163 = .ok (.getfield 75, 3) := by decide +kernel
theorem dX9_worked_166 : decode cX9_worked 166 = .ok (.iload_n 2, 1) := by decide +kernel
theorem dX9_worked_167 : decode cX9_worked 167 = .ok (.iconst 0, 1) := by decide +kernel
theorem dX9_worked_168 : decode cX9_worked 168 = .ok (.iastore, 1) := by decide +kernel
theorem dX9_worked_169 : decode cX9_worked 169 = .ok (.aload_n 0, 1) := by decide +kernel
theorem dX9_worked_170 : decode cX9_worked 170 = .ok (.getfield 78, 3) := by decide +kernel
theorem dX9_worked_173 : decode cX9_worked 173 = .ok (.iload_n 2, 1) := by decide +kernel
theorem dX9_worked_174 : decode cX9_worked 174 = .ok (.bipush 20, 2) := by decide +kernel
theorem dX9_worked_176 : decode cX9_worked 176 = .ok (.iastore, 1) := by decide +kernel
theorem dX9_worked_177 : decode cX9_worked 177 = .ok (.goto 152, 3) := by decide +kernel
theorem dX9_worked_180 : decode cX9_worked 180 = .ok (.iload 4, 2) := by decide +kernel
theorem dX9_worked_182 : decode cX9_worked 182 = .ok (.bipush 26, 2) := by decide +kernel
theorem dX9_worked_184 : decode cX9_worked 184 = .ok (.if_icmp .eq 10, 3) := by decide +kernel
theorem dX9_worked_187 : decode cX9_worked 187 = .ok (.iload 4, 2) := by decide +kernel
theorem dX9_worked_189 : decode cX9_worked 189 = .ok (.bipush 27, 2) := by decide +kernel
theorem dX9_worked_191 : decode cX9_worked 191 = .ok (.if_icmp .ne 19, 3) := by decide +kernel
theorem dX9_worked_194 : decode cX9_worked 194 = .ok (.aload_n 0, 1) := by decide +kernel
theorem dX9_worked_195 : decode cX9_worked 195 = .ok (.iload_n 2, 1) := by decide +kernel
theorem dX9_worked_196 : decode cX9_worked 196 = .ok (.invokevirtual 225, 3) := by decide +kernel
theorem dX9_worked_199 : decode cX9_worked 199 = .ok (.aload_n 0, 1) := by decide +kernel
theorem dX9_worked_200 : decode cX9_worked 200 = .ok (.getfield 66, 3) := by decide +kernel
theorem dX9_worked_203 : decode cX9_worked 203 = .ok (.iload_n 2, 1) := by decide +kernel
theorem dX9_worked_204 : decode cX9_worked 204 = .ok (.iload 4, 2) := by decide +kernel
theorem dX9_worked_206 : decode cX9_worked 206 = .ok (.iastore, 1) := by decide +kernel
theorem dX9_worked_207 : decode cX9_worked 207 = .ok (.goto 122, 3) := by decide +kernel
theorem dX9_worked_210 : decode cX9_worked 210 = .ok (.iload 4, 2) := by decide +kernel
theorem dX9_worked_212 : decode cX9_worked 212 = .ok (.bipush 100, 2) := by decide +kernel
theorem dX9_worked_214 : decode cX9_worked 214 = .ok (.if_icmp .lt 11, 3) := by decide +kernel
theorem dX9_worked_217 : decode cX9_worked 217 = .ok (.iload 4, 2) := by decide +kernel
theorem dX9_worked_219 : decode cX9_worked 219 = .ok (.bipush 100, 2) := by decide +kernel
theorem dX9_worked_221 : decode cX9_worked 221 = .ok (.isub, 1) := by decide +kernel
theorem dX9_worked_222 : decode cX9_worked 222 = .ok (.goto 21, 3) := by decide +kernel
theorem dX9_worked_225 : decode cX9_worked 225 = .ok (.iload 4, 2) := by decide +kernel
theorem dX9_worked_227 : decode cX9_worked 227 = .ok (.bipush 20, 2) := by decide +kernel
theorem dX9_worked_229 : decode cX9_worked 229 = .ok (.if_icmp .ge 13, 3) := by decide +kernel
theorem dX9_worked_232 : decode cX9_worked 232 = .ok (.aload_n 0, 1) := by decide +kernel
theorem dX9_worked_233 : decode cX9_worked 233 = .ok (.getfield 90, 3) := by decide +kernel
theorem dX9_worked_236 : decode cX9_worked 236 = .ok (.iload 4, 2) := by decide +kernel
theorem dX9_worked_238 : decode cX9_worked 238 = .ok (.iaload, 1) := by decide +kernel
theorem dX9_worked_239 : decode cX9_worked 239 = .ok (.goto 4, 3) := by decide +kernel
theorem dX9_worked_242 : decode cX9_worked 242 = .ok (.iconst 0, 1) := by decide +kernel
theorem dX9_worked_243 : decode cX9_worked 243 = .ok (.istore 5, 2) := by decide +kernel
theorem dX9_worked_245 : decode cX9_worked 245 = .ok (.iload 4, 2) := by decide +kernel
theorem dX9_worked_247 : decode cX9_worked 247 = .ok (.bipush 29, 2) := by decide +kernel
theorem dX9_worked_249 : decode cX9_worked 249 = .ok (.if_icmp .ne 19, 3) := by decide +kernel
theorem dX9_worked_252 : decode cX9_worked 252 = .ok (.aload_n 0, 1) := by decide +kernel
theorem dX9_worked_253 : decode cX9_worked 253 = .ok (.iload_n 2, 1) := by decide +kernel
theorem dX9_worked_254 : decode cX9_worked 254 = .ok (.invokevirtual 225, 3) := by decide +kernel
theorem dX9_worked_257 : decode cX9_worked 257 = .ok (.aload_n 0, 1) := by decide +kernel
theorem dX9_worked_258 : decode cX9_worked 258 = .ok (.getfield 63, 3) := by decide +kernel
theorem dX9_worked_261 : decode cX9_worked 261 = .ok (.iload_n 2, 1) := by decide +kernel
theorem dX9_worked_262 : decode cX9_worked 262 = .ok (.iaload, 1) := by decide +kernel
theorem dX9_worked_263 : decode cX9_worked 263 = .ok (.istore 5, 2) := by decide +kernel
theorem dX9_worked_265 : decode cX9_worked 265 = .ok (.iinc 2 (-1), 3) := by decide +kernel
theorem dX9_worked_268 : decode cX9_worked 268 = .ok (.iload_n 2, 1) := by decide +kernel
theorem dX9_worked_269 : decode cX9_worked 269 = .ok (.ifCond .le 31, 3) := by decide +kernel
theorem dX9_worked_272 : decode cX9_worked 272 = .ok (.aload_n 0, 1) := by decide +kernel
theorem dX9_worked_273 : decode cX9_worked 273 = .ok (.getfield 87, 3) := by decide +kernel
theorem dX9_worked_276 : decode cX9_worked 276 = .ok (.iload_n 2, 1) := by decide +kernel
theorem dX9_worked_277 : decode cX9_worked 277 = .ok (.iaload, 1) := by decide +kernel
theorem dX9_worked_278 : decode cX9_worked 278 = .ok (.iconst 1, 1) := by decide +kernel
theorem dX9_worked_279 : decode cX9_worked 279 = .ok (.if_icmp .ne 21, 3) := by decide +kernel
theorem dX9_worked_282 : decode cX9_worked 282 = .ok (.iload 5, 2) := by decide +kernel
theorem dX9_worked_284 : decode cX9_worked 284 = .ok (.ifCond .ne 7, 3) := by decide +kernel
theorem dX9_worked_287 : decode cX9_worked 287 = .ok (.iconst 1, 1) := by decide +kernel
theorem dX9_worked_288 : decode cX9_worked 288 = .ok (.goto 4, 3) := by decide +kernel
theorem dX9_worked_291 : decode cX9_worked 291 = .ok (.iconst 0, 1) := by decide +kernel
theorem dX9_worked_292 : decode cX9_worked 292 = .ok (.istore 5, 2) := by decide +kernel
theorem dX9_worked_294 : decode cX9_worked 294 = .ok (.iinc 2 (-1), 3) := by decide +kernel
theorem dX9_worked_297 : decode cX9_worked 297 = .ok (.goto (-29), 3) := by decide +kernel
theorem dX9_worked_300 : decode cX9_worked 300 = .ok (.aload_n 0, 1) := by decide +kernel
theorem dX9_worked_301 : decode cX9_worked 301 = .ok (.getfield 81, 3) := by decide +kernel
theorem dX9_worked_304 : decode cX9_worked 304 = .ok (.iload_n 2, 1) := by decide +kernel
theorem dX9_worked_305 : decode cX9_worked 305 = .ok (.aload_n 0, 1) := by decide +kernel
theorem dX9_worked_306 : decode cX9_worked 306 = .ok (.getfield 84, 3) := by decide +kernel
theorem dX9_worked_309 : decode cX9_worked 309 = .ok (.iload_n 2, 1) := by decide +kernel
theorem dX9_worked_310 : decode cX9_worked 310 = .ok (.iaload, 1) := by decide +kernel
theorem dX9_worked_311 : decode cX9_worked 311 = .ok (.ifCond .ne 8, 3) := by decide +kernel
theorem dX9_worked_314 : decode cX9_worked 314 = .ok (.iload 5, 2) := by decide +kernel
theorem dX9_worked_316 : decode cX9_worked 316 = .ok (.goto 12, 3) := by decide +kernel
theorem dX9_worked_319 : decode cX9_worked 319 = .ok (.aload_n 0, 1) := by decide +kernel
theorem dX9_worked_320 : decode cX9_worked 320 = .ok (.getfield 81, 3) := by decide +kernel
theorem dX9_worked_323 : decode cX9_worked 323 = .ok (.iload_n 2, 1) := by decide +kernel
theorem dX9_worked_324 : decode cX9_worked 324 = .ok (.iaload, 1) := by decide +kernel
theorem dX9_worked_325 : decode cX9_worked 325 = .ok (.iload 5, 2) := by decide +kernel
theorem dX9_worked_327 : decode cX9_worked 327 = .ok (.imul, 1) := by decide +kernel
theorem dX9_worked_328 : decode cX9_worked 328 = .ok (.iastore, 1) := by decide +kernel
theorem dX9_worked_329 : decode cX9_worked 329 = .ok (.iinc 3 1, 3) := by decide +kernel
theorem dX9_worked_332 : decode cX9_worked 332 = .ok (.goto (-318), 3) := by decide +kernel
theorem dX9_worked_335 : decode cX9_worked 335 = .ok (.aload_n 0, 1) := by decide +kernel
theorem dX9_worked_336 : decode cX9_worked 336 = .ok (.iconst 0, 1) := by decide +kernel
theorem dX9_worked_337 : decode cX9_worked 337 = .ok (.invokevirtual 225, 3) := by decide +kernel
theorem dX9_worked_340 : decode cX9_worked 340 = .ok (.aload_n 0, 1) := by decide +kernel
theorem dX9_worked_341 : decode cX9_worked 341 = .ok (.getfield 63, 3) := by decide +kernel
theorem dX9_worked_344 : decode cX9_worked 344 = .ok (.iconst 0, 1) := by decide +kernel
theorem dX9_worked_345 : decode cX9_worked 345 = .ok (.iaload, 1) := by decide +kernel
theorem dX9_worked_346 : decode cX9_worked 346 = .ok (.ireturn, 1) := by decide +kernel
theorem dX9_isKept_0 : decode cX9_isKept 0 = .ok (.aload_n 0, 1) := by decide +kernel
theorem dX9_isKept_1 : decode cX9_isKept 1 = .ok (.getfield 167, 3) := by decide +kernel
theorem dX9_isKept_4 : decode cX9_isKept 4 = .ok (.iconst 1, 1) := by decide +kernel
theorem dX9_isKept_5 : decode cX9_isKept 5 = .ok (.if_icmp .eq 5, 3) := by decide +kernel
theorem dX9_isKept_8 : decode cX9_isKept 8 = .ok (.iconst 1, 1) := by decide +kernel
theorem dX9_isKept_9 : decode cX9_isKept 9 = .ok (.ireturn, 1) := by decide +kernel
theorem dX9_isKept_10 : decode cX9_isKept 10 = .ok (.aload_n 0, 1) := by decide +kernel
theorem dX9_isKept_11 : decode cX9_isKept 11 = .ok (.getfield 160, 3) := by decide +kernel
theorem dX9_isKept_14 : decode cX9_isKept 14 = .ok (.ldc2_w 228, 3) := by decide +kernel
theorem dX9_isKept_17 : decode cX9_isKept 17 = .ok (.lcmp, 1) := by decide +kernel
theorem dX9_isKept_18 : decode cX9_isKept 18 = .ok (.ifCond .eq 234, 3) := by decide +kernel
theorem dX9_isKept_21 : decode cX9_isKept 21 = .ok (.aload_n 0, 1) := by decide +kernel
theorem dX9_isKept_22 : decode cX9_isKept 22 = .ok (.getfield 160, 3) := by decide +kernel
theorem dX9_isKept_25 : decode cX9_isKept 25 = .ok (.ldc2_w 230, 3) := by decide +kernel
theorem dX9_isKept_28 : decode cX9_isKept 28 = .ok (.lcmp, 1) := by decide +kernel
theorem dX9_isKept_29 : decode cX9_isKept 29 = .ok (.ifCond .eq 223, 3) := by decide +kernel
theorem dX9_isKept_32 : decode cX9_isKept 32 = .ok (.aload_n 0, 1) := by decide +kernel
theorem dX9_isKept_33 : decode cX9_isKept 33 = .ok (.getfield 160, 3) := by decide +kernel
theorem dX9_isKept_36 : decode cX9_isKept 36 = .ok (.ldc2_w 232, 3) := by decide +kernel
theorem dX9_isKept_39 : decode cX9_isKept 39 = .ok (.lcmp, 1) := by decide +kernel
theorem dX9_isKept_40 : decode cX9_isKept 40 = .ok (.ifCond .eq 212, 3) := by decide +kernel
theorem dX9_isKept_43 : decode cX9_isKept 43 = .ok (.aload_n 0, 1) := by decide +kernel
theorem dX9_isKept_44 : decode cX9_isKept 44 = .ok (.getfield 160, 3) := by decide +kernel
theorem dX9_isKept_47 : decode cX9_isKept 47 = .ok (.ldc2_w 234, 3) := by decide +kernel
theorem dX9_isKept_50 : decode cX9_isKept 50 = .ok (.lcmp, 1) := by decide +kernel
theorem dX9_isKept_51 : decode cX9_isKept 51 = .ok (.ifCond .eq 201, 3) := by decide +kernel
theorem dX9_isKept_54 : decode cX9_isKept 54 = .ok (.aload_n 0, 1) := by decide +kernel
theorem dX9_isKept_55 : decode cX9_isKept 55 = .ok (.getfield 160, 3) := by decide +kernel
theorem dX9_isKept_58 : decode cX9_isKept 58 = .ok (.ldc2_w 236, 3) := by decide +kernel
theorem dX9_isKept_61 : decode cX9_isKept 61 = .ok (.lcmp, 1) := by decide +kernel
theorem dX9_isKept_62 : decode cX9_isKept 62 = .ok (.ifCond .eq 190, 3) := by decide +kernel
theorem dX9_isKept_65 : decode cX9_isKept 65 = .ok (.aload_n 0, 1) := by decide +kernel
theorem dX9_isKept_66 : decode cX9_isKept 66 = .ok (.getfield 160, 3) := by decide +kernel
theorem dX9_isKept_69 : decode cX9_isKept 69 = .ok (.ldc2_w 238, 3) := by decide +kernel
theorem dX9_isKept_72 : decode cX9_isKept 72 = .ok (.lcmp, 1) := by decide +kernel
theorem dX9_isKept_73 : decode cX9_isKept 73 = .ok (.ifCond .eq 179, 3) := by decide +kernel
theorem dX9_isKept_76 : decode cX9_isKept 76 = .ok (.aload_n 0, 1) := by decide +kernel
theorem dX9_isKept_77 : decode cX9_isKept 77 = .ok (.getfield 160, 3) := by decide +kernel
theorem dX9_isKept_80 : decode cX9_isKept 80 = .ok (.ldc2_w 240, 3) := by decide +kernel
theorem dX9_isKept_83 : decode cX9_isKept 83 = .ok (.lcmp, 1) := by decide +kernel
theorem dX9_isKept_84 : decode cX9_isKept 84 = .ok (.ifCond .eq 168, 3) := by decide +kernel
theorem dX9_isKept_87 : decode cX9_isKept 87 = .ok (.aload_n 0, 1) := by decide +kernel
theorem dX9_isKept_88 : decode cX9_isKept 88 = .ok (.getfield 160, 3) := by decide +kernel
theorem dX9_isKept_91 : decode cX9_isKept 91 = .ok (.ldc2_w 242, 3) := by decide +kernel
theorem dX9_isKept_94 : decode cX9_isKept 94 = .ok (.lcmp, 1) := by decide +kernel
theorem dX9_isKept_95 : decode cX9_isKept 95 = .ok (.ifCond .eq 157, 3) := by decide +kernel
theorem dX9_isKept_98 : decode cX9_isKept 98 = .ok (.aload_n 0, 1) := by decide +kernel
theorem dX9_isKept_99 : decode cX9_isKept 99 = .ok (.getfield 160, 3) := by decide +kernel
theorem dX9_isKept_102 : decode cX9_isKept 102 = .ok (.ldc2_w 244, 3) := by decide +kernel
theorem dX9_isKept_105 : decode cX9_isKept 105 = .ok (.lcmp, 1) := by decide +kernel
theorem dX9_isKept_106 : decode cX9_isKept 106 = .ok (.ifCond .eq 146, 3) := by decide +kernel
theorem dX9_isKept_109 : decode cX9_isKept 109 = .ok (.aload_n 0, 1) := by decide +kernel
theorem dX9_isKept_110 : decode cX9_isKept 110 = .ok (.getfield 160, 3) := by decide +kernel
theorem dX9_isKept_113 : decode cX9_isKept 113 = .ok (.ldc2_w 246, 3) := by decide +kernel
theorem dX9_isKept_116 : decode cX9_isKept 116 = .ok (.lcmp, 1) := by decide +kernel
theorem dX9_isKept_117 : decode cX9_isKept 117 = .ok (.ifCond .eq 135, 3) := by decide +kernel
theorem dX9_isKept_120 : decode cX9_isKept 120 = .ok (.aload_n 0, 1) := by decide +kernel
theorem dX9_isKept_121 : decode cX9_isKept 121 = .ok (.getfield 160, 3) := by decide +kernel
theorem dX9_isKept_124 : decode cX9_isKept 124 = .ok (.ldc2_w 248, 3) := by decide +kernel
theorem dX9_isKept_127 : decode cX9_isKept 127 = .ok (.lcmp, 1) := by decide +kernel
theorem dX9_isKept_128 : decode cX9_isKept 128 = .ok (.ifCond .eq 124, 3) := by decide +kernel
theorem dX9_isKept_131 : decode cX9_isKept 131 = .ok (.aload_n 0, 1) := by decide +kernel
theorem dX9_isKept_132 : decode cX9_isKept 132 = .ok (.getfield 160, 3) := by decide +kernel
theorem dX9_isKept_135 : decode cX9_isKept 135 = .ok (.ldc2_w 250, 3) := by decide +kernel
theorem dX9_isKept_138 : decode cX9_isKept 138 = .ok (.lcmp, 1) := by decide +kernel
theorem dX9_isKept_139 : decode cX9_isKept 139 = .ok (.ifCond .eq 113, 3) := by decide +kernel
theorem dX9_isKept_142 : decode cX9_isKept 142 = .ok (.aload_n 0, 1) := by decide +kernel
theorem dX9_isKept_143 : decode cX9_isKept 143 = .ok (.getfield 160, 3) := by decide +kernel
theorem dX9_isKept_146 : decode cX9_isKept 146 = .ok (.ldc2_w 252, 3) := by decide +kernel
theorem dX9_isKept_149 : decode cX9_isKept 149 = .ok (.lcmp, 1) := by decide +kernel
theorem dX9_isKept_150 : decode cX9_isKept 150 = .ok (.ifCond .eq 102, 3) := by decide +kernel
theorem dX9_isKept_153 : decode cX9_isKept 153 = .ok (.aload_n 0, 1) := by decide +kernel
theorem dX9_isKept_154 : decode cX9_isKept 154 = .ok (.getfield 160, 3) := by decide +kernel
theorem dX9_isKept_157 : decode cX9_isKept 157 = .ok (.ldc2_w 254, 3) := by decide +kernel
theorem dX9_isKept_160 : decode cX9_isKept 160 = .ok (.lcmp, 1) := by decide +kernel
theorem dX9_isKept_161 : decode cX9_isKept 161 = .ok (.ifCond .eq 91, 3) := by decide +kernel
theorem dX9_isKept_164 : decode cX9_isKept 164 = .ok (.aload_n 0, 1) := by decide +kernel
theorem dX9_isKept_165 : decode cX9_isKept 165 = .ok (.getfield 160, 3) := by decide +kernel
theorem dX9_isKept_168 : decode cX9_isKept 168 = .ok (.ldc2_w 256, 3) := by decide +kernel
theorem dX9_isKept_171 : decode cX9_isKept 171 = .ok (.lcmp, 1) := by decide +kernel
theorem dX9_isKept_172 : decode cX9_isKept 172 = .ok (.ifCond .eq 80, 3) := by decide +kernel
theorem dX9_isKept_175 : decode cX9_isKept 175 = .ok (.aload_n 0, 1) := by decide +kernel
theorem dX9_isKept_176 : decode cX9_isKept 176 = .ok (.getfield 160, 3) := by decide +kernel
theorem dX9_isKept_179 : decode cX9_isKept 179 = .ok (.ldc2_w 258, 3) := by decide +kernel
theorem dX9_isKept_182 : decode cX9_isKept 182 = .ok (.lcmp, 1) := by decide +kernel
theorem dX9_isKept_183 : decode cX9_isKept 183 = .ok (.ifCond .eq 69, 3) := by decide +kernel
theorem dX9_isKept_186 : decode cX9_isKept 186 = .ok (.aload_n 0, 1) := by decide +kernel
theorem dX9_isKept_187 : decode cX9_isKept 187 = .ok (.getfield 160, 3) := by decide +kernel
theorem dX9_isKept_190 : decode cX9_isKept 190 = .ok (.ldc2_w 260, 3) := by decide +kernel
theorem dX9_isKept_193 : decode cX9_isKept 193 = .ok (.lcmp, 1) := by decide +kernel
theorem dX9_isKept_194 : decode cX9_isKept 194 = .ok (.ifCond .eq 58, 3) := by decide +kernel
theorem dX9_isKept_197 : decode cX9_isKept 197 = .ok (.aload_n 0, 1) := by decide +kernel
theorem dX9_isKept_198 : decode cX9_isKept 198 = .ok (.getfield 160, 3) := by decide +kernel
theorem dX9_isKept_201 : decode cX9_isKept 201 = .ok (.ldc2_w 262, 3) := by decide +kernel
theorem dX9_isKept_204 : decode cX9_isKept 204 = .ok (.lcmp, 1) := by decide +kernel
theorem dX9_isKept_205 : decode cX9_isKept 205 = .ok (.ifCond .eq 47, 3) := by decide +kernel
theorem dX9_isKept_208 : decode cX9_isKept 208 = .ok (.aload_n 0, 1) := by decide +kernel
theorem dX9_isKept_209 : decode cX9_isKept 209 = .ok (.getfield 160, 3) := by decide +kernel
theorem dX9_isKept_212 : decode cX9_isKept 212 = .ok (.ldc2_w 264, 3) := by decide +kernel
theorem dX9_isKept_215 : decode cX9_isKept 215 = .ok (.lcmp, 1) := by decide +kernel
theorem dX9_isKept_216 : decode cX9_isKept 216 = .ok (.ifCond .eq 36, 3) := by decide +kernel
theorem dX9_isKept_219 : decode cX9_isKept 219 = .ok (.aload_n 0, 1) := by decide +kernel
theorem dX9_isKept_220 : decode cX9_isKept 220 = .ok (.getfield 160, 3) := by decide +kernel
theorem dX9_isKept_223 : decode cX9_isKept 223 = .ok (.ldc2_w 196, 3) := by decide +kernel
theorem dX9_isKept_226 : decode cX9_isKept 226 = .ok (.lcmp, 1) := by decide +kernel
theorem dX9_isKept_227 : decode cX9_isKept 227 = .ok (.ifCond .eq 25, 3) := by decide +kernel
theorem dX9_isKept_230 : decode cX9_isKept 230 = .ok (.aload_n 0, 1) := by decide +kernel
theorem dX9_isKept_231 : decode cX9_isKept 231 = .ok (.getfield 160, 3) := by decide +kernel
theorem dX9_isKept_234 : decode cX9_isKept 234 = .ok (.ldc2_w 215, 3) := by decide +kernel
theorem dX9_isKept_237 : decode cX9_isKept 237 = .ok (.lcmp, 1) := by decide +kernel
theorem dX9_isKept_238 : decode cX9_isKept 238 = .ok (.ifCond .eq 14, 3) := by decide +kernel
theorem dX9_isKept_241 : decode cX9_isKept 241 = .ok (.aload_n 0, 1) := by decide +kernel
theorem dX9_isKept_242 : decode cX9_isKept 242 = .ok (.getfield 160, 3) := by decide +kernel
theorem dX9_isKept_245 : decode cX9_isKept 245 = .ok (.ldc2_w 217, 3) := by decide +kernel
theorem dX9_isKept_248 : decode cX9_isKept 248 = .ok (.lcmp, 1) := by decide +kernel
theorem dX9_isKept_249 : decode cX9_isKept 249 = .ok (.ifCond .ne 7, 3) := by decide +kernel
theorem dX9_isKept_252 : decode cX9_isKept 252 = .ok (.iconst 1, 1) := by decide +kernel
theorem dX9_isKept_253 : decode cX9_isKept 253 = .ok (.goto 4, 3) := by decide +kernel
theorem dX9_isKept_256 : decode cX9_isKept 256 = .ok (.iconst 0, 1) := by decide +kernel
theorem dX9_isKept_257 : decode cX9_isKept 257 = .ok (.ireturn, 1) := by decide +kernel
theorem dX9_holeNamed_0 : decode cX9_holeNamed 0 = .ok (.iconst 5, 1) := by decide +kernel
theorem dX9_holeNamed_1 : decode cX9_holeNamed 1 = .ok (.iload_n 1, 1) := by decide +kernel
theorem dX9_holeNamed_2 : decode cX9_holeNamed 2 = .ok (.imul, 1) := by decide +kernel
theorem dX9_holeNamed_3 : decode cX9_holeNamed 3 = .ok (.istore_n 2, 1) := by decide +kernel
theorem dX9_holeNamed_4 : decode cX9_holeNamed 4 = .ok (.iload_n 2, 1) := by decide +kernel
theorem dX9_holeNamed_5 : decode cX9_holeNamed 5 = .ok (.iconst 5, 1) := by decide +kernel
theorem dX9_holeNamed_6 : decode cX9_holeNamed 6 = .ok (.iload_n 1, 1) := by decide +kernel
theorem dX9_holeNamed_7 : decode cX9_holeNamed 7 = .ok (.imul, 1) := by decide +kernel
theorem dX9_holeNamed_8 : decode cX9_holeNamed 8 = .ok (.aload_n 0, 1) := by decide +kernel
theorem dX9_holeNamed_9 : decode cX9_holeNamed 9 = .ok (.getfield 13, 3) := by decide +kernel
theorem dX9_holeNamed_12 : decode cX9_holeNamed 12 = .ok (.iconst 4, 1) := by decide +kernel
theorem dX9_holeNamed_13 : decode cX9_holeNamed 13 = .ok (.iload_n 1, 1) := by decide +kernel
theorem dX9_holeNamed_14 : decode cX9_holeNamed 14 = .ok (.imul, 1) := by decide +kernel
theorem dX9_holeNamed_15 : decode cX9_holeNamed 15 = .ok (.iconst 0, 1) := by decide +kernel
theorem dX9_holeNamed_16 : decode cX9_holeNamed 16 = .ok (.iadd, 1) := by decide +kernel
theorem dX9_holeNamed_17 : decode cX9_holeNamed 17 = .ok (.iaload, 1) := by decide +kernel
theorem dX9_holeNamed_18 : decode cX9_holeNamed 18 = .ok (.iadd, 1) := by decide +kernel
theorem dX9_holeNamed_19 : decode cX9_holeNamed 19 = .ok (.if_icmp .ge 29, 3) := by decide +kernel
theorem dX9_holeNamed_22 : decode cX9_holeNamed 22 = .ok (.aload_n 0, 1) := by decide +kernel
theorem dX9_holeNamed_23 : decode cX9_holeNamed 23 = .ok (.getfield 16, 3) := by decide +kernel
theorem dX9_holeNamed_26 : decode cX9_holeNamed 26 = .ok (.iload_n 2, 1) := by decide +kernel
theorem dX9_holeNamed_27 : decode cX9_holeNamed 27 = .ok (.laload, 1) := by decide +kernel
theorem dX9_holeNamed_28 : decode cX9_holeNamed 28 = .ok (.aload_n 0, 1) := by decide +kernel
theorem dX9_holeNamed_29 : decode cX9_holeNamed 29 = .ok (.getfield 160, 3) := by decide +kernel
theorem dX9_holeNamed_32 : decode cX9_holeNamed 32 = .ok (.lcmp, 1) := by decide +kernel
theorem dX9_holeNamed_33 : decode cX9_holeNamed 33 = .ok (.ifCond .ne 9, 3) := by decide +kernel
theorem dX9_holeNamed_36 : decode cX9_holeNamed 36 = .ok (.iload_n 2, 1) := by decide +kernel
theorem dX9_holeNamed_37 : decode cX9_holeNamed 37 = .ok (.iconst 5, 1) := by decide +kernel
theorem dX9_holeNamed_38 : decode cX9_holeNamed 38 = .ok (.iload_n 1, 1) := by decide +kernel
theorem dX9_holeNamed_39 : decode cX9_holeNamed 39 = .ok (.imul, 1) := by decide +kernel
theorem dX9_holeNamed_40 : decode cX9_holeNamed 40 = .ok (.isub, 1) := by decide +kernel
theorem dX9_holeNamed_41 : decode cX9_holeNamed 41 = .ok (.ireturn, 1) := by decide +kernel
theorem dX9_holeNamed_42 : decode cX9_holeNamed 42 = .ok (.iinc 2 1, 3) := by decide +kernel
theorem dX9_holeNamed_45 : decode cX9_holeNamed 45 = .ok (.goto (-41), 3) := by decide +kernel
theorem dX9_holeNamed_48 : decode cX9_holeNamed 48 = .ok (.iconst (-1), 1) := by decide +kernel
theorem dX9_holeNamed_49 : decode cX9_holeNamed 49 = .ok (.ireturn, 1) := by decide +kernel
theorem dX9_guestNamed_0 : decode cX9_guestNamed 0 = .ok (.iconst 5, 1) := by decide +kernel
theorem dX9_guestNamed_1 : decode cX9_guestNamed 1 = .ok (.iload_n 1, 1) := by decide +kernel
theorem dX9_guestNamed_2 : decode cX9_guestNamed 2 = .ok (.imul, 1) := by decide +kernel
theorem dX9_guestNamed_3 : decode cX9_guestNamed 3 = .ok (.istore_n 2, 1) := by decide +kernel
theorem dX9_guestNamed_4 : decode cX9_guestNamed 4 = .ok (.iload_n 2, 1) := by decide +kernel
theorem dX9_guestNamed_5 : decode cX9_guestNamed 5 = .ok (.iconst 5, 1) := by decide +kernel
theorem dX9_guestNamed_6 : decode cX9_guestNamed 6 = .ok (.iload_n 1, 1) := by decide +kernel
theorem dX9_guestNamed_7 : decode cX9_guestNamed 7 = .ok (.imul, 1) := by decide +kernel
theorem dX9_guestNamed_8 : decode cX9_guestNamed 8 = .ok (.aload_n 0, 1) := by decide +kernel
theorem dX9_guestNamed_9 : decode cX9_guestNamed 9 = .ok (.getfield 13, 3) := by decide +kernel
theorem dX9_guestNamed_12 : decode cX9_guestNamed 12 = .ok (.iconst 4, 1) := by decide +kernel
theorem dX9_guestNamed_13 : decode cX9_guestNamed 13 = .ok (.iload_n 1, 1) := by decide +kernel
theorem dX9_guestNamed_14 : decode cX9_guestNamed 14 = .ok (.imul, 1) := by decide +kernel
theorem dX9_guestNamed_15 : decode cX9_guestNamed 15 = .ok (.iconst 1, 1) := by decide +kernel
theorem dX9_guestNamed_16 : decode cX9_guestNamed 16 = .ok (.iadd, 1) := by decide +kernel
theorem dX9_guestNamed_17 : decode cX9_guestNamed 17 = .ok (.iaload, 1) := by decide +kernel
theorem dX9_guestNamed_18 : decode cX9_guestNamed 18 = .ok (.iadd, 1) := by decide +kernel
theorem dX9_guestNamed_19 : decode cX9_guestNamed 19 = .ok (.if_icmp .ge 29, 3) := by decide +kernel
theorem dX9_guestNamed_22 : decode cX9_guestNamed 22 = .ok (.aload_n 0, 1) := by decide +kernel
theorem dX9_guestNamed_23 : decode cX9_guestNamed 23 = .ok (.getfield 20, 3) := by decide +kernel
theorem dX9_guestNamed_26 : decode cX9_guestNamed 26 = .ok (.iload_n 2, 1) := by decide +kernel
theorem dX9_guestNamed_27 : decode cX9_guestNamed 27 = .ok (.laload, 1) := by decide +kernel
theorem dX9_guestNamed_28 : decode cX9_guestNamed 28 = .ok (.aload_n 0, 1) := by decide +kernel
theorem dX9_guestNamed_29 : decode cX9_guestNamed 29 = .ok (.getfield 160, 3) := by decide +kernel
theorem dX9_guestNamed_32 : decode cX9_guestNamed 32 = .ok (.lcmp, 1) := by decide +kernel
theorem dX9_guestNamed_33 : decode cX9_guestNamed 33 = .ok (.ifCond .ne 9, 3) := by decide +kernel
theorem dX9_guestNamed_36 : decode cX9_guestNamed 36 = .ok (.iload_n 2, 1) := by decide +kernel
theorem dX9_guestNamed_37 : decode cX9_guestNamed 37 = .ok (.iconst 5, 1) := by decide +kernel
theorem dX9_guestNamed_38 : decode cX9_guestNamed 38 = .ok (.iload_n 1, 1) := by decide +kernel
theorem dX9_guestNamed_39 : decode cX9_guestNamed 39 = .ok (.imul, 1) := by decide +kernel
theorem dX9_guestNamed_40 : decode cX9_guestNamed 40 = .ok (.isub, 1) := by decide +kernel
theorem dX9_guestNamed_41 : decode cX9_guestNamed 41 = .ok (.ireturn, 1) := by decide +kernel
theorem dX9_guestNamed_42 : decode cX9_guestNamed 42 = .ok (.iinc 2 1, 3) := by decide +kernel
theorem dX9_guestNamed_45 : decode cX9_guestNamed 45 = .ok (.goto (-41), 3) := by decide +kernel
theorem dX9_guestNamed_48 : decode cX9_guestNamed 48 = .ok (.iconst (-1), 1) := by decide +kernel
theorem dX9_guestNamed_49 : decode cX9_guestNamed 49 = .ok (.ireturn, 1) := by decide +kernel
theorem dX9_needsNumber_0 : decode cX9_needsNumber 0 = .ok (.aload_n 0, 1) := by decide +kernel
theorem dX9_needsNumber_1 : decode cX9_needsNumber 1 = .ok (.getfield 167, 3) := by decide +kernel
theorem dX9_needsNumber_4 : decode cX9_needsNumber 4 = .ok (.iconst 2, 1) := by decide +kernel
theorem dX9_needsNumber_5 : decode cX9_needsNumber 5 = .ok (.if_icmp .eq 9, 3) := by decide +kernel
theorem dX9_needsNumber_8 : decode cX9_needsNumber 8 = .ok (.aload_n 0, 1) := by decide +kernel
theorem dX9_needsNumber_9 : decode cX9_needsNumber 9 = .ok (.iconst 1, 1) := by decide +kernel
theorem dX9_needsNumber_10 : decode cX9_needsNumber 10 = .ok (.invokevirtual 206, 3) := by decide +kernel
theorem dX9_needsNumber_13 : decode cX9_needsNumber 13 = .ok (.ireturn, 1) := by decide +kernel
theorem dX9_needsNumber_14 : decode cX9_needsNumber 14 = .ok (.aload_n 0, 1) := by decide +kernel
theorem dX9_needsNumber_15 : decode cX9_needsNumber 15 = .ok (.getfield 164, 3) := by decide +kernel
theorem dX9_needsNumber_18 : decode cX9_needsNumber 18 = .ok (.iload_n 1, 1) := by decide +kernel
theorem dX9_needsNumber_19 : decode cX9_needsNumber 19 = .ok (.iload_n 2, 1) := by decide +kernel
theorem dX9_needsNumber_20 : decode cX9_needsNumber 20 = .ok (.invokestatic 266, 3) := by decide +kernel
theorem dX9_needsNumber_23 : decode cX9_needsNumber 23 = .ok (.ifCond .ne 9, 3) := by decide +kernel
theorem dX9_needsNumber_26 : decode cX9_needsNumber 26 = .ok (.aload_n 0, 1) := by decide +kernel
theorem dX9_needsNumber_27 : decode cX9_needsNumber 27 = .ok (.iconst 4, 1) := by decide +kernel
theorem dX9_needsNumber_28 : decode cX9_needsNumber 28 = .ok (.invokevirtual 206, 3) := by decide +kernel
theorem dX9_needsNumber_31 : decode cX9_needsNumber 31 = .ok (.ireturn, 1) := by decide +kernel
theorem dX9_needsNumber_32 : decode cX9_needsNumber 32 = .ok (.aload_n 0, 1) := by decide +kernel
theorem dX9_needsNumber_33 : decode cX9_needsNumber 33 = .ok (.aload_n 0, 1) := by decide +kernel
theorem dX9_needsNumber_34 : decode cX9_needsNumber 34 = .ok (.getfield 164, 3) := by decide +kernel
theorem dX9_needsNumber_37 : decode cX9_needsNumber 37 = .ok (.putfield 270, 3) := by decide +kernel
theorem dX9_needsNumber_40 : decode cX9_needsNumber 40 = .ok (.aload_n 0, 1) := by decide +kernel
theorem dX9_needsNumber_41 : decode cX9_needsNumber 41 = .ok (.invokevirtual 212, 3) := by decide +kernel
theorem dX9_needsNumber_44 : decode cX9_needsNumber 44 = .ok (.iconst 1, 1) := by decide +kernel
theorem dX9_needsNumber_45 : decode cX9_needsNumber 45 = .ok (.ireturn, 1) := by decide +kernel
theorem dX9_needsBoth_0 : decode cX9_needsBoth 0 = .ok (.aload_n 0, 1) := by decide +kernel
theorem dX9_needsBoth_1 : decode cX9_needsBoth 1 = .ok (.lload_n 1, 1) := by decide +kernel
theorem dX9_needsBoth_2 : decode cX9_needsBoth 2 = .ok (.invokevirtual 198, 3) := by decide +kernel
theorem dX9_needsBoth_5 : decode cX9_needsBoth 5 = .ok (.ifCond .ne 9, 3) := by decide +kernel
theorem dX9_needsBoth_8 : decode cX9_needsBoth 8 = .ok (.aload_n 0, 1) := by decide +kernel
theorem dX9_needsBoth_9 : decode cX9_needsBoth 9 = .ok (.iconst 1, 1) := by decide +kernel
theorem dX9_needsBoth_10 : decode cX9_needsBoth 10 = .ok (.invokevirtual 206, 3) := by decide +kernel
theorem dX9_needsBoth_13 : decode cX9_needsBoth 13 = .ok (.ireturn, 1) := by decide +kernel
theorem dX9_needsBoth_14 : decode cX9_needsBoth 14 = .ok (.aload_n 0, 1) := by decide +kernel
theorem dX9_needsBoth_15 : decode cX9_needsBoth 15 = .ok (.invokevirtual 212, 3) := by decide +kernel
theorem dX9_needsBoth_18 : decode cX9_needsBoth 18 = .ok (.aload_n 0, 1) := by decide +kernel
theorem dX9_needsBoth_19 : decode cX9_needsBoth 19 = .ok (.iload_n 3, 1) := by decide +kernel
theorem dX9_needsBoth_20 : decode cX9_needsBoth 20 = .ok (.iload 4, 2) := by decide +kernel
theorem dX9_needsBoth_22 : decode cX9_needsBoth 22 = .ok (.invokevirtual 273, 3) := by decide +kernel
theorem dX9_needsBoth_25 : decode cX9_needsBoth 25 = .ok (.ireturn, 1) := by decide +kernel
theorem dX9_closes_0 : decode cX9_closes 0 = .ok (.aload_n 0, 1) := by decide +kernel
theorem dX9_closes_1 : decode cX9_closes 1 = .ok (.bipush 59, 2) := by decide +kernel
theorem dX9_closes_3 : decode cX9_closes 3 = .ok (.invokevirtual 202, 3) := by decide +kernel
theorem dX9_closes_6 : decode cX9_closes 6 = .ok (.ifCond .ne 9, 3) := by decide +kernel
theorem dX9_closes_9 : decode cX9_closes 9 = .ok (.aload_n 0, 1) := by decide +kernel
theorem dX9_closes_10 : decode cX9_closes 10 = .ok (.iconst 1, 1) := by decide +kernel
theorem dX9_closes_11 : decode cX9_closes 11 = .ok (.invokevirtual 206, 3) := by decide +kernel
theorem dX9_closes_14 : decode cX9_closes 14 = .ok (.ireturn, 1) := by decide +kernel
theorem dX9_closes_15 : decode cX9_closes 15 = .ok (.aload_n 0, 1) := by decide +kernel
theorem dX9_closes_16 : decode cX9_closes 16 = .ok (.invokevirtual 212, 3) := by decide +kernel
theorem dX9_closes_19 : decode cX9_closes 19 = .ok (.iconst 1, 1) := by decide +kernel
theorem dX9_closes_20 : decode cX9_closes 20 = .ok (.ireturn, 1) := by decide +kernel
theorem dX9_needsNew_0 : decode cX9_needsNew 0 = .ok (.aload_n 0, 1) := by decide +kernel
theorem dX9_needsNew_1 : decode cX9_needsNew 1 = .ok (.invokevirtual 277, 3) := by decide +kernel
theorem dX9_needsNew_4 : decode cX9_needsNew 4 = .ok (.ifCond .eq 9, 3) := by decide +kernel
theorem dX9_needsNew_7 : decode cX9_needsNew 7 = .ok (.aload_n 0, 1) := by decide +kernel
theorem dX9_needsNew_8 : decode cX9_needsNew 8 = .ok (.iconst 1, 1) := by decide +kernel
theorem dX9_needsNew_9 : decode cX9_needsNew 9 = .ok (.invokevirtual 206, 3) := by decide +kernel
theorem dX9_needsNew_12 : decode cX9_needsNew 12 = .ok (.ireturn, 1) := by decide +kernel
theorem dX9_needsNew_13 : decode cX9_needsNew 13 = .ok (.aload_n 0, 1) := by decide +kernel
theorem dX9_needsNew_14 : decode cX9_needsNew 14 = .ok (.iconst 1, 1) := by decide +kernel
theorem dX9_needsNew_15 : decode cX9_needsNew 15 = .ok (.invokevirtual 281, 3) := by decide +kernel
theorem dX9_needsNew_18 : decode cX9_needsNew 18 = .ok (.ifCond .ge 11, 3) := by decide +kernel
theorem dX9_needsNew_21 : decode cX9_needsNew 21 = .ok (.aload_n 0, 1) := by decide +kernel
theorem dX9_needsNew_22 : decode cX9_needsNew 22 = .ok (.iconst 1, 1) := by decide +kernel
theorem dX9_needsNew_23 : decode cX9_needsNew 23 = .ok (.invokevirtual 284, 3) := by decide +kernel
theorem dX9_needsNew_26 : decode cX9_needsNew 26 = .ok (.ifCond .lt 9, 3) := by decide +kernel
theorem dX9_needsNew_29 : decode cX9_needsNew 29 = .ok (.aload_n 0, 1) := by decide +kernel
theorem dX9_needsNew_30 : decode cX9_needsNew 30 = .ok (.iconst 3, 1) := by decide +kernel
theorem dX9_needsNew_31 : decode cX9_needsNew 31 = .ok (.invokevirtual 206, 3) := by decide +kernel
theorem dX9_needsNew_34 : decode cX9_needsNew 34 = .ok (.ireturn, 1) := by decide +kernel
theorem dX9_needsNew_35 : decode cX9_needsNew 35 = .ok (.aload_n 0, 1) := by decide +kernel
theorem dX9_needsNew_36 : decode cX9_needsNew 36 = .ok (.aload_n 0, 1) := by decide +kernel
theorem dX9_needsNew_37 : decode cX9_needsNew 37 = .ok (.getfield 160, 3) := by decide +kernel
theorem dX9_needsNew_40 : decode cX9_needsNew 40 = .ok (.putfield 287, 3) := by decide +kernel
theorem dX9_needsNew_43 : decode cX9_needsNew 43 = .ok (.aload_n 0, 1) := by decide +kernel
theorem dX9_needsNew_44 : decode cX9_needsNew 44 = .ok (.invokevirtual 212, 3) := by decide +kernel
theorem dX9_needsNew_47 : decode cX9_needsNew 47 = .ok (.iconst 1, 1) := by decide +kernel
theorem dX9_needsNew_48 : decode cX9_needsNew 48 = .ok (.ireturn, 1) := by decide +kernel
theorem dX9_needsHole_0 : decode cX9_needsHole 0 = .ok (.aload_n 0, 1) := by decide +kernel
theorem dX9_needsHole_1 : decode cX9_needsHole 1 = .ok (.invokevirtual 277, 3) := by decide +kernel
theorem dX9_needsHole_4 : decode cX9_needsHole 4 = .ok (.ifCond .eq 9, 3) := by decide +kernel
theorem dX9_needsHole_7 : decode cX9_needsHole 7 = .ok (.aload_n 0, 1) := by decide +kernel
theorem dX9_needsHole_8 : decode cX9_needsHole 8 = .ok (.iconst 1, 1) := by decide +kernel
theorem dX9_needsHole_9 : decode cX9_needsHole 9 = .ok (.invokevirtual 206, 3) := by decide +kernel
theorem dX9_needsHole_12 : decode cX9_needsHole 12 = .ok (.ireturn, 1) := by decide +kernel
theorem dX9_needsHole_13 : decode cX9_needsHole 13 = .ok (.aload_n 0, 1) := by decide +kernel
theorem dX9_needsHole_14 : decode cX9_needsHole 14 = .ok (.aload_n 0, 1) := by decide +kernel
theorem dX9_needsHole_15 : decode cX9_needsHole 15 = .ok (.iload_n 1, 1) := by decide +kernel
theorem dX9_needsHole_16 : decode cX9_needsHole 16 = .ok (.invokevirtual 281, 3) := by decide +kernel
theorem dX9_needsHole_19 : decode cX9_needsHole 19 = .ok (.putfield 270, 3) := by decide +kernel
theorem dX9_needsHole_22 : decode cX9_needsHole 22 = .ok (.aload_n 0, 1) := by decide +kernel
theorem dX9_needsHole_23 : decode cX9_needsHole 23 = .ok (.getfield 270, 3) := by decide +kernel
theorem dX9_needsHole_26 : decode cX9_needsHole 26 = .ok (.ifCond .ge 11, 3) := by decide +kernel
theorem dX9_needsHole_29 : decode cX9_needsHole 29 = .ok (.aload_n 0, 1) := by decide +kernel
theorem dX9_needsHole_30 : decode cX9_needsHole 30 = .ok (.iconst 2, 1) := by decide +kernel
theorem dX9_needsHole_31 : decode cX9_needsHole 31 = .ok (.invokevirtual 206, 3) := by decide +kernel
theorem dX9_needsHole_34 : decode cX9_needsHole 34 = .ok (.ifCond .eq 7, 3) := by decide +kernel
theorem dX9_needsHole_37 : decode cX9_needsHole 37 = .ok (.iconst 1, 1) := by decide +kernel
theorem dX9_needsHole_38 : decode cX9_needsHole 38 = .ok (.goto 4, 3) := by decide +kernel
theorem dX9_needsHole_41 : decode cX9_needsHole 41 = .ok (.iconst 0, 1) := by decide +kernel
theorem dX9_needsHole_42 : decode cX9_needsHole 42 = .ok (.ireturn, 1) := by decide +kernel
theorem dX9_needsGuest_0 : decode cX9_needsGuest 0 = .ok (.aload_n 0, 1) := by decide +kernel
theorem dX9_needsGuest_1 : decode cX9_needsGuest 1 = .ok (.invokevirtual 277, 3) := by decide +kernel
theorem dX9_needsGuest_4 : decode cX9_needsGuest 4 = .ok (.ifCond .eq 9, 3) := by decide +kernel
theorem dX9_needsGuest_7 : decode cX9_needsGuest 7 = .ok (.aload_n 0, 1) := by decide +kernel
theorem dX9_needsGuest_8 : decode cX9_needsGuest 8 = .ok (.iconst 1, 1) := by decide +kernel
theorem dX9_needsGuest_9 : decode cX9_needsGuest 9 = .ok (.invokevirtual 206, 3) := by decide +kernel
theorem dX9_needsGuest_12 : decode cX9_needsGuest 12 = .ok (.ireturn, 1) := by decide +kernel
theorem dX9_needsGuest_13 : decode cX9_needsGuest 13 = .ok (.aload_n 0, 1) := by decide +kernel
theorem dX9_needsGuest_14 : decode cX9_needsGuest 14 = .ok (.aload_n 0, 1) := by decide +kernel
theorem dX9_needsGuest_15 : decode cX9_needsGuest 15 = .ok (.iconst 0, 1) := by decide +kernel
theorem dX9_needsGuest_16 : decode cX9_needsGuest 16 = .ok (.invokevirtual 284, 3) := by decide +kernel
theorem dX9_needsGuest_19 : decode cX9_needsGuest 19 = .ok (.putfield 270, 3) := by decide +kernel
theorem dX9_needsGuest_22 : decode cX9_needsGuest 22 = .ok (.aload_n 0, 1) := by decide +kernel
theorem dX9_needsGuest_23 : decode cX9_needsGuest 23 = .ok (.getfield 270, 3) := by decide +kernel
theorem dX9_needsGuest_26 : decode cX9_needsGuest 26 = .ok (.ifCond .ge 11, 3) := by decide +kernel
theorem dX9_needsGuest_29 : decode cX9_needsGuest 29 = .ok (.aload_n 0, 1) := by decide +kernel
theorem dX9_needsGuest_30 : decode cX9_needsGuest 30 = .ok (.iconst 2, 1) := by decide +kernel
theorem dX9_needsGuest_31 : decode cX9_needsGuest 31 = .ok (.invokevirtual 206, 3) := by decide +kernel
theorem dX9_needsGuest_34 : decode cX9_needsGuest 34 = .ok (.ifCond .eq 7, 3) := by decide +kernel
theorem dX9_needsGuest_37 : decode cX9_needsGuest 37 = .ok (.iconst 1, 1) := by decide +kernel
theorem dX9_needsGuest_38 : decode cX9_needsGuest 38 = .ok (.goto 4, 3) := by decide +kernel
theorem dX9_needsGuest_41 : decode cX9_needsGuest 41 = .ok (.iconst 0, 1) := by decide +kernel
theorem dX9_needsGuest_42 : decode cX9_needsGuest 42 = .ok (.ireturn, 1) := by decide +kernel
theorem dX9_readsHole_0 : decode cX9_readsHole 0 = .ok (.iconst 5, 1) := by decide +kernel
theorem dX9_readsHole_1 : decode cX9_readsHole 1 = .ok (.aload_n 0, 1) := by decide +kernel
theorem dX9_readsHole_2 : decode cX9_readsHole 2 = .ok (.getfield 13, 3) := by decide +kernel
theorem dX9_readsHole_5 : decode cX9_readsHole 5 = .ok (.iconst 4, 1) := by decide +kernel
theorem dX9_readsHole_6 : decode cX9_readsHole 6 = .ok (.iaload, 1) := by decide +kernel
theorem dX9_readsHole_7 : decode cX9_readsHole 7 = .ok (.iadd, 1) := by decide +kernel
theorem dX9_readsHole_8 : decode cX9_readsHole 8 = .ok (.istore_n 1, 1) := by decide +kernel
theorem dX9_readsHole_9 : decode cX9_readsHole 9 = .ok (.iload_n 1, 1) := by decide +kernel
theorem dX9_readsHole_10 : decode cX9_readsHole 10 = .ok (.bipush 10, 2) := by decide +kernel
theorem dX9_readsHole_12 : decode cX9_readsHole 12 = .ok (.if_icmp .ne 9, 3) := by decide +kernel
theorem dX9_readsHole_15 : decode cX9_readsHole 15 = .ok (.aload_n 0, 1) := by decide +kernel
theorem dX9_readsHole_16 : decode cX9_readsHole 16 = .ok (.iconst 5, 1) := by decide +kernel
theorem dX9_readsHole_17 : decode cX9_readsHole 17 = .ok (.invokevirtual 206, 3) := by decide +kernel
theorem dX9_readsHole_20 : decode cX9_readsHole 20 = .ok (.ireturn, 1) := by decide +kernel
theorem dX9_readsHole_21 : decode cX9_readsHole 21 = .ok (.aload_n 0, 1) := by decide +kernel
theorem dX9_readsHole_22 : decode cX9_readsHole 22 = .ok (.invokevirtual 212, 3) := by decide +kernel
theorem dX9_readsHole_25 : decode cX9_readsHole 25 = .ok (.aload_n 0, 1) := by decide +kernel
theorem dX9_readsHole_26 : decode cX9_readsHole 26 = .ok (.invokevirtual 290, 3) := by decide +kernel
theorem dX9_readsHole_29 : decode cX9_readsHole 29 = .ok (.ifCond .eq 16, 3) := by decide +kernel
theorem dX9_readsHole_32 : decode cX9_readsHole 32 = .ok (.aload_n 0, 1) := by decide +kernel
theorem dX9_readsHole_33 : decode cX9_readsHole 33 = .ok (.ldc2_w 230, 3) := by decide +kernel
theorem dX9_readsHole_36 : decode cX9_readsHole 36 = .ok (.iconst 0, 1) := by decide +kernel
theorem dX9_readsHole_37 : decode cX9_readsHole 37 = .ok (.bipush 9, 2) := by decide +kernel
theorem dX9_readsHole_39 : decode cX9_readsHole 39 = .ok (.invokevirtual 293, 3) := by decide +kernel
theorem dX9_readsHole_42 : decode cX9_readsHole 42 = .ok (.ifCond .ne 5, 3) := by decide +kernel
theorem dX9_readsHole_45 : decode cX9_readsHole 45 = .ok (.iconst 0, 1) := by decide +kernel
theorem dX9_readsHole_46 : decode cX9_readsHole 46 = .ok (.ireturn, 1) := by decide +kernel
theorem dX9_readsHole_47 : decode cX9_readsHole 47 = .ok (.aload_n 0, 1) := by decide +kernel
theorem dX9_readsHole_48 : decode cX9_readsHole 48 = .ok (.getfield 23, 3) := by decide +kernel
theorem dX9_readsHole_51 : decode cX9_readsHole 51 = .ok (.iload_n 1, 1) := by decide +kernel
theorem dX9_readsHole_52 : decode cX9_readsHole 52 = .ok (.aload_n 0, 1) := by decide +kernel
theorem dX9_readsHole_53 : decode cX9_readsHole 53 = .ok (.getfield 270, 3) := by decide +kernel
theorem dX9_readsHole_56 : decode cX9_readsHole 56 = .ok (.iastore, 1) := by decide +kernel
theorem dX9_readsHole_57 : decode cX9_readsHole 57 = .ok (.aload_n 0, 1) := by decide +kernel
theorem dX9_readsHole_58 : decode cX9_readsHole 58 = .ok (.ldc2_w 232, 3) := by decide +kernel
theorem dX9_readsHole_61 : decode cX9_readsHole 61 = .ok (.iconst 0, 1) := by decide +kernel
theorem dX9_readsHole_62 : decode cX9_readsHole 62 = .ok (.bipush 60, 2) := by decide +kernel
theorem dX9_readsHole_64 : decode cX9_readsHole 64 = .ok (.invokevirtual 293, 3) := by decide +kernel
theorem dX9_readsHole_67 : decode cX9_readsHole 67 = .ok (.ifCond .ne 5, 3) := by decide +kernel
theorem dX9_readsHole_70 : decode cX9_readsHole 70 = .ok (.iconst 0, 1) := by decide +kernel
theorem dX9_readsHole_71 : decode cX9_readsHole 71 = .ok (.ireturn, 1) := by decide +kernel
theorem dX9_readsHole_72 : decode cX9_readsHole 72 = .ok (.aload_n 0, 1) := by decide +kernel
theorem dX9_readsHole_73 : decode cX9_readsHole 73 = .ok (.getfield 26, 3) := by decide +kernel
theorem dX9_readsHole_76 : decode cX9_readsHole 76 = .ok (.iload_n 1, 1) := by decide +kernel
theorem dX9_readsHole_77 : decode cX9_readsHole 77 = .ok (.aload_n 0, 1) := by decide +kernel
theorem dX9_readsHole_78 : decode cX9_readsHole 78 = .ok (.getfield 270, 3) := by decide +kernel
theorem dX9_readsHole_81 : decode cX9_readsHole 81 = .ok (.iastore, 1) := by decide +kernel
theorem dX9_readsHole_82 : decode cX9_readsHole 82 = .ok (.aload_n 0, 1) := by decide +kernel
theorem dX9_readsHole_83 : decode cX9_readsHole 83 = .ok (.ldc2_w 234, 3) := by decide +kernel
theorem dX9_readsHole_86 : decode cX9_readsHole 86 = .ok (.iconst 0, 1) := by decide +kernel
theorem dX9_readsHole_87 : decode cX9_readsHole 87 = .ok (.bipush 9, 2) := by decide +kernel
theorem dX9_readsHole_89 : decode cX9_readsHole 89 = .ok (.invokevirtual 293, 3) := by decide +kernel
theorem dX9_readsHole_92 : decode cX9_readsHole 92 = .ok (.ifCond .ne 5, 3) := by decide +kernel
theorem dX9_readsHole_95 : decode cX9_readsHole 95 = .ok (.iconst 0, 1) := by decide +kernel
theorem dX9_readsHole_96 : decode cX9_readsHole 96 = .ok (.ireturn, 1) := by decide +kernel
theorem dX9_readsHole_97 : decode cX9_readsHole 97 = .ok (.aload_n 0, 1) := by decide +kernel
theorem dX9_readsHole_98 : decode cX9_readsHole 98 = .ok (.getfield 29, 3) := by decide +kernel
theorem dX9_readsHole_101 : decode cX9_readsHole 101 = .ok (.iload_n 1, 1) := by decide +kernel
theorem dX9_readsHole_102 : decode cX9_readsHole 102 = .ok (.aload_n 0, 1) := by decide +kernel
theorem dX9_readsHole_103 : decode cX9_readsHole 103 = .ok (.getfield 270, 3) := by decide +kernel
theorem dX9_readsHole_106 : decode cX9_readsHole 106 = .ok (.iastore, 1) := by decide +kernel
theorem dX9_readsHole_107 : decode cX9_readsHole 107 = .ok (.aload_n 0, 1) := by decide +kernel
theorem dX9_readsHole_108 : decode cX9_readsHole 108 = .ok (.getfield 32, 3) := by decide +kernel
theorem dX9_readsHole_111 : decode cX9_readsHole 111 = .ok (.iload_n 1, 1) := by decide +kernel
theorem dX9_readsHole_112 : decode cX9_readsHole 112 = .ok (.iconst 0, 1) := by decide +kernel
theorem dX9_readsHole_113 : decode cX9_readsHole 113 = .ok (.iastore, 1) := by decide +kernel
theorem dX9_readsHole_114 : decode cX9_readsHole 114 = .ok (.aload_n 0, 1) := by decide +kernel
theorem dX9_readsHole_115 : decode cX9_readsHole 115 = .ok (.getfield 16, 3) := by decide +kernel
theorem dX9_readsHole_118 : decode cX9_readsHole 118 = .ok (.iload_n 1, 1) := by decide +kernel
theorem dX9_readsHole_119 : decode cX9_readsHole 119 = .ok (.aload_n 0, 1) := by decide +kernel
theorem dX9_readsHole_120 : decode cX9_readsHole 120 = .ok (.getfield 287, 3) := by decide +kernel
theorem dX9_readsHole_123 : decode cX9_readsHole 123 = .ok (.lastore, 1) := by decide +kernel
theorem dX9_readsHole_124 : decode cX9_readsHole 124 = .ok (.aload_n 0, 1) := by decide +kernel
theorem dX9_readsHole_125 : decode cX9_readsHole 125 = .ok (.getfield 13, 3) := by decide +kernel
theorem dX9_readsHole_128 : decode cX9_readsHole 128 = .ok (.iconst 4, 1) := by decide +kernel
theorem dX9_readsHole_129 : decode cX9_readsHole 129 = .ok (.dup2, 1) := by decide +kernel
theorem dX9_readsHole_130 : decode cX9_readsHole 130 = .ok (.iaload, 1) := by decide +kernel
theorem dX9_readsHole_131 : decode cX9_readsHole 131 = .ok (.iconst 1, 1) := by decide +kernel
theorem dX9_readsHole_132 : decode cX9_readsHole 132 = .ok (.iadd, 1) := by decide +kernel
theorem dX9_readsHole_133 : decode cX9_readsHole 133 = .ok (.iastore, 1) := by decide +kernel
theorem dX9_readsHole_134 : decode cX9_readsHole 134 = .ok (.aload_n 0, 1) := by decide +kernel
theorem dX9_readsHole_135 : decode cX9_readsHole 135 = .ok (.invokevirtual 297, 3) := by decide +kernel
theorem dX9_readsHole_138 : decode cX9_readsHole 138 = .ok (.ireturn, 1) := by decide +kernel
theorem dX9_readsWall_0 : decode cX9_readsWall 0 = .ok (.aload_n 0, 1) := by decide +kernel
theorem dX9_readsWall_1 : decode cX9_readsWall 1 = .ok (.invokevirtual 212, 3) := by decide +kernel
theorem dX9_readsWall_4 : decode cX9_readsWall 4 = .ok (.aload_n 0, 1) := by decide +kernel
theorem dX9_readsWall_5 : decode cX9_readsWall 5 = .ok (.iconst 1, 1) := by decide +kernel
theorem dX9_readsWall_6 : decode cX9_readsWall 6 = .ok (.invokevirtual 300, 3) := by decide +kernel
theorem dX9_readsWall_9 : decode cX9_readsWall 9 = .ok (.ifCond .ne 5, 3) := by decide +kernel
theorem dX9_readsWall_12 : decode cX9_readsWall 12 = .ok (.iconst 0, 1) := by decide +kernel
theorem dX9_readsWall_13 : decode cX9_readsWall 13 = .ok (.ireturn, 1) := by decide +kernel
theorem dX9_readsWall_14 : decode cX9_readsWall 14 = .ok (.aload_n 0, 1) := by decide +kernel
theorem dX9_readsWall_15 : decode cX9_readsWall 15 = .ok (.getfield 270, 3) := by decide +kernel
theorem dX9_readsWall_18 : decode cX9_readsWall 18 = .ok (.istore_n 1, 1) := by decide +kernel
theorem dX9_readsWall_19 : decode cX9_readsWall 19 = .ok (.aload_n 0, 1) := by decide +kernel
theorem dX9_readsWall_20 : decode cX9_readsWall 20 = .ok (.invokevirtual 212, 3) := by decide +kernel
theorem dX9_readsWall_23 : decode cX9_readsWall 23 = .ok (.aload_n 0, 1) := by decide +kernel
theorem dX9_readsWall_24 : decode cX9_readsWall 24 = .ok (.iconst 1, 1) := by decide +kernel
theorem dX9_readsWall_25 : decode cX9_readsWall 25 = .ok (.invokevirtual 300, 3) := by decide +kernel
theorem dX9_readsWall_28 : decode cX9_readsWall 28 = .ok (.ifCond .ne 5, 3) := by decide +kernel
theorem dX9_readsWall_31 : decode cX9_readsWall 31 = .ok (.iconst 0, 1) := by decide +kernel
theorem dX9_readsWall_32 : decode cX9_readsWall 32 = .ok (.ireturn, 1) := by decide +kernel
theorem dX9_readsWall_33 : decode cX9_readsWall 33 = .ok (.aload_n 0, 1) := by decide +kernel
theorem dX9_readsWall_34 : decode cX9_readsWall 34 = .ok (.getfield 270, 3) := by decide +kernel
theorem dX9_readsWall_37 : decode cX9_readsWall 37 = .ok (.iload_n 1, 1) := by decide +kernel
theorem dX9_readsWall_38 : decode cX9_readsWall 38 = .ok (.if_icmp .eq 22, 3) := by decide +kernel
theorem dX9_readsWall_41 : decode cX9_readsWall 41 = .ok (.aload_n 0, 1) := by decide +kernel
theorem dX9_readsWall_42 : decode cX9_readsWall 42 = .ok (.getfield 32, 3) := by decide +kernel
theorem dX9_readsWall_45 : decode cX9_readsWall 45 = .ok (.iconst 5, 1) := by decide +kernel
theorem dX9_readsWall_46 : decode cX9_readsWall 46 = .ok (.iload_n 1, 1) := by decide +kernel
theorem dX9_readsWall_47 : decode cX9_readsWall 47 = .ok (.iadd, 1) := by decide +kernel
theorem dX9_readsWall_48 : decode cX9_readsWall 48 = .ok (.iaload, 1) := by decide +kernel
theorem dX9_readsWall_49 : decode cX9_readsWall 49 = .ok (.aload_n 0, 1) := by decide +kernel
theorem dX9_readsWall_50 : decode cX9_readsWall 50 = .ok (.getfield 270, 3) := by decide +kernel
theorem dX9_readsWall_53 : decode cX9_readsWall 53 = .ok (.ishr, 1) := by decide +kernel
theorem dX9_readsWall_54 : decode cX9_readsWall 54 = .ok (.iconst 1, 1) := by decide +kernel
theorem dX9_readsWall_55 : decode cX9_readsWall 55 = .ok (.iand, 1) := by decide +kernel
theorem dX9_readsWall_56 : decode cX9_readsWall 56 = .ok (.iconst 1, 1) := by decide +kernel
theorem dX9_readsWall_57 : decode cX9_readsWall 57 = .ok (.if_icmp .ne 9, 3) := by decide +kernel
theorem dX9_readsWall_60 : decode cX9_readsWall 60 = .ok (.aload_n 0, 1) := by decide +kernel
theorem dX9_readsWall_61 : decode cX9_readsWall 61 = .ok (.iconst 3, 1) := by decide +kernel
theorem dX9_readsWall_62 : decode cX9_readsWall 62 = .ok (.invokevirtual 206, 3) := by decide +kernel
theorem dX9_readsWall_65 : decode cX9_readsWall 65 = .ok (.ireturn, 1) := by decide +kernel
theorem dX9_readsWall_66 : decode cX9_readsWall 66 = .ok (.aload_n 0, 1) := by decide +kernel
theorem dX9_readsWall_67 : decode cX9_readsWall 67 = .ok (.getfield 32, 3) := by decide +kernel
theorem dX9_readsWall_70 : decode cX9_readsWall 70 = .ok (.iconst 5, 1) := by decide +kernel
theorem dX9_readsWall_71 : decode cX9_readsWall 71 = .ok (.iload_n 1, 1) := by decide +kernel
theorem dX9_readsWall_72 : decode cX9_readsWall 72 = .ok (.iadd, 1) := by decide +kernel
theorem dX9_readsWall_73 : decode cX9_readsWall 73 = .ok (.dup2, 1) := by decide +kernel
theorem dX9_readsWall_74 : decode cX9_readsWall 74 = .ok (.iaload, 1) := by decide +kernel
theorem dX9_readsWall_75 : decode cX9_readsWall 75 = .ok (.iconst 1, 1) := by decide +kernel
theorem dX9_readsWall_76 : decode cX9_readsWall 76 = .ok (.aload_n 0, 1) := by decide +kernel
theorem dX9_readsWall_77 : decode cX9_readsWall 77 = .ok (.getfield 270, 3) := by decide +kernel
theorem dX9_readsWall_80 : decode cX9_readsWall 80 = .ok (.ishl, 1) := by decide +kernel
theorem dX9_readsWall_81 : decode cX9_readsWall 81 = .ok (.ior, 1) := by decide +kernel
theorem dX9_readsWall_82 : decode cX9_readsWall 82 = .ok (.iastore, 1) := by decide +kernel
theorem dX9_readsWall_83 : decode cX9_readsWall 83 = .ok (.aload_n 0, 1) := by decide +kernel
theorem dX9_readsWall_84 : decode cX9_readsWall 84 = .ok (.getfield 32, 3) := by decide +kernel
theorem dX9_readsWall_87 : decode cX9_readsWall 87 = .ok (.iconst 5, 1) := by decide +kernel
theorem dX9_readsWall_88 : decode cX9_readsWall 88 = .ok (.aload_n 0, 1) := by decide +kernel
theorem dX9_readsWall_89 : decode cX9_readsWall 89 = .ok (.getfield 270, 3) := by decide +kernel
theorem dX9_readsWall_92 : decode cX9_readsWall 92 = .ok (.iadd, 1) := by decide +kernel
theorem dX9_readsWall_93 : decode cX9_readsWall 93 = .ok (.dup2, 1) := by decide +kernel
theorem dX9_readsWall_94 : decode cX9_readsWall 94 = .ok (.iaload, 1) := by decide +kernel
theorem dX9_readsWall_95 : decode cX9_readsWall 95 = .ok (.iconst 1, 1) := by decide +kernel
theorem dX9_readsWall_96 : decode cX9_readsWall 96 = .ok (.iload_n 1, 1) := by decide +kernel
theorem dX9_readsWall_97 : decode cX9_readsWall 97 = .ok (.ishl, 1) := by decide +kernel
theorem dX9_readsWall_98 : decode cX9_readsWall 98 = .ok (.ior, 1) := by decide +kernel
theorem dX9_readsWall_99 : decode cX9_readsWall 99 = .ok (.iastore, 1) := by decide +kernel
theorem dX9_readsWall_100 : decode cX9_readsWall 100 = .ok (.aload_n 0, 1) := by decide +kernel
theorem dX9_readsWall_101 : decode cX9_readsWall 101 = .ok (.invokevirtual 212, 3) := by decide +kernel
theorem dX9_readsWall_104 : decode cX9_readsWall 104 = .ok (.aload_n 0, 1) := by decide +kernel
theorem dX9_readsWall_105 : decode cX9_readsWall 105 = .ok (.invokevirtual 297, 3) := by decide +kernel
theorem dX9_readsWall_108 : decode cX9_readsWall 108 = .ok (.ireturn, 1) := by decide +kernel
theorem dX9_readsGuest_0 : decode cX9_readsGuest 0 = .ok (.iconst 5, 1) := by decide +kernel
theorem dX9_readsGuest_1 : decode cX9_readsGuest 1 = .ok (.aload_n 0, 1) := by decide +kernel
theorem dX9_readsGuest_2 : decode cX9_readsGuest 2 = .ok (.getfield 13, 3) := by decide +kernel
theorem dX9_readsGuest_5 : decode cX9_readsGuest 5 = .ok (.iconst 5, 1) := by decide +kernel
theorem dX9_readsGuest_6 : decode cX9_readsGuest 6 = .ok (.iaload, 1) := by decide +kernel
theorem dX9_readsGuest_7 : decode cX9_readsGuest 7 = .ok (.iadd, 1) := by decide +kernel
theorem dX9_readsGuest_8 : decode cX9_readsGuest 8 = .ok (.istore_n 1, 1) := by decide +kernel
theorem dX9_readsGuest_9 : decode cX9_readsGuest 9 = .ok (.iload_n 1, 1) := by decide +kernel
theorem dX9_readsGuest_10 : decode cX9_readsGuest 10 = .ok (.bipush 10, 2) := by decide +kernel
theorem dX9_readsGuest_12 : decode cX9_readsGuest 12 = .ok (.if_icmp .ne 9, 3) := by decide +kernel
theorem dX9_readsGuest_15 : decode cX9_readsGuest 15 = .ok (.aload_n 0, 1) := by decide +kernel
theorem dX9_readsGuest_16 : decode cX9_readsGuest 16 = .ok (.iconst 5, 1) := by decide +kernel
theorem dX9_readsGuest_17 : decode cX9_readsGuest 17 = .ok (.invokevirtual 206, 3) := by decide +kernel
theorem dX9_readsGuest_20 : decode cX9_readsGuest 20 = .ok (.ireturn, 1) := by decide +kernel
theorem dX9_readsGuest_21 : decode cX9_readsGuest 21 = .ok (.aload_n 0, 1) := by decide +kernel
theorem dX9_readsGuest_22 : decode cX9_readsGuest 22 = .ok (.invokevirtual 212, 3) := by decide +kernel
theorem dX9_readsGuest_25 : decode cX9_readsGuest 25 = .ok (.aload_n 0, 1) := by decide +kernel
theorem dX9_readsGuest_26 : decode cX9_readsGuest 26 = .ok (.invokevirtual 290, 3) := by decide +kernel
theorem dX9_readsGuest_29 : decode cX9_readsGuest 29 = .ok (.ifCond .ne 5, 3) := by decide +kernel
theorem dX9_readsGuest_32 : decode cX9_readsGuest 32 = .ok (.iconst 0, 1) := by decide +kernel
theorem dX9_readsGuest_33 : decode cX9_readsGuest 33 = .ok (.ireturn, 1) := by decide +kernel
theorem dX9_readsGuest_34 : decode cX9_readsGuest 34 = .ok (.aload_n 0, 1) := by decide +kernel
theorem dX9_readsGuest_35 : decode cX9_readsGuest 35 = .ok (.getfield 35, 3) := by decide +kernel
theorem dX9_readsGuest_38 : decode cX9_readsGuest 38 = .ok (.iload_n 1, 1) := by decide +kernel
theorem dX9_readsGuest_39 : decode cX9_readsGuest 39 = .ok (.aload_n 0, 1) := by decide +kernel
theorem dX9_readsGuest_40 : decode cX9_readsGuest 40 = .ok (.ldc2_w 258, 3) := by decide +kernel
theorem dX9_readsGuest_43 : decode cX9_readsGuest 43 = .ok (.invokevirtual 198, 3) := by decide +kernel
theorem dX9_readsGuest_46 : decode cX9_readsGuest 46 = .ok (.ifCond .eq 7, 3) := by decide +kernel
theorem dX9_readsGuest_49 : decode cX9_readsGuest 49 = .ok (.iconst 0, 1) := by decide +kernel
theorem dX9_readsGuest_50 : decode cX9_readsGuest 50 = .ok (.goto 46, 3) := by decide +kernel
theorem dX9_readsGuest_53 : decode cX9_readsGuest 53 = .ok (.aload_n 0, 1) := by decide +kernel
theorem dX9_readsGuest_54 : decode cX9_readsGuest 54 = .ok (.ldc2_w 260, 3) := by decide +kernel
theorem dX9_readsGuest_57 : decode cX9_readsGuest 57 = .ok (.invokevirtual 198, 3) := by decide +kernel
theorem dX9_readsGuest_60 : decode cX9_readsGuest 60 = .ok (.ifCond .eq 7, 3) := by decide +kernel
theorem dX9_readsGuest_63 : decode cX9_readsGuest 63 = .ok (.iconst 1, 1) := by decide +kernel
theorem dX9_readsGuest_64 : decode cX9_readsGuest 64 = .ok (.goto 32, 3) := by decide +kernel
theorem dX9_readsGuest_67 : decode cX9_readsGuest 67 = .ok (.aload_n 0, 1) := by decide +kernel
theorem dX9_readsGuest_68 : decode cX9_readsGuest 68 = .ok (.ldc2_w 262, 3) := by decide +kernel
theorem dX9_readsGuest_71 : decode cX9_readsGuest 71 = .ok (.invokevirtual 198, 3) := by decide +kernel
theorem dX9_readsGuest_74 : decode cX9_readsGuest 74 = .ok (.ifCond .eq 7, 3) := by decide +kernel
theorem dX9_readsGuest_77 : decode cX9_readsGuest 77 = .ok (.iconst 2, 1) := by decide +kernel
theorem dX9_readsGuest_78 : decode cX9_readsGuest 78 = .ok (.goto 18, 3) := by decide +kernel
theorem dX9_readsGuest_81 : decode cX9_readsGuest 81 = .ok (.aload_n 0, 1) := by decide +kernel
theorem dX9_readsGuest_82 : decode cX9_readsGuest 82 = .ok (.ldc2_w 264, 3) := by decide +kernel
theorem dX9_readsGuest_85 : decode cX9_readsGuest 85 = .ok (.invokevirtual 198, 3) := by decide +kernel
theorem dX9_readsGuest_88 : decode cX9_readsGuest 88 = .ok (.ifCond .eq 7, 3) := by decide +kernel
theorem dX9_readsGuest_91 : decode cX9_readsGuest 91 = .ok (.iconst 3, 1) := by decide +kernel
theorem dX9_readsGuest_92 : decode cX9_readsGuest 92 = .ok (.goto 4, 3) := by decide +kernel
theorem dX9_readsGuest_95 : decode cX9_readsGuest 95 = .ok (.iconst (-1), 1) := by decide +kernel
theorem dX9_readsGuest_96 : decode cX9_readsGuest 96 = .ok (.iastore, 1) := by decide +kernel
theorem dX9_readsGuest_97 : decode cX9_readsGuest 97 = .ok (.aload_n 0, 1) := by decide +kernel
theorem dX9_readsGuest_98 : decode cX9_readsGuest 98 = .ok (.getfield 35, 3) := by decide +kernel
theorem dX9_readsGuest_101 : decode cX9_readsGuest 101 = .ok (.iload_n 1, 1) := by decide +kernel
theorem dX9_readsGuest_102 : decode cX9_readsGuest 102 = .ok (.iaload, 1) := by decide +kernel
theorem dX9_readsGuest_103 : decode cX9_readsGuest 103 = .ok (.ifCond .ge 9, 3) := by decide +kernel
theorem dX9_readsGuest_106 : decode cX9_readsGuest 106 = .ok (.aload_n 0, 1) := by decide +kernel
theorem dX9_readsGuest_107 : decode cX9_readsGuest 107 = .ok (.iconst 1, 1) := by decide +kernel
theorem dX9_readsGuest_108 : decode cX9_readsGuest 108 = .ok (.invokevirtual 206, 3) := by decide +kernel
theorem dX9_readsGuest_111 : decode cX9_readsGuest 111 = .ok (.ireturn, 1) := by decide +kernel
theorem dX9_readsGuest_112 : decode cX9_readsGuest 112 = .ok (.aload_n 0, 1) := by decide +kernel
theorem dX9_readsGuest_113 : decode cX9_readsGuest 113 = .ok (.invokevirtual 212, 3) := by decide +kernel
theorem dX9_readsGuest_116 : decode cX9_readsGuest 116 = .ok (.aload_n 0, 1) := by decide +kernel
theorem dX9_readsGuest_117 : decode cX9_readsGuest 117 = .ok (.ldc2_w 230, 3) := by decide +kernel
theorem dX9_readsGuest_120 : decode cX9_readsGuest 120 = .ok (.iconst 0, 1) := by decide +kernel
theorem dX9_readsGuest_121 : decode cX9_readsGuest 121 = .ok (.bipush 9, 2) := by decide +kernel
theorem dX9_readsGuest_123 : decode cX9_readsGuest 123 = .ok (.invokevirtual 293, 3) := by decide +kernel
theorem dX9_readsGuest_126 : decode cX9_readsGuest 126 = .ok (.ifCond .ne 5, 3) := by decide +kernel
theorem dX9_readsGuest_129 : decode cX9_readsGuest 129 = .ok (.iconst 0, 1) := by decide +kernel
theorem dX9_readsGuest_130 : decode cX9_readsGuest 130 = .ok (.ireturn, 1) := by decide +kernel
theorem dX9_readsGuest_131 : decode cX9_readsGuest 131 = .ok (.aload_n 0, 1) := by decide +kernel
theorem dX9_readsGuest_132 : decode cX9_readsGuest 132 = .ok (.getfield 38, 3) := by decide +kernel
theorem dX9_readsGuest_135 : decode cX9_readsGuest 135 = .ok (.iload_n 1, 1) := by decide +kernel
theorem dX9_readsGuest_136 : decode cX9_readsGuest 136 = .ok (.aload_n 0, 1) := by decide +kernel
theorem dX9_readsGuest_137 : decode cX9_readsGuest 137 = .ok (.getfield 270, 3) := by decide +kernel
theorem dX9_readsGuest_140 : decode cX9_readsGuest 140 = .ok (.iastore, 1) := by decide +kernel
theorem dX9_readsGuest_141 : decode cX9_readsGuest 141 = .ok (.aload_n 0, 1) := by decide +kernel
theorem dX9_readsGuest_142 : decode cX9_readsGuest 142 = .ok (.getfield 20, 3) := by decide +kernel
theorem dX9_readsGuest_145 : decode cX9_readsGuest 145 = .ok (.iload_n 1, 1) := by decide +kernel
theorem dX9_readsGuest_146 : decode cX9_readsGuest 146 = .ok (.aload_n 0, 1) := by decide +kernel
theorem dX9_readsGuest_147 : decode cX9_readsGuest 147 = .ok (.getfield 287, 3) := by decide +kernel
theorem dX9_readsGuest_150 : decode cX9_readsGuest 150 = .ok (.lastore, 1) := by decide +kernel
theorem dX9_readsGuest_151 : decode cX9_readsGuest 151 = .ok (.aload_n 0, 1) := by decide +kernel
theorem dX9_readsGuest_152 : decode cX9_readsGuest 152 = .ok (.getfield 13, 3) := by decide +kernel
theorem dX9_readsGuest_155 : decode cX9_readsGuest 155 = .ok (.iconst 5, 1) := by decide +kernel
theorem dX9_readsGuest_156 : decode cX9_readsGuest 156 = .ok (.dup2, 1) := by decide +kernel
theorem dX9_readsGuest_157 : decode cX9_readsGuest 157 = .ok (.iaload, 1) := by decide +kernel
theorem dX9_readsGuest_158 : decode cX9_readsGuest 158 = .ok (.iconst 1, 1) := by decide +kernel
theorem dX9_readsGuest_159 : decode cX9_readsGuest 159 = .ok (.iadd, 1) := by decide +kernel
theorem dX9_readsGuest_160 : decode cX9_readsGuest 160 = .ok (.iastore, 1) := by decide +kernel
theorem dX9_readsGuest_161 : decode cX9_readsGuest 161 = .ok (.aload_n 0, 1) := by decide +kernel
theorem dX9_readsGuest_162 : decode cX9_readsGuest 162 = .ok (.invokevirtual 297, 3) := by decide +kernel
theorem dX9_readsGuest_165 : decode cX9_readsGuest 165 = .ok (.ireturn, 1) := by decide +kernel
theorem dX9_readsWar_0 : decode cX9_readsWar 0 = .ok (.aload_n 0, 1) := by decide +kernel
theorem dX9_readsWar_1 : decode cX9_readsWar 1 = .ok (.invokevirtual 212, 3) := by decide +kernel
theorem dX9_readsWar_4 : decode cX9_readsWar 4 = .ok (.aload_n 0, 1) := by decide +kernel
theorem dX9_readsWar_5 : decode cX9_readsWar 5 = .ok (.iconst 0, 1) := by decide +kernel
theorem dX9_readsWar_6 : decode cX9_readsWar 6 = .ok (.bipush 9, 2) := by decide +kernel
theorem dX9_readsWar_8 : decode cX9_readsWar 8 = .ok (.invokevirtual 273, 3) := by decide +kernel
theorem dX9_readsWar_11 : decode cX9_readsWar 11 = .ok (.ifCond .ne 5, 3) := by decide +kernel
theorem dX9_readsWar_14 : decode cX9_readsWar 14 = .ok (.iconst 0, 1) := by decide +kernel
theorem dX9_readsWar_15 : decode cX9_readsWar 15 = .ok (.ireturn, 1) := by decide +kernel
theorem dX9_readsWar_16 : decode cX9_readsWar 16 = .ok (.aload_n 0, 1) := by decide +kernel
theorem dX9_readsWar_17 : decode cX9_readsWar 17 = .ok (.getfield 270, 3) := by decide +kernel
theorem dX9_readsWar_20 : decode cX9_readsWar 20 = .ok (.istore_n 1, 1) := by decide +kernel
theorem dX9_readsWar_21 : decode cX9_readsWar 21 = .ok (.aload_n 0, 1) := by decide +kernel
theorem dX9_readsWar_22 : decode cX9_readsWar 22 = .ok (.getfield 167, 3) := by decide +kernel
theorem dX9_readsWar_25 : decode cX9_readsWar 25 = .ok (.iconst 2, 1) := by decide +kernel
theorem dX9_readsWar_26 : decode cX9_readsWar 26 = .ok (.if_icmp .eq 9, 3) := by decide +kernel
theorem dX9_readsWar_29 : decode cX9_readsWar 29 = .ok (.aload_n 0, 1) := by decide +kernel
theorem dX9_readsWar_30 : decode cX9_readsWar 30 = .ok (.iconst 1, 1) := by decide +kernel
theorem dX9_readsWar_31 : decode cX9_readsWar 31 = .ok (.invokevirtual 206, 3) := by decide +kernel
theorem dX9_readsWar_34 : decode cX9_readsWar 34 = .ok (.ireturn, 1) := by decide +kernel
theorem dX9_readsWar_35 : decode cX9_readsWar 35 = .ok (.aload_n 0, 1) := by decide +kernel
theorem dX9_readsWar_36 : decode cX9_readsWar 36 = .ok (.getfield 164, 3) := by decide +kernel
theorem dX9_readsWar_39 : decode cX9_readsWar 39 = .ok (.bipush 9, 2) := by decide +kernel
theorem dX9_readsWar_41 : decode cX9_readsWar 41 = .ok (.if_icmp .le 9, 3) := by decide +kernel
theorem dX9_readsWar_44 : decode cX9_readsWar 44 = .ok (.aload_n 0, 1) := by decide +kernel
theorem dX9_readsWar_45 : decode cX9_readsWar 45 = .ok (.iconst 4, 1) := by decide +kernel
theorem dX9_readsWar_46 : decode cX9_readsWar 46 = .ok (.invokevirtual 206, 3) := by decide +kernel
theorem dX9_readsWar_49 : decode cX9_readsWar 49 = .ok (.ireturn, 1) := by decide +kernel
theorem dX9_readsWar_50 : decode cX9_readsWar 50 = .ok (.aload_n 0, 1) := by decide +kernel
theorem dX9_readsWar_51 : decode cX9_readsWar 51 = .ok (.getfield 164, 3) := by decide +kernel
theorem dX9_readsWar_54 : decode cX9_readsWar 54 = .ok (.iload_n 1, 1) := by decide +kernel
theorem dX9_readsWar_55 : decode cX9_readsWar 55 = .ok (.if_icmp .eq 23, 3) := by decide +kernel
theorem dX9_readsWar_58 : decode cX9_readsWar 58 = .ok (.aload_n 0, 1) := by decide +kernel
theorem dX9_readsWar_59 : decode cX9_readsWar 59 = .ok (.getfield 41, 3) := by decide +kernel
theorem dX9_readsWar_62 : decode cX9_readsWar 62 = .ok (.bipush 10, 2) := by decide +kernel
theorem dX9_readsWar_64 : decode cX9_readsWar 64 = .ok (.iload_n 1, 1) := by decide +kernel
theorem dX9_readsWar_65 : decode cX9_readsWar 65 = .ok (.iadd, 1) := by decide +kernel
theorem dX9_readsWar_66 : decode cX9_readsWar 66 = .ok (.iaload, 1) := by decide +kernel
theorem dX9_readsWar_67 : decode cX9_readsWar 67 = .ok (.aload_n 0, 1) := by decide +kernel
theorem dX9_readsWar_68 : decode cX9_readsWar 68 = .ok (.getfield 164, 3) := by decide +kernel
theorem dX9_readsWar_71 : decode cX9_readsWar 71 = .ok (.ishr, 1) := by decide +kernel
theorem dX9_readsWar_72 : decode cX9_readsWar 72 = .ok (.iconst 1, 1) := by decide +kernel
theorem dX9_readsWar_73 : decode cX9_readsWar 73 = .ok (.iand, 1) := by decide +kernel
theorem dX9_readsWar_74 : decode cX9_readsWar 74 = .ok (.iconst 1, 1) := by decide +kernel
theorem dX9_readsWar_75 : decode cX9_readsWar 75 = .ok (.if_icmp .ne 9, 3) := by decide +kernel
theorem dX9_readsWar_78 : decode cX9_readsWar 78 = .ok (.aload_n 0, 1) := by decide +kernel
theorem dX9_readsWar_79 : decode cX9_readsWar 79 = .ok (.iconst 3, 1) := by decide +kernel
theorem dX9_readsWar_80 : decode cX9_readsWar 80 = .ok (.invokevirtual 206, 3) := by decide +kernel
theorem dX9_readsWar_83 : decode cX9_readsWar 83 = .ok (.ireturn, 1) := by decide +kernel
theorem dX9_readsWar_84 : decode cX9_readsWar 84 = .ok (.aload_n 0, 1) := by decide +kernel
theorem dX9_readsWar_85 : decode cX9_readsWar 85 = .ok (.getfield 41, 3) := by decide +kernel
theorem dX9_readsWar_88 : decode cX9_readsWar 88 = .ok (.bipush 10, 2) := by decide +kernel
theorem dX9_readsWar_90 : decode cX9_readsWar 90 = .ok (.iload_n 1, 1) := by decide +kernel
theorem dX9_readsWar_91 : decode cX9_readsWar 91 = .ok (.iadd, 1) := by decide +kernel
theorem dX9_readsWar_92 : decode cX9_readsWar 92 = .ok (.dup2, 1) := by decide +kernel
theorem dX9_readsWar_93 : decode cX9_readsWar 93 = .ok (.iaload, 1) := by decide +kernel
theorem dX9_readsWar_94 : decode cX9_readsWar 94 = .ok (.iconst 1, 1) := by decide +kernel
theorem dX9_readsWar_95 : decode cX9_readsWar 95 = .ok (.aload_n 0, 1) := by decide +kernel
theorem dX9_readsWar_96 : decode cX9_readsWar 96 = .ok (.getfield 164, 3) := by decide +kernel
theorem dX9_readsWar_99 : decode cX9_readsWar 99 = .ok (.ishl, 1) := by decide +kernel
theorem dX9_readsWar_100 : decode cX9_readsWar 100 = .ok (.ior, 1) := by decide +kernel
theorem dX9_readsWar_101 : decode cX9_readsWar 101 = .ok (.iastore, 1) := by decide +kernel
theorem dX9_readsWar_102 : decode cX9_readsWar 102 = .ok (.aload_n 0, 1) := by decide +kernel
theorem dX9_readsWar_103 : decode cX9_readsWar 103 = .ok (.getfield 41, 3) := by decide +kernel
theorem dX9_readsWar_106 : decode cX9_readsWar 106 = .ok (.bipush 10, 2) := by decide +kernel
theorem dX9_readsWar_108 : decode cX9_readsWar 108 = .ok (.aload_n 0, 1) := by decide +kernel
theorem dX9_readsWar_109 : decode cX9_readsWar 109 = .ok (.getfield 164, 3) := by decide +kernel
theorem dX9_readsWar_112 : decode cX9_readsWar 112 = .ok (.iadd, 1) := by decide +kernel
theorem dX9_readsWar_113 : decode cX9_readsWar 113 = .ok (.dup2, 1) := by decide +kernel
theorem dX9_readsWar_114 : decode cX9_readsWar 114 = .ok (.iaload, 1) := by decide +kernel
theorem dX9_readsWar_115 : decode cX9_readsWar 115 = .ok (.iconst 1, 1) := by decide +kernel
theorem dX9_readsWar_116 : decode cX9_readsWar 116 = .ok (.iload_n 1, 1) := by decide +kernel
theorem dX9_readsWar_117 : decode cX9_readsWar 117 = .ok (.ishl, 1) := by decide +kernel
theorem dX9_readsWar_118 : decode cX9_readsWar 118 = .ok (.ior, 1) := by decide +kernel
theorem dX9_readsWar_119 : decode cX9_readsWar 119 = .ok (.iastore, 1) := by decide +kernel
theorem dX9_readsWar_120 : decode cX9_readsWar 120 = .ok (.aload_n 0, 1) := by decide +kernel
theorem dX9_readsWar_121 : decode cX9_readsWar 121 = .ok (.invokevirtual 212, 3) := by decide +kernel
theorem dX9_readsWar_124 : decode cX9_readsWar 124 = .ok (.aload_n 0, 1) := by decide +kernel
theorem dX9_readsWar_125 : decode cX9_readsWar 125 = .ok (.invokevirtual 297, 3) := by decide +kernel
theorem dX9_readsWar_128 : decode cX9_readsWar 128 = .ok (.ireturn, 1) := by decide +kernel
theorem dX9_readsCold_0 : decode cX9_readsCold 0 = .ok (.aload_n 0, 1) := by decide +kernel
theorem dX9_readsCold_1 : decode cX9_readsCold 1 = .ok (.getfield 13, 3) := by decide +kernel
theorem dX9_readsCold_4 : decode cX9_readsCold 4 = .ok (.bipush 7, 2) := by decide +kernel
theorem dX9_readsCold_6 : decode cX9_readsCold 6 = .ok (.iaload, 1) := by decide +kernel
theorem dX9_readsCold_7 : decode cX9_readsCold 7 = .ok (.ifCond .le 9, 3) := by decide +kernel
theorem dX9_readsCold_10 : decode cX9_readsCold 10 = .ok (.aload_n 0, 1) := by decide +kernel
theorem dX9_readsCold_11 : decode cX9_readsCold 11 = .ok (.iconst 3, 1) := by decide +kernel
theorem dX9_readsCold_12 : decode cX9_readsCold 12 = .ok (.invokevirtual 206, 3) := by decide +kernel
theorem dX9_readsCold_15 : decode cX9_readsCold 15 = .ok (.ireturn, 1) := by decide +kernel
theorem dX9_readsCold_16 : decode cX9_readsCold 16 = .ok (.aload_n 0, 1) := by decide +kernel
theorem dX9_readsCold_17 : decode cX9_readsCold 17 = .ok (.invokevirtual 212, 3) := by decide +kernel
theorem dX9_readsCold_20 : decode cX9_readsCold 20 = .ok (.aload_n 0, 1) := by decide +kernel
theorem dX9_readsCold_21 : decode cX9_readsCold 21 = .ok (.getfield 13, 3) := by decide +kernel
theorem dX9_readsCold_24 : decode cX9_readsCold 24 = .ok (.bipush 7, 2) := by decide +kernel
theorem dX9_readsCold_26 : decode cX9_readsCold 26 = .ok (.iaload, 1) := by decide +kernel
theorem dX9_readsCold_27 : decode cX9_readsCold 27 = .ok (.ifCond .eq 11, 3) := by decide +kernel
theorem dX9_readsCold_30 : decode cX9_readsCold 30 = .ok (.aload_n 0, 1) := by decide +kernel
theorem dX9_readsCold_31 : decode cX9_readsCold 31 = .ok (.getfield 167, 3) := by decide +kernel
theorem dX9_readsCold_34 : decode cX9_readsCold 34 = .ok (.iconst 2, 1) := by decide +kernel
theorem dX9_readsCold_35 : decode cX9_readsCold 35 = .ok (.if_icmp .ne 86, 3) := by decide +kernel
theorem dX9_readsCold_38 : decode cX9_readsCold 38 = .ok (.aload_n 0, 1) := by decide +kernel
theorem dX9_readsCold_39 : decode cX9_readsCold 39 = .ok (.getfield 167, 3) := by decide +kernel
theorem dX9_readsCold_42 : decode cX9_readsCold 42 = .ok (.iconst 2, 1) := by decide +kernel
theorem dX9_readsCold_43 : decode cX9_readsCold 43 = .ok (.if_icmp .eq 9, 3) := by decide +kernel
theorem dX9_readsCold_46 : decode cX9_readsCold 46 = .ok (.aload_n 0, 1) := by decide +kernel
theorem dX9_readsCold_47 : decode cX9_readsCold 47 = .ok (.iconst 1, 1) := by decide +kernel
theorem dX9_readsCold_48 : decode cX9_readsCold 48 = .ok (.invokevirtual 206, 3) := by decide +kernel
theorem dX9_readsCold_51 : decode cX9_readsCold 51 = .ok (.ireturn, 1) := by decide +kernel
theorem dX9_readsCold_52 : decode cX9_readsCold 52 = .ok (.aload_n 0, 1) := by decide +kernel
theorem dX9_readsCold_53 : decode cX9_readsCold 53 = .ok (.getfield 164, 3) := by decide +kernel
theorem dX9_readsCold_56 : decode cX9_readsCold 56 = .ok (.iconst 3, 1) := by decide +kernel
theorem dX9_readsCold_57 : decode cX9_readsCold 57 = .ok (.if_icmp .le 9, 3) := by decide +kernel
theorem dX9_readsCold_60 : decode cX9_readsCold 60 = .ok (.aload_n 0, 1) := by decide +kernel
theorem dX9_readsCold_61 : decode cX9_readsCold 61 = .ok (.iconst 4, 1) := by decide +kernel
theorem dX9_readsCold_62 : decode cX9_readsCold 62 = .ok (.invokevirtual 206, 3) := by decide +kernel
theorem dX9_readsCold_65 : decode cX9_readsCold 65 = .ok (.ireturn, 1) := by decide +kernel
theorem dX9_readsCold_66 : decode cX9_readsCold 66 = .ok (.aload_n 0, 1) := by decide +kernel
theorem dX9_readsCold_67 : decode cX9_readsCold 67 = .ok (.getfield 13, 3) := by decide +kernel
theorem dX9_readsCold_70 : decode cX9_readsCold 70 = .ok (.bipush 7, 2) := by decide +kernel
theorem dX9_readsCold_72 : decode cX9_readsCold 72 = .ok (.iaload, 1) := by decide +kernel
theorem dX9_readsCold_73 : decode cX9_readsCold 73 = .ok (.bipush 12, 2) := by decide +kernel
theorem dX9_readsCold_75 : decode cX9_readsCold 75 = .ok (.if_icmp .ne 9, 3) := by decide +kernel
theorem dX9_readsCold_78 : decode cX9_readsCold 78 = .ok (.aload_n 0, 1) := by decide +kernel
theorem dX9_readsCold_79 : decode cX9_readsCold 79 = .ok (.iconst 5, 1) := by decide +kernel
theorem dX9_readsCold_80 : decode cX9_readsCold 80 = .ok (.invokevirtual 206, 3) := by decide +kernel
theorem dX9_readsCold_83 : decode cX9_readsCold 83 = .ok (.ireturn, 1) := by decide +kernel
theorem dX9_readsCold_84 : decode cX9_readsCold 84 = .ok (.aload_n 0, 1) := by decide +kernel
theorem dX9_readsCold_85 : decode cX9_readsCold 85 = .ok (.getfield 44, 3) := by decide +kernel
theorem dX9_readsCold_88 : decode cX9_readsCold 88 = .ok (.bipush 12, 2) := by decide +kernel
theorem dX9_readsCold_90 : decode cX9_readsCold 90 = .ok (.aload_n 0, 1) := by decide +kernel
theorem dX9_readsCold_91 : decode cX9_readsCold 91 = .ok (.getfield 13, 3) := by decide +kernel
theorem dX9_readsCold_94 : decode cX9_readsCold 94 = .ok (.bipush 7, 2) := by decide +kernel
theorem dX9_readsCold_96 : decode cX9_readsCold 96 = .ok (.iaload, 1) := by decide +kernel
theorem dX9_readsCold_97 : decode cX9_readsCold 97 = .ok (.iadd, 1) := by decide +kernel
theorem dX9_readsCold_98 : decode cX9_readsCold 98 = .ok (.aload_n 0, 1) := by decide +kernel
theorem dX9_readsCold_99 : decode cX9_readsCold 99 = .ok (.getfield 164, 3) := by decide +kernel
theorem dX9_readsCold_102 : decode cX9_readsCold 102 = .ok (.iastore, 1) := by decide +kernel
theorem dX9_readsCold_103 : decode cX9_readsCold 103 = .ok (.aload_n 0, 1) := by decide +kernel
theorem dX9_readsCold_104 : decode cX9_readsCold 104 = .ok (.getfield 13, 3) := by decide +kernel
theorem dX9_readsCold_107 : decode cX9_readsCold 107 = .ok (.bipush 7, 2) := by decide +kernel
theorem dX9_readsCold_109 : decode cX9_readsCold 109 = .ok (.dup2, 1) := by decide +kernel
theorem dX9_readsCold_110 : decode cX9_readsCold 110 = .ok (.iaload, 1) := by decide +kernel
theorem dX9_readsCold_111 : decode cX9_readsCold 111 = .ok (.iconst 1, 1) := by decide +kernel
theorem dX9_readsCold_112 : decode cX9_readsCold 112 = .ok (.iadd, 1) := by decide +kernel
theorem dX9_readsCold_113 : decode cX9_readsCold 113 = .ok (.iastore, 1) := by decide +kernel
theorem dX9_readsCold_114 : decode cX9_readsCold 114 = .ok (.aload_n 0, 1) := by decide +kernel
theorem dX9_readsCold_115 : decode cX9_readsCold 115 = .ok (.invokevirtual 212, 3) := by decide +kernel
theorem dX9_readsCold_118 : decode cX9_readsCold 118 = .ok (.goto (-98), 3) := by decide +kernel
theorem dX9_readsCold_121 : decode cX9_readsCold 121 = .ok (.aload_n 0, 1) := by decide +kernel
theorem dX9_readsCold_122 : decode cX9_readsCold 122 = .ok (.invokevirtual 297, 3) := by decide +kernel
theorem dX9_readsCold_125 : decode cX9_readsCold 125 = .ok (.ireturn, 1) := by decide +kernel
theorem dX9_readsSack_0 : decode cX9_readsSack 0 = .ok (.aload_n 0, 1) := by decide +kernel
theorem dX9_readsSack_1 : decode cX9_readsSack 1 = .ok (.getfield 303, 3) := by decide +kernel
theorem dX9_readsSack_4 : decode cX9_readsSack 4 = .ok (.ifCond .eq 9, 3) := by decide +kernel
theorem dX9_readsSack_7 : decode cX9_readsSack 7 = .ok (.aload_n 0, 1) := by decide +kernel
theorem dX9_readsSack_8 : decode cX9_readsSack 8 = .ok (.iconst 3, 1) := by decide +kernel
theorem dX9_readsSack_9 : decode cX9_readsSack 9 = .ok (.invokevirtual 206, 3) := by decide +kernel
theorem dX9_readsSack_12 : decode cX9_readsSack 12 = .ok (.ireturn, 1) := by decide +kernel
theorem dX9_readsSack_13 : decode cX9_readsSack 13 = .ok (.aload_n 0, 1) := by decide +kernel
theorem dX9_readsSack_14 : decode cX9_readsSack 14 = .ok (.iconst 1, 1) := by decide +kernel
theorem dX9_readsSack_15 : decode cX9_readsSack 15 = .ok (.putfield 303, 3) := by decide +kernel
theorem dX9_readsSack_18 : decode cX9_readsSack 18 = .ok (.aload_n 0, 1) := by decide +kernel
theorem dX9_readsSack_19 : decode cX9_readsSack 19 = .ok (.invokevirtual 212, 3) := by decide +kernel
theorem dX9_readsSack_22 : decode cX9_readsSack 22 = .ok (.aload_n 0, 1) := by decide +kernel
theorem dX9_readsSack_23 : decode cX9_readsSack 23 = .ok (.iconst 1, 1) := by decide +kernel
theorem dX9_readsSack_24 : decode cX9_readsSack 24 = .ok (.bipush 20, 2) := by decide +kernel
theorem dX9_readsSack_26 : decode cX9_readsSack 26 = .ok (.invokevirtual 273, 3) := by decide +kernel
theorem dX9_readsSack_29 : decode cX9_readsSack 29 = .ok (.ifCond .ne 5, 3) := by decide +kernel
theorem dX9_readsSack_32 : decode cX9_readsSack 32 = .ok (.iconst 0, 1) := by decide +kernel
theorem dX9_readsSack_33 : decode cX9_readsSack 33 = .ok (.ireturn, 1) := by decide +kernel
theorem dX9_readsSack_34 : decode cX9_readsSack 34 = .ok (.aload_n 0, 1) := by decide +kernel
theorem dX9_readsSack_35 : decode cX9_readsSack 35 = .ok (.getfield 13, 3) := by decide +kernel
theorem dX9_readsSack_38 : decode cX9_readsSack 38 = .ok (.bipush 6, 2) := by decide +kernel
theorem dX9_readsSack_40 : decode cX9_readsSack 40 = .ok (.aload_n 0, 1) := by decide +kernel
theorem dX9_readsSack_41 : decode cX9_readsSack 41 = .ok (.getfield 270, 3) := by decide +kernel
theorem dX9_readsSack_44 : decode cX9_readsSack 44 = .ok (.iastore, 1) := by decide +kernel
theorem dX9_readsSack_45 : decode cX9_readsSack 45 = .ok (.aload_n 0, 1) := by decide +kernel
theorem dX9_readsSack_46 : decode cX9_readsSack 46 = .ok (.invokevirtual 297, 3) := by decide +kernel
theorem dX9_readsSack_49 : decode cX9_readsSack 49 = .ok (.ireturn, 1) := by decide +kernel
theorem dX9_readsTakes_0 : decode cX9_readsTakes 0 = .ok (.aload_n 0, 1) := by decide +kernel
theorem dX9_readsTakes_1 : decode cX9_readsTakes 1 = .ok (.getfield 50, 3) := by decide +kernel
theorem dX9_readsTakes_4 : decode cX9_readsTakes 4 = .ok (.iconst 1, 1) := by decide +kernel
theorem dX9_readsTakes_5 : decode cX9_readsTakes 5 = .ok (.iaload, 1) := by decide +kernel
theorem dX9_readsTakes_6 : decode cX9_readsTakes 6 = .ok (.aload_n 0, 1) := by decide +kernel
theorem dX9_readsTakes_7 : decode cX9_readsTakes 7 = .ok (.getfield 47, 3) := by decide +kernel
theorem dX9_readsTakes_10 : decode cX9_readsTakes 10 = .ok (.iconst 1, 1) := by decide +kernel
theorem dX9_readsTakes_11 : decode cX9_readsTakes 11 = .ok (.iaload, 1) := by decide +kernel
theorem dX9_readsTakes_12 : decode cX9_readsTakes 12 = .ok (.if_icmp .le 9, 3) := by decide +kernel
theorem dX9_readsTakes_15 : decode cX9_readsTakes 15 = .ok (.aload_n 0, 1) := by decide +kernel
theorem dX9_readsTakes_16 : decode cX9_readsTakes 16 = .ok (.iconst 3, 1) := by decide +kernel
theorem dX9_readsTakes_17 : decode cX9_readsTakes 17 = .ok (.invokevirtual 206, 3) := by decide +kernel
theorem dX9_readsTakes_20 : decode cX9_readsTakes 20 = .ok (.ireturn, 1) := by decide +kernel
theorem dX9_readsTakes_21 : decode cX9_readsTakes 21 = .ok (.aload_n 0, 1) := by decide +kernel
theorem dX9_readsTakes_22 : decode cX9_readsTakes 22 = .ok (.invokevirtual 212, 3) := by decide +kernel
theorem dX9_readsTakes_25 : decode cX9_readsTakes 25 = .ok (.aload_n 0, 1) := by decide +kernel
theorem dX9_readsTakes_26 : decode cX9_readsTakes 26 = .ok (.getfield 47, 3) := by decide +kernel
theorem dX9_readsTakes_29 : decode cX9_readsTakes 29 = .ok (.iconst 1, 1) := by decide +kernel
theorem dX9_readsTakes_30 : decode cX9_readsTakes 30 = .ok (.aload_n 0, 1) := by decide +kernel
theorem dX9_readsTakes_31 : decode cX9_readsTakes 31 = .ok (.getfield 181, 3) := by decide +kernel
theorem dX9_readsTakes_34 : decode cX9_readsTakes 34 = .ok (.iastore, 1) := by decide +kernel
theorem dX9_readsTakes_35 : decode cX9_readsTakes 35 = .ok (.aload_n 0, 1) := by decide +kernel
theorem dX9_readsTakes_36 : decode cX9_readsTakes 36 = .ok (.invokevirtual 307, 3) := by decide +kernel
theorem dX9_readsTakes_39 : decode cX9_readsTakes 39 = .ok (.ifCond .ne 5, 3) := by decide +kernel
theorem dX9_readsTakes_42 : decode cX9_readsTakes 42 = .ok (.iconst 0, 1) := by decide +kernel
theorem dX9_readsTakes_43 : decode cX9_readsTakes 43 = .ok (.ireturn, 1) := by decide +kernel
theorem dX9_readsTakes_44 : decode cX9_readsTakes 44 = .ok (.aload_n 0, 1) := by decide +kernel
theorem dX9_readsTakes_45 : decode cX9_readsTakes 45 = .ok (.getfield 50, 3) := by decide +kernel
theorem dX9_readsTakes_48 : decode cX9_readsTakes 48 = .ok (.iconst 1, 1) := by decide +kernel
theorem dX9_readsTakes_49 : decode cX9_readsTakes 49 = .ok (.aload_n 0, 1) := by decide +kernel
theorem dX9_readsTakes_50 : decode cX9_readsTakes 50 = .ok (.getfield 181, 3) := by decide +kernel
theorem dX9_readsTakes_53 : decode cX9_readsTakes 53 = .ok (.iastore, 1) := by decide +kernel
theorem dX9_readsTakes_54 : decode cX9_readsTakes 54 = .ok (.iconst 1, 1) := by decide +kernel
theorem dX9_readsTakes_55 : decode cX9_readsTakes 55 = .ok (.ireturn, 1) := by decide +kernel
theorem dX9_begins_0 : decode cX9_begins 0 = .ok (.aload_n 0, 1) := by decide +kernel
theorem dX9_begins_1 : decode cX9_begins 1 = .ok (.aload_n 0, 1) := by decide +kernel
theorem dX9_begins_2 : decode cX9_begins 2 = .ok (.getfield 148, 3) := by decide +kernel
theorem dX9_begins_5 : decode cX9_begins 5 = .ok (.putfield 151, 3) := by decide +kernel
theorem dX9_begins_8 : decode cX9_begins 8 = .ok (.aload_n 0, 1) := by decide +kernel
theorem dX9_begins_9 : decode cX9_begins 9 = .ok (.iconst 0, 1) := by decide +kernel
theorem dX9_begins_10 : decode cX9_begins 10 = .ok (.putfield 148, 3) := by decide +kernel
theorem dX9_begins_13 : decode cX9_begins 13 = .ok (.aload_n 0, 1) := by decide +kernel
theorem dX9_begins_14 : decode cX9_begins 14 = .ok (.iconst 0, 1) := by decide +kernel
theorem dX9_begins_15 : decode cX9_begins 15 = .ok (.putfield 154, 3) := by decide +kernel
theorem dX9_begins_18 : decode cX9_begins 18 = .ok (.aload_n 0, 1) := by decide +kernel
theorem dX9_begins_19 : decode cX9_begins 19 = .ok (.invokevirtual 212, 3) := by decide +kernel
theorem dX9_begins_22 : decode cX9_begins 22 = .ok (.return_, 1) := by decide +kernel
theorem dX9_readsAll_0 : decode cX9_readsAll 0 = .ok (.aload_n 0, 1) := by decide +kernel
theorem dX9_readsAll_1 : decode cX9_readsAll 1 = .ok (.iconst 1, 1) := by decide +kernel
theorem dX9_readsAll_2 : decode cX9_readsAll 2 = .ok (.invokevirtual 138, 3) := by decide +kernel
theorem dX9_readsAll_5 : decode cX9_readsAll 5 = .ok (.aload_n 0, 1) := by decide +kernel
theorem dX9_readsAll_6 : decode cX9_readsAll 6 = .ok (.getfield 47, 3) := by decide +kernel
theorem dX9_readsAll_9 : decode cX9_readsAll 9 = .ok (.iconst 1, 1) := by decide +kernel
theorem dX9_readsAll_10 : decode cX9_readsAll 10 = .ok (.sipush 1000, 3) := by decide +kernel
theorem dX9_readsAll_13 : decode cX9_readsAll 13 = .ok (.iastore, 1) := by decide +kernel
theorem dX9_readsAll_14 : decode cX9_readsAll 14 = .ok (.aload_n 0, 1) := by decide +kernel
theorem dX9_readsAll_15 : decode cX9_readsAll 15 = .ok (.getfield 50, 3) := by decide +kernel
theorem dX9_readsAll_18 : decode cX9_readsAll 18 = .ok (.iconst 1, 1) := by decide +kernel
theorem dX9_readsAll_19 : decode cX9_readsAll 19 = .ok (.sipush 1000, 3) := by decide +kernel
theorem dX9_readsAll_22 : decode cX9_readsAll 22 = .ok (.iastore, 1) := by decide +kernel
theorem dX9_readsAll_23 : decode cX9_readsAll 23 = .ok (.aload_n 0, 1) := by decide +kernel
theorem dX9_readsAll_24 : decode cX9_readsAll 24 = .ok (.iconst 0, 1) := by decide +kernel
theorem dX9_readsAll_25 : decode cX9_readsAll 25 = .ok (.putfield 303, 3) := by decide +kernel
theorem dX9_readsAll_28 : decode cX9_readsAll 28 = .ok (.aload_n 0, 1) := by decide +kernel
theorem dX9_readsAll_29 : decode cX9_readsAll 29 = .ok (.sipush 1000, 3) := by decide +kernel
theorem dX9_readsAll_32 : decode cX9_readsAll 32 = .ok (.putfield 181, 3) := by decide +kernel
theorem dX9_readsAll_35 : decode cX9_readsAll 35 = .ok (.aload_n 0, 1) := by decide +kernel
theorem dX9_readsAll_36 : decode cX9_readsAll 36 = .ok (.invokevirtual 310, 3) := by decide +kernel
theorem dX9_readsAll_39 : decode cX9_readsAll 39 = .ok (.aload_n 0, 1) := by decide +kernel
theorem dX9_readsAll_40 : decode cX9_readsAll 40 = .ok (.getfield 167, 3) := by decide +kernel
theorem dX9_readsAll_43 : decode cX9_readsAll 43 = .ok (.ifCond .eq 137, 3) := by decide +kernel
theorem dX9_readsAll_46 : decode cX9_readsAll 46 = .ok (.aload_n 0, 1) := by decide +kernel
theorem dX9_readsAll_47 : decode cX9_readsAll 47 = .ok (.ldc2_w 228, 3) := by decide +kernel
theorem dX9_readsAll_50 : decode cX9_readsAll 50 = .ok (.invokevirtual 198, 3) := by decide +kernel
theorem dX9_readsAll_53 : decode cX9_readsAll 53 = .ok (.ifCond .eq 10, 3) := by decide +kernel
theorem dX9_readsAll_56 : decode cX9_readsAll 56 = .ok (.aload_n 0, 1) := by decide +kernel
theorem dX9_readsAll_57 : decode cX9_readsAll 57 = .ok (.invokevirtual 313, 3) := by decide +kernel
theorem dX9_readsAll_60 : decode cX9_readsAll 60 = .ok (.goto 110, 3) := by decide +kernel
theorem dX9_readsAll_63 : decode cX9_readsAll 63 = .ok (.aload_n 0, 1) := by decide +kernel
theorem dX9_readsAll_64 : decode cX9_readsAll 64 = .ok (.ldc2_w 236, 3) := by decide +kernel
theorem dX9_readsAll_67 : decode cX9_readsAll 67 = .ok (.invokevirtual 198, 3) := by decide +kernel
theorem dX9_readsAll_70 : decode cX9_readsAll 70 = .ok (.ifCond .eq 10, 3) := by decide +kernel
theorem dX9_readsAll_73 : decode cX9_readsAll 73 = .ok (.aload_n 0, 1) := by decide +kernel
theorem dX9_readsAll_74 : decode cX9_readsAll 74 = .ok (.invokevirtual 316, 3) := by decide +kernel
theorem dX9_readsAll_77 : decode cX9_readsAll 77 = .ok (.goto 93, 3) := by decide +kernel
theorem dX9_readsAll_80 : decode cX9_readsAll 80 = .ok (.aload_n 0, 1) := by decide +kernel
theorem dX9_readsAll_81 : decode cX9_readsAll 81 = .ok (.ldc2_w 238, 3) := by decide +kernel
theorem dX9_readsAll_84 : decode cX9_readsAll 84 = .ok (.invokevirtual 198, 3) := by decide +kernel
theorem dX9_readsAll_87 : decode cX9_readsAll 87 = .ok (.ifCond .eq 10, 3) := by decide +kernel
theorem dX9_readsAll_90 : decode cX9_readsAll 90 = .ok (.aload_n 0, 1) := by decide +kernel
theorem dX9_readsAll_91 : decode cX9_readsAll 91 = .ok (.invokevirtual 319, 3) := by decide +kernel
theorem dX9_readsAll_94 : decode cX9_readsAll 94 = .ok (.goto 76, 3) := by decide +kernel
theorem dX9_readsAll_97 : decode cX9_readsAll 97 = .ok (.aload_n 0, 1) := by decide +kernel
theorem dX9_readsAll_98 : decode cX9_readsAll 98 = .ok (.ldc2_w 240, 3) := by decide +kernel
theorem dX9_readsAll_101 : decode cX9_readsAll 101 = .ok (.invokevirtual 198, 3) := by decide +kernel
theorem dX9_readsAll_104 : decode cX9_readsAll 104 = .ok (.ifCond .eq 10, 3) := by decide +kernel
theorem dX9_readsAll_107 : decode cX9_readsAll 107 = .ok (.aload_n 0, 1) := by decide +kernel
theorem dX9_readsAll_108 : decode cX9_readsAll 108 = .ok (.invokevirtual 322, 3) := by decide +kernel
theorem dX9_readsAll_111 : decode cX9_readsAll 111 = .ok (.goto 59, 3) := by decide +kernel
theorem dX9_readsAll_114 : decode cX9_readsAll 114 = .ok (.aload_n 0, 1) := by decide +kernel
theorem dX9_readsAll_115 : decode cX9_readsAll 115 = .ok (.ldc2_w 242, 3) := by decide +kernel
theorem dX9_readsAll_118 : decode cX9_readsAll 118 = .ok (.invokevirtual 198, 3) := by decide +kernel
theorem dX9_readsAll_121 : decode cX9_readsAll 121 = .ok (.ifCond .eq 10, 3) := by decide +kernel
theorem dX9_readsAll_124 : decode cX9_readsAll 124 = .ok (.aload_n 0, 1) := by decide +kernel
theorem dX9_readsAll_125 : decode cX9_readsAll 125 = .ok (.invokevirtual 325, 3) := by decide +kernel
theorem dX9_readsAll_128 : decode cX9_readsAll 128 = .ok (.goto 42, 3) := by decide +kernel
theorem dX9_readsAll_131 : decode cX9_readsAll 131 = .ok (.aload_n 0, 1) := by decide +kernel
theorem dX9_readsAll_132 : decode cX9_readsAll 132 = .ok (.ldc2_w 244, 3) := by decide +kernel
theorem dX9_readsAll_135 : decode cX9_readsAll 135 = .ok (.invokevirtual 198, 3) := by decide +kernel
theorem dX9_readsAll_138 : decode cX9_readsAll 138 = .ok (.ifCond .eq 10, 3) := by decide +kernel
theorem dX9_readsAll_141 : decode cX9_readsAll 141 = .ok (.aload_n 0, 1) := by decide +kernel
theorem dX9_readsAll_142 : decode cX9_readsAll 142 = .ok (.invokevirtual 328, 3) := by decide +kernel
theorem dX9_readsAll_145 : decode cX9_readsAll 145 = .ok (.goto 25, 3) := by decide +kernel
theorem dX9_readsAll_148 : decode cX9_readsAll 148 = .ok (.aload_n 0, 1) := by decide +kernel
theorem dX9_readsAll_149 : decode cX9_readsAll 149 = .ok (.ldc2_w 246, 3) := by decide +kernel
theorem dX9_readsAll_152 : decode cX9_readsAll 152 = .ok (.invokevirtual 198, 3) := by decide +kernel
theorem dX9_readsAll_155 : decode cX9_readsAll 155 = .ok (.ifCond .eq 10, 3) := by decide +kernel
theorem dX9_readsAll_158 : decode cX9_readsAll 158 = .ok (.aload_n 0, 1) := by decide +kernel
theorem dX9_readsAll_159 : decode cX9_readsAll 159 = .ok (.invokevirtual 331, 3) := by decide +kernel
theorem dX9_readsAll_162 : decode cX9_readsAll 162 = .ok (.goto 8, 3) := by decide +kernel
theorem dX9_readsAll_165 : decode cX9_readsAll 165 = .ok (.aload_n 0, 1) := by decide +kernel
theorem dX9_readsAll_166 : decode cX9_readsAll 166 = .ok (.iconst 1, 1) := by decide +kernel
theorem dX9_readsAll_167 : decode cX9_readsAll 167 = .ok (.invokevirtual 206, 3) := by decide +kernel
theorem dX9_readsAll_170 : decode cX9_readsAll 170 = .ok (.istore_n 1, 1) := by decide +kernel
theorem dX9_readsAll_171 : decode cX9_readsAll 171 = .ok (.iload_n 1, 1) := by decide +kernel
theorem dX9_readsAll_172 : decode cX9_readsAll 172 = .ok (.ifCond .ne 5, 3) := by decide +kernel
theorem dX9_readsAll_175 : decode cX9_readsAll 175 = .ok (.iconst 0, 1) := by decide +kernel
theorem dX9_readsAll_176 : decode cX9_readsAll 176 = .ok (.ireturn, 1) := by decide +kernel
theorem dX9_readsAll_177 : decode cX9_readsAll 177 = .ok (.goto (-138), 3) := by decide +kernel
theorem dX9_readsAll_180 : decode cX9_readsAll 180 = .ok (.iconst 1, 1) := by decide +kernel
theorem dX9_readsAll_181 : decode cX9_readsAll 181 = .ok (.ireturn, 1) := by decide +kernel
theorem dX9_shifts_0 : decode cX9_shifts 0 = .ok (.iconst 0, 1) := by decide +kernel
theorem dX9_shifts_1 : decode cX9_shifts 1 = .ok (.istore_n 2, 1) := by decide +kernel
theorem dX9_shifts_2 : decode cX9_shifts 2 = .ok (.iload_n 2, 1) := by decide +kernel
theorem dX9_shifts_3 : decode cX9_shifts 3 = .ok (.iload_n 1, 1) := by decide +kernel
theorem dX9_shifts_4 : decode cX9_shifts 4 = .ok (.if_icmp .ge 17, 3) := by decide +kernel
theorem dX9_shifts_7 : decode cX9_shifts 7 = .ok (.aload_n 0, 1) := by decide +kernel
theorem dX9_shifts_8 : decode cX9_shifts 8 = .ok (.iload_n 2, 1) := by decide +kernel
theorem dX9_shifts_9 : decode cX9_shifts 9 = .ok (.aload_n 0, 1) := by decide +kernel
theorem dX9_shifts_10 : decode cX9_shifts 10 = .ok (.iload_n 1, 1) := by decide +kernel
theorem dX9_shifts_11 : decode cX9_shifts 11 = .ok (.iload_n 2, 1) := by decide +kernel
theorem dX9_shifts_12 : decode cX9_shifts 12 = .ok (.iadd, 1) := by decide +kernel
theorem dX9_shifts_13 : decode cX9_shifts 13 = .ok (.iaload, 1) := by decide +kernel
theorem dX9_shifts_14 : decode cX9_shifts 14 = .ok (.iastore, 1) := by decide +kernel
theorem dX9_shifts_15 : decode cX9_shifts 15 = .ok (.iinc 2 1, 3) := by decide +kernel
theorem dX9_shifts_18 : decode cX9_shifts 18 = .ok (.goto (-16), 3) := by decide +kernel
theorem dX9_shifts_21 : decode cX9_shifts 21 = .ok (.return_, 1) := by decide +kernel
theorem dX9_shiftsNames_0 : decode cX9_shiftsNames 0 = .ok (.iconst 0, 1) := by decide +kernel
theorem dX9_shiftsNames_1 : decode cX9_shiftsNames 1 = .ok (.istore_n 1, 1) := by decide +kernel
theorem dX9_shiftsNames_2 : decode cX9_shiftsNames 2 = .ok (.iload_n 1, 1) := by decide +kernel
theorem dX9_shiftsNames_3 : decode cX9_shiftsNames 3 = .ok (.iconst 5, 1) := by decide +kernel
theorem dX9_shiftsNames_4 : decode cX9_shiftsNames 4 = .ok (.if_icmp .ge 17, 3) := by decide +kernel
theorem dX9_shiftsNames_7 : decode cX9_shiftsNames 7 = .ok (.aload_n 0, 1) := by decide +kernel
theorem dX9_shiftsNames_8 : decode cX9_shiftsNames 8 = .ok (.iload_n 1, 1) := by decide +kernel
theorem dX9_shiftsNames_9 : decode cX9_shiftsNames 9 = .ok (.aload_n 0, 1) := by decide +kernel
theorem dX9_shiftsNames_10 : decode cX9_shiftsNames 10 = .ok (.iconst 5, 1) := by decide +kernel
theorem dX9_shiftsNames_11 : decode cX9_shiftsNames 11 = .ok (.iload_n 1, 1) := by decide +kernel
theorem dX9_shiftsNames_12 : decode cX9_shiftsNames 12 = .ok (.iadd, 1) := by decide +kernel
theorem dX9_shiftsNames_13 : decode cX9_shiftsNames 13 = .ok (.laload, 1) := by decide +kernel
theorem dX9_shiftsNames_14 : decode cX9_shiftsNames 14 = .ok (.lastore, 1) := by decide +kernel
theorem dX9_shiftsNames_15 : decode cX9_shiftsNames 15 = .ok (.iinc 1 1, 3) := by decide +kernel
theorem dX9_shiftsNames_18 : decode cX9_shiftsNames 18 = .ok (.goto (-16), 3) := by decide +kernel
theorem dX9_shiftsNames_21 : decode cX9_shiftsNames 21 = .ok (.return_, 1) := by decide +kernel
theorem dX9_lays_0 : decode cX9_lays 0 = .ok (.aload_n 0, 1) := by decide +kernel
theorem dX9_lays_1 : decode cX9_lays 1 = .ok (.getfield 13, 3) := by decide +kernel
theorem dX9_lays_4 : decode cX9_lays 4 = .ok (.iconst 4, 1) := by decide +kernel
theorem dX9_lays_5 : decode cX9_lays 5 = .ok (.invokestatic 334, 3) := by decide +kernel
theorem dX9_lays_8 : decode cX9_lays 8 = .ok (.aload_n 0, 1) := by decide +kernel
theorem dX9_lays_9 : decode cX9_lays 9 = .ok (.getfield 16, 3) := by decide +kernel
theorem dX9_lays_12 : decode cX9_lays 12 = .ok (.invokestatic 338, 3) := by decide +kernel
theorem dX9_lays_15 : decode cX9_lays 15 = .ok (.aload_n 0, 1) := by decide +kernel
theorem dX9_lays_16 : decode cX9_lays 16 = .ok (.getfield 20, 3) := by decide +kernel
theorem dX9_lays_19 : decode cX9_lays 19 = .ok (.invokestatic 338, 3) := by decide +kernel
theorem dX9_lays_22 : decode cX9_lays 22 = .ok (.aload_n 0, 1) := by decide +kernel
theorem dX9_lays_23 : decode cX9_lays 23 = .ok (.getfield 23, 3) := by decide +kernel
theorem dX9_lays_26 : decode cX9_lays 26 = .ok (.iconst 5, 1) := by decide +kernel
theorem dX9_lays_27 : decode cX9_lays 27 = .ok (.invokestatic 334, 3) := by decide +kernel
theorem dX9_lays_30 : decode cX9_lays 30 = .ok (.aload_n 0, 1) := by decide +kernel
theorem dX9_lays_31 : decode cX9_lays 31 = .ok (.getfield 26, 3) := by decide +kernel
theorem dX9_lays_34 : decode cX9_lays 34 = .ok (.iconst 5, 1) := by decide +kernel
theorem dX9_lays_35 : decode cX9_lays 35 = .ok (.invokestatic 334, 3) := by decide +kernel
theorem dX9_lays_38 : decode cX9_lays 38 = .ok (.aload_n 0, 1) := by decide +kernel
theorem dX9_lays_39 : decode cX9_lays 39 = .ok (.getfield 29, 3) := by decide +kernel
theorem dX9_lays_42 : decode cX9_lays 42 = .ok (.iconst 5, 1) := by decide +kernel
theorem dX9_lays_43 : decode cX9_lays 43 = .ok (.invokestatic 334, 3) := by decide +kernel
theorem dX9_lays_46 : decode cX9_lays 46 = .ok (.aload_n 0, 1) := by decide +kernel
theorem dX9_lays_47 : decode cX9_lays 47 = .ok (.getfield 32, 3) := by decide +kernel
theorem dX9_lays_50 : decode cX9_lays 50 = .ok (.iconst 5, 1) := by decide +kernel
theorem dX9_lays_51 : decode cX9_lays 51 = .ok (.invokestatic 334, 3) := by decide +kernel
theorem dX9_lays_54 : decode cX9_lays 54 = .ok (.aload_n 0, 1) := by decide +kernel
theorem dX9_lays_55 : decode cX9_lays 55 = .ok (.getfield 35, 3) := by decide +kernel
theorem dX9_lays_58 : decode cX9_lays 58 = .ok (.iconst 5, 1) := by decide +kernel
theorem dX9_lays_59 : decode cX9_lays 59 = .ok (.invokestatic 334, 3) := by decide +kernel
theorem dX9_lays_62 : decode cX9_lays 62 = .ok (.aload_n 0, 1) := by decide +kernel
theorem dX9_lays_63 : decode cX9_lays 63 = .ok (.getfield 38, 3) := by decide +kernel
theorem dX9_lays_66 : decode cX9_lays 66 = .ok (.iconst 5, 1) := by decide +kernel
theorem dX9_lays_67 : decode cX9_lays 67 = .ok (.invokestatic 334, 3) := by decide +kernel
theorem dX9_lays_70 : decode cX9_lays 70 = .ok (.aload_n 0, 1) := by decide +kernel
theorem dX9_lays_71 : decode cX9_lays 71 = .ok (.getfield 41, 3) := by decide +kernel
theorem dX9_lays_74 : decode cX9_lays 74 = .ok (.bipush 10, 2) := by decide +kernel
theorem dX9_lays_76 : decode cX9_lays 76 = .ok (.invokestatic 334, 3) := by decide +kernel
theorem dX9_lays_79 : decode cX9_lays 79 = .ok (.aload_n 0, 1) := by decide +kernel
theorem dX9_lays_80 : decode cX9_lays 80 = .ok (.getfield 44, 3) := by decide +kernel
theorem dX9_lays_83 : decode cX9_lays 83 = .ok (.bipush 12, 2) := by decide +kernel
theorem dX9_lays_85 : decode cX9_lays 85 = .ok (.invokestatic 334, 3) := by decide +kernel
theorem dX9_lays_88 : decode cX9_lays 88 = .ok (.aload_n 0, 1) := by decide +kernel
theorem dX9_lays_89 : decode cX9_lays 89 = .ok (.getfield 53, 3) := by decide +kernel
theorem dX9_lays_92 : decode cX9_lays 92 = .ok (.sipush 1000, 3) := by decide +kernel
theorem dX9_lays_95 : decode cX9_lays 95 = .ok (.invokestatic 334, 3) := by decide +kernel
theorem dX9_lays_98 : decode cX9_lays 98 = .ok (.aload_n 0, 1) := by decide +kernel
theorem dX9_lays_99 : decode cX9_lays 99 = .ok (.getfield 47, 3) := by decide +kernel
theorem dX9_lays_102 : decode cX9_lays 102 = .ok (.iconst 0, 1) := by decide +kernel
theorem dX9_lays_103 : decode cX9_lays 103 = .ok (.aload_n 0, 1) := by decide +kernel
theorem dX9_lays_104 : decode cX9_lays 104 = .ok (.getfield 47, 3) := by decide +kernel
theorem dX9_lays_107 : decode cX9_lays 107 = .ok (.iconst 1, 1) := by decide +kernel
theorem dX9_lays_108 : decode cX9_lays 108 = .ok (.iaload, 1) := by decide +kernel
theorem dX9_lays_109 : decode cX9_lays 109 = .ok (.sipush 1000, 3) := by decide +kernel
theorem dX9_lays_112 : decode cX9_lays 112 = .ok (.isub, 1) := by decide +kernel
theorem dX9_lays_113 : decode cX9_lays 113 = .ok (.iastore, 1) := by decide +kernel
theorem dX9_lays_114 : decode cX9_lays 114 = .ok (.aload_n 0, 1) := by decide +kernel
theorem dX9_lays_115 : decode cX9_lays 115 = .ok (.getfield 50, 3) := by decide +kernel
theorem dX9_lays_118 : decode cX9_lays 118 = .ok (.iconst 0, 1) := by decide +kernel
theorem dX9_lays_119 : decode cX9_lays 119 = .ok (.aload_n 0, 1) := by decide +kernel
theorem dX9_lays_120 : decode cX9_lays 120 = .ok (.getfield 50, 3) := by decide +kernel
theorem dX9_lays_123 : decode cX9_lays 123 = .ok (.iconst 1, 1) := by decide +kernel
theorem dX9_lays_124 : decode cX9_lays 124 = .ok (.iaload, 1) := by decide +kernel
theorem dX9_lays_125 : decode cX9_lays 125 = .ok (.sipush 1000, 3) := by decide +kernel
theorem dX9_lays_128 : decode cX9_lays 128 = .ok (.isub, 1) := by decide +kernel
theorem dX9_lays_129 : decode cX9_lays 129 = .ok (.iastore, 1) := by decide +kernel
theorem dX9_lays_130 : decode cX9_lays 130 = .ok (.return_, 1) := by decide +kernel
theorem dX9_copies_0 : decode cX9_copies 0 = .ok (.iconst 0, 1) := by decide +kernel
theorem dX9_copies_1 : decode cX9_copies 1 = .ok (.istore 4, 2) := by decide +kernel
theorem dX9_copies_3 : decode cX9_copies 3 = .ok (.iload 4, 2) := by decide +kernel
theorem dX9_copies_5 : decode cX9_copies 5 = .ok (.bipush 13, 2) := by decide +kernel
theorem dX9_copies_7 : decode cX9_copies 7 = .ok (.if_icmp .ge 21, 3) := by decide +kernel
theorem dX9_copies_10 : decode cX9_copies 10 = .ok (.aload_n 2, 1) := by decide +kernel
theorem dX9_copies_11 : decode cX9_copies 11 = .ok (.iload_n 3, 1) := by decide +kernel
theorem dX9_copies_12 : decode cX9_copies 12 = .ok (.iload 4, 2) := by decide +kernel
theorem dX9_copies_14 : decode cX9_copies 14 = .ok (.iadd, 1) := by decide +kernel
theorem dX9_copies_15 : decode cX9_copies 15 = .ok (.aload_n 0, 1) := by decide +kernel
theorem dX9_copies_16 : decode cX9_copies 16 = .ok (.iload_n 1, 1) := by decide +kernel
theorem dX9_copies_17 : decode cX9_copies 17 = .ok (.iload 4, 2) := by decide +kernel
theorem dX9_copies_19 : decode cX9_copies 19 = .ok (.iadd, 1) := by decide +kernel
theorem dX9_copies_20 : decode cX9_copies 20 = .ok (.iaload, 1) := by decide +kernel
theorem dX9_copies_21 : decode cX9_copies 21 = .ok (.iastore, 1) := by decide +kernel
theorem dX9_copies_22 : decode cX9_copies 22 = .ok (.iinc 4 1, 3) := by decide +kernel
theorem dX9_copies_25 : decode cX9_copies 25 = .ok (.goto (-22), 3) := by decide +kernel
theorem dX9_copies_28 : decode cX9_copies 28 = .ok (.return_, 1) := by decide +kernel
theorem dX9_readsLine_0 : decode cX9_readsLine 0 = .ok (.aload_n 0, 1) := by decide +kernel
theorem dX9_readsLine_1 : decode cX9_readsLine 1 = .ok (.ldc2_w 248, 3) := by decide +kernel
theorem dX9_readsLine_4 : decode cX9_readsLine 4 = .ok (.invokevirtual 198, 3) := by decide +kernel
theorem dX9_readsLine_7 : decode cX9_readsLine 7 = .ok (.ifCond .eq 7, 3) := by decide +kernel
theorem dX9_readsLine_10 : decode cX9_readsLine 10 = .ok (.iconst 0, 1) := by decide +kernel
theorem dX9_readsLine_11 : decode cX9_readsLine 11 = .ok (.goto 60, 3) := by decide +kernel
theorem dX9_readsLine_14 : decode cX9_readsLine 14 = .ok (.aload_n 0, 1) := by decide +kernel
theorem dX9_readsLine_15 : decode cX9_readsLine 15 = .ok (.ldc2_w 250, 3) := by decide +kernel
theorem dX9_readsLine_18 : decode cX9_readsLine 18 = .ok (.invokevirtual 198, 3) := by decide +kernel
theorem dX9_readsLine_21 : decode cX9_readsLine 21 = .ok (.ifCond .eq 7, 3) := by decide +kernel
theorem dX9_readsLine_24 : decode cX9_readsLine 24 = .ok (.iconst 1, 1) := by decide +kernel
theorem dX9_readsLine_25 : decode cX9_readsLine 25 = .ok (.goto 46, 3) := by decide +kernel
theorem dX9_readsLine_28 : decode cX9_readsLine 28 = .ok (.aload_n 0, 1) := by decide +kernel
theorem dX9_readsLine_29 : decode cX9_readsLine 29 = .ok (.ldc2_w 252, 3) := by decide +kernel
theorem dX9_readsLine_32 : decode cX9_readsLine 32 = .ok (.invokevirtual 198, 3) := by decide +kernel
theorem dX9_readsLine_35 : decode cX9_readsLine 35 = .ok (.ifCond .eq 7, 3) := by decide +kernel
theorem dX9_readsLine_38 : decode cX9_readsLine 38 = .ok (.iconst 2, 1) := by decide +kernel
theorem dX9_readsLine_39 : decode cX9_readsLine 39 = .ok (.goto 32, 3) := by decide +kernel
theorem dX9_readsLine_42 : decode cX9_readsLine 42 = .ok (.aload_n 0, 1) := by decide +kernel
theorem dX9_readsLine_43 : decode cX9_readsLine 43 = .ok (.ldc2_w 254, 3) := by decide +kernel
theorem dX9_readsLine_46 : decode cX9_readsLine 46 = .ok (.invokevirtual 198, 3) := by decide +kernel
theorem dX9_readsLine_49 : decode cX9_readsLine 49 = .ok (.ifCond .eq 7, 3) := by decide +kernel
theorem dX9_readsLine_52 : decode cX9_readsLine 52 = .ok (.iconst 3, 1) := by decide +kernel
theorem dX9_readsLine_53 : decode cX9_readsLine 53 = .ok (.goto 18, 3) := by decide +kernel
theorem dX9_readsLine_56 : decode cX9_readsLine 56 = .ok (.aload_n 0, 1) := by decide +kernel
theorem dX9_readsLine_57 : decode cX9_readsLine 57 = .ok (.ldc2_w 256, 3) := by decide +kernel
theorem dX9_readsLine_60 : decode cX9_readsLine 60 = .ok (.invokevirtual 198, 3) := by decide +kernel
theorem dX9_readsLine_63 : decode cX9_readsLine 63 = .ok (.ifCond .eq 7, 3) := by decide +kernel
theorem dX9_readsLine_66 : decode cX9_readsLine 66 = .ok (.iconst 4, 1) := by decide +kernel
theorem dX9_readsLine_67 : decode cX9_readsLine 67 = .ok (.goto 4, 3) := by decide +kernel
theorem dX9_readsLine_70 : decode cX9_readsLine 70 = .ok (.iconst (-1), 1) := by decide +kernel
theorem dX9_readsLine_71 : decode cX9_readsLine 71 = .ok (.istore_n 1, 1) := by decide +kernel
theorem dX9_readsLine_72 : decode cX9_readsLine 72 = .ok (.iload_n 1, 1) := by decide +kernel
theorem dX9_readsLine_73 : decode cX9_readsLine 73 = .ok (.ifCond .ge 9, 3) := by decide +kernel
theorem dX9_readsLine_76 : decode cX9_readsLine 76 = .ok (.aload_n 0, 1) := by decide +kernel
theorem dX9_readsLine_77 : decode cX9_readsLine 77 = .ok (.iconst 1, 1) := by decide +kernel
theorem dX9_readsLine_78 : decode cX9_readsLine 78 = .ok (.invokevirtual 206, 3) := by decide +kernel
theorem dX9_readsLine_81 : decode cX9_readsLine 81 = .ok (.ireturn, 1) := by decide +kernel
theorem dX9_readsLine_82 : decode cX9_readsLine 82 = .ok (.aload_n 0, 1) := by decide +kernel
theorem dX9_readsLine_83 : decode cX9_readsLine 83 = .ok (.getfield 93, 3) := by decide +kernel
theorem dX9_readsLine_86 : decode cX9_readsLine 86 = .ok (.iconst 5, 1) := by decide +kernel
theorem dX9_readsLine_87 : decode cX9_readsLine 87 = .ok (.iaload, 1) := by decide +kernel
theorem dX9_readsLine_88 : decode cX9_readsLine 88 = .ok (.bipush 40, 2) := by decide +kernel
theorem dX9_readsLine_90 : decode cX9_readsLine 90 = .ok (.if_icmp .ne 9, 3) := by decide +kernel
theorem dX9_readsLine_93 : decode cX9_readsLine 93 = .ok (.aload_n 0, 1) := by decide +kernel
theorem dX9_readsLine_94 : decode cX9_readsLine 94 = .ok (.iconst 5, 1) := by decide +kernel
theorem dX9_readsLine_95 : decode cX9_readsLine 95 = .ok (.invokevirtual 206, 3) := by decide +kernel
theorem dX9_readsLine_98 : decode cX9_readsLine 98 = .ok (.ireturn, 1) := by decide +kernel
theorem dX9_readsLine_99 : decode cX9_readsLine 99 = .ok (.aload_n 0, 1) := by decide +kernel
theorem dX9_readsLine_100 : decode cX9_readsLine 100 = .ok (.invokevirtual 212, 3) := by decide +kernel
theorem dX9_readsLine_103 : decode cX9_readsLine 103 = .ok (.sipush 200, 3) := by decide +kernel
theorem dX9_readsLine_106 : decode cX9_readsLine 106 = .ok (.aload_n 0, 1) := by decide +kernel
theorem dX9_readsLine_107 : decode cX9_readsLine 107 = .ok (.getfield 93, 3) := by decide +kernel
theorem dX9_readsLine_110 : decode cX9_readsLine 110 = .ok (.iconst 5, 1) := by decide +kernel
theorem dX9_readsLine_111 : decode cX9_readsLine 111 = .ok (.iaload, 1) := by decide +kernel
theorem dX9_readsLine_112 : decode cX9_readsLine 112 = .ok (.iadd, 1) := by decide +kernel
theorem dX9_readsLine_113 : decode cX9_readsLine 113 = .ok (.istore_n 2, 1) := by decide +kernel
theorem dX9_readsLine_114 : decode cX9_readsLine 114 = .ok (.aload_n 0, 1) := by decide +kernel
theorem dX9_readsLine_115 : decode cX9_readsLine 115 = .ok (.getfield 96, 3) := by decide +kernel
theorem dX9_readsLine_118 : decode cX9_readsLine 118 = .ok (.iload_n 2, 1) := by decide +kernel
theorem dX9_readsLine_119 : decode cX9_readsLine 119 = .ok (.iload_n 1, 1) := by decide +kernel
theorem dX9_readsLine_120 : decode cX9_readsLine 120 = .ok (.iastore, 1) := by decide +kernel
theorem dX9_readsLine_121 : decode cX9_readsLine 121 = .ok (.iload_n 1, 1) := by decide +kernel
theorem dX9_readsLine_122 : decode cX9_readsLine 122 = .ok (.iconst 3, 1) := by decide +kernel
theorem dX9_readsLine_123 : decode cX9_readsLine 123 = .ok (.if_icmp .ge 26, 3) := by decide +kernel
theorem dX9_readsLine_126 : decode cX9_readsLine 126 = .ok (.aload_n 0, 1) := by decide +kernel
theorem dX9_readsLine_127 : decode cX9_readsLine 127 = .ok (.invokevirtual 342, 3) := by decide +kernel
theorem dX9_readsLine_130 : decode cX9_readsLine 130 = .ok (.ifCond .ne 5, 3) := by decide +kernel
theorem dX9_readsLine_133 : decode cX9_readsLine 133 = .ok (.iconst 0, 1) := by decide +kernel
theorem dX9_readsLine_134 : decode cX9_readsLine 134 = .ok (.ireturn, 1) := by decide +kernel
theorem dX9_readsLine_135 : decode cX9_readsLine 135 = .ok (.aload_n 0, 1) := by decide +kernel
theorem dX9_readsLine_136 : decode cX9_readsLine 136 = .ok (.getfield 99, 3) := by decide +kernel
theorem dX9_readsLine_139 : decode cX9_readsLine 139 = .ok (.iload_n 2, 1) := by decide +kernel
theorem dX9_readsLine_140 : decode cX9_readsLine 140 = .ok (.aload_n 0, 1) := by decide +kernel
theorem dX9_readsLine_141 : decode cX9_readsLine 141 = .ok (.getfield 270, 3) := by decide +kernel
theorem dX9_readsLine_144 : decode cX9_readsLine 144 = .ok (.iastore, 1) := by decide +kernel
theorem dX9_readsLine_145 : decode cX9_readsLine 145 = .ok (.aload_n 0, 1) := by decide +kernel
theorem dX9_readsLine_146 : decode cX9_readsLine 146 = .ok (.invokevirtual 212, 3) := by decide +kernel
theorem dX9_readsLine_149 : decode cX9_readsLine 149 = .ok (.iload_n 1, 1) := by decide +kernel
theorem dX9_readsLine_150 : decode cX9_readsLine 150 = .ok (.iconst 1, 1) := by decide +kernel
theorem dX9_readsLine_151 : decode cX9_readsLine 151 = .ok (.if_icmp .eq 32, 3) := by decide +kernel
theorem dX9_readsLine_154 : decode cX9_readsLine 154 = .ok (.iload_n 1, 1) := by decide +kernel
theorem dX9_readsLine_155 : decode cX9_readsLine 155 = .ok (.iconst 4, 1) := by decide +kernel
theorem dX9_readsLine_156 : decode cX9_readsLine 156 = .ok (.if_icmp .eq 27, 3) := by decide +kernel
theorem dX9_readsLine_159 : decode cX9_readsLine 159 = .ok (.aload_n 0, 1) := by decide +kernel
theorem dX9_readsLine_160 : decode cX9_readsLine 160 = .ok (.iconst 0, 1) := by decide +kernel
theorem dX9_readsLine_161 : decode cX9_readsLine 161 = .ok (.invokevirtual 300, 3) := by decide +kernel
theorem dX9_readsLine_164 : decode cX9_readsLine 164 = .ok (.ifCond .ne 5, 3) := by decide +kernel
theorem dX9_readsLine_167 : decode cX9_readsLine 167 = .ok (.iconst 0, 1) := by decide +kernel
theorem dX9_readsLine_168 : decode cX9_readsLine 168 = .ok (.ireturn, 1) := by decide +kernel
theorem dX9_readsLine_169 : decode cX9_readsLine 169 = .ok (.aload_n 0, 1) := by decide +kernel
theorem dX9_readsLine_170 : decode cX9_readsLine 170 = .ok (.getfield 102, 3) := by decide +kernel
theorem dX9_readsLine_173 : decode cX9_readsLine 173 = .ok (.iload_n 2, 1) := by decide +kernel
theorem dX9_readsLine_174 : decode cX9_readsLine 174 = .ok (.aload_n 0, 1) := by decide +kernel
theorem dX9_readsLine_175 : decode cX9_readsLine 175 = .ok (.getfield 270, 3) := by decide +kernel
theorem dX9_readsLine_178 : decode cX9_readsLine 178 = .ok (.iastore, 1) := by decide +kernel
theorem dX9_readsLine_179 : decode cX9_readsLine 179 = .ok (.aload_n 0, 1) := by decide +kernel
theorem dX9_readsLine_180 : decode cX9_readsLine 180 = .ok (.invokevirtual 212, 3) := by decide +kernel
theorem dX9_readsLine_183 : decode cX9_readsLine 183 = .ok (.aload_n 0, 1) := by decide +kernel
theorem dX9_readsLine_184 : decode cX9_readsLine 184 = .ok (.getfield 93, 3) := by decide +kernel
theorem dX9_readsLine_187 : decode cX9_readsLine 187 = .ok (.iconst 5, 1) := by decide +kernel
theorem dX9_readsLine_188 : decode cX9_readsLine 188 = .ok (.dup2, 1) := by decide +kernel
theorem dX9_readsLine_189 : decode cX9_readsLine 189 = .ok (.iaload, 1) := by decide +kernel
theorem dX9_readsLine_190 : decode cX9_readsLine 190 = .ok (.iconst 1, 1) := by decide +kernel
theorem dX9_readsLine_191 : decode cX9_readsLine 191 = .ok (.iadd, 1) := by decide +kernel
theorem dX9_readsLine_192 : decode cX9_readsLine 192 = .ok (.iastore, 1) := by decide +kernel
theorem dX9_readsLine_193 : decode cX9_readsLine 193 = .ok (.aload_n 0, 1) := by decide +kernel
theorem dX9_readsLine_194 : decode cX9_readsLine 194 = .ok (.invokevirtual 297, 3) := by decide +kernel
theorem dX9_readsLine_197 : decode cX9_readsLine 197 = .ok (.ireturn, 1) := by decide +kernel
theorem dX9_laysLines_0 : decode cX9_laysLines 0 = .ok (.aload_n 0, 1) := by decide +kernel
theorem dX9_laysLines_1 : decode cX9_laysLines 1 = .ok (.getfield 93, 3) := by decide +kernel
theorem dX9_laysLines_4 : decode cX9_laysLines 4 = .ok (.iload_n 2, 1) := by decide +kernel
theorem dX9_laysLines_5 : decode cX9_laysLines 5 = .ok (.aload_n 0, 1) := by decide +kernel
theorem dX9_laysLines_6 : decode cX9_laysLines 6 = .ok (.getfield 93, 3) := by decide +kernel
theorem dX9_laysLines_9 : decode cX9_laysLines 9 = .ok (.iload_n 1, 1) := by decide +kernel
theorem dX9_laysLines_10 : decode cX9_laysLines 10 = .ok (.iaload, 1) := by decide +kernel
theorem dX9_laysLines_11 : decode cX9_laysLines 11 = .ok (.iastore, 1) := by decide +kernel
theorem dX9_laysLines_12 : decode cX9_laysLines 12 = .ok (.iconst 0, 1) := by decide +kernel
theorem dX9_laysLines_13 : decode cX9_laysLines 13 = .ok (.istore_n 3, 1) := by decide +kernel
theorem dX9_laysLines_14 : decode cX9_laysLines 14 = .ok (.iload_n 3, 1) := by decide +kernel
theorem dX9_laysLines_15 : decode cX9_laysLines 15 = .ok (.bipush 40, 2) := by decide +kernel
theorem dX9_laysLines_17 : decode cX9_laysLines 17 = .ok (.if_icmp .ge 75, 3) := by decide +kernel
theorem dX9_laysLines_20 : decode cX9_laysLines 20 = .ok (.aload_n 0, 1) := by decide +kernel
theorem dX9_laysLines_21 : decode cX9_laysLines 21 = .ok (.getfield 96, 3) := by decide +kernel
theorem dX9_laysLines_24 : decode cX9_laysLines 24 = .ok (.bipush 40, 2) := by decide +kernel
theorem dX9_laysLines_26 : decode cX9_laysLines 26 = .ok (.iload_n 2, 1) := by decide +kernel
theorem dX9_laysLines_27 : decode cX9_laysLines 27 = .ok (.imul, 1) := by decide +kernel
theorem dX9_laysLines_28 : decode cX9_laysLines 28 = .ok (.iload_n 3, 1) := by decide +kernel
theorem dX9_laysLines_29 : decode cX9_laysLines 29 = .ok (.iadd, 1) := by decide +kernel
theorem dX9_laysLines_30 : decode cX9_laysLines 30 = .ok (.aload_n 0, 1) := by decide +kernel
theorem dX9_laysLines_31 : decode cX9_laysLines 31 = .ok (.getfield 96, 3) := by decide +kernel
theorem dX9_laysLines_34 : decode cX9_laysLines 34 = .ok (.bipush 40, 2) := by decide +kernel
theorem dX9_laysLines_36 : decode cX9_laysLines 36 = .ok (.iload_n 1, 1) := by decide +kernel
theorem dX9_laysLines_37 : decode cX9_laysLines 37 = .ok (.imul, 1) := by decide +kernel
theorem dX9_laysLines_38 : decode cX9_laysLines 38 = .ok (.iload_n 3, 1) := by decide +kernel
theorem dX9_laysLines_39 : decode cX9_laysLines 39 = .ok (.iadd, 1) := by decide +kernel
theorem dX9_laysLines_40 : decode cX9_laysLines 40 = .ok (.iaload, 1) := by decide +kernel
theorem dX9_laysLines_41 : decode cX9_laysLines 41 = .ok (.iastore, 1) := by decide +kernel
theorem dX9_laysLines_42 : decode cX9_laysLines 42 = .ok (.aload_n 0, 1) := by decide +kernel
theorem dX9_laysLines_43 : decode cX9_laysLines 43 = .ok (.getfield 99, 3) := by decide +kernel
theorem dX9_laysLines_46 : decode cX9_laysLines 46 = .ok (.bipush 40, 2) := by decide +kernel
theorem dX9_laysLines_48 : decode cX9_laysLines 48 = .ok (.iload_n 2, 1) := by decide +kernel
theorem dX9_laysLines_49 : decode cX9_laysLines 49 = .ok (.imul, 1) := by decide +kernel
theorem dX9_laysLines_50 : decode cX9_laysLines 50 = .ok (.iload_n 3, 1) := by decide +kernel
theorem dX9_laysLines_51 : decode cX9_laysLines 51 = .ok (.iadd, 1) := by decide +kernel
theorem dX9_laysLines_52 : decode cX9_laysLines 52 = .ok (.aload_n 0, 1) := by decide +kernel
theorem dX9_laysLines_53 : decode cX9_laysLines 53 = .ok (.getfield 99, 3) := by decide +kernel
theorem dX9_laysLines_56 : decode cX9_laysLines 56 = .ok (.bipush 40, 2) := by decide +kernel
theorem dX9_laysLines_58 : decode cX9_laysLines 58 = .ok (.iload_n 1, 1) := by decide +kernel
theorem dX9_laysLines_59 : decode cX9_laysLines 59 = .ok (.imul, 1) := by decide +kernel
theorem dX9_laysLines_60 : decode cX9_laysLines 60 = .ok (.iload_n 3, 1) := by decide +kernel
theorem dX9_laysLines_61 : decode cX9_laysLines 61 = .ok (.iadd, 1) := by decide +kernel
theorem dX9_laysLines_62 : decode cX9_laysLines 62 = .ok (.iaload, 1) := by decide +kernel
theorem dX9_laysLines_63 : decode cX9_laysLines 63 = .ok (.iastore, 1) := by decide +kernel
theorem dX9_laysLines_64 : decode cX9_laysLines 64 = .ok (.aload_n 0, 1) := by decide +kernel
theorem dX9_laysLines_65 : decode cX9_laysLines 65 = .ok (.getfield 102, 3) := by decide +kernel
theorem dX9_laysLines_68 : decode cX9_laysLines 68 = .ok (.bipush 40, 2) := by decide +kernel
theorem dX9_laysLines_70 : decode cX9_laysLines 70 = .ok (.iload_n 2, 1) := by decide +kernel
theorem dX9_laysLines_71 : decode cX9_laysLines 71 = .ok (.imul, 1) := by decide +kernel
theorem dX9_laysLines_72 : decode cX9_laysLines 72 = .ok (.iload_n 3, 1) := by decide +kernel
theorem dX9_laysLines_73 : decode cX9_laysLines 73 = .ok (.iadd, 1) := by decide +kernel
theorem dX9_laysLines_74 : decode cX9_laysLines 74 = .ok (.aload_n 0, 1) := by decide +kernel
theorem dX9_laysLines_75 : decode cX9_laysLines 75 = .ok (.getfield 102, 3) := by decide +kernel
theorem dX9_laysLines_78 : decode cX9_laysLines 78 = .ok (.bipush 40, 2) := by decide +kernel
theorem dX9_laysLines_80 : decode cX9_laysLines 80 = .ok (.iload_n 1, 1) := by decide +kernel
theorem dX9_laysLines_81 : decode cX9_laysLines 81 = .ok (.imul, 1) := by decide +kernel
theorem dX9_laysLines_82 : decode cX9_laysLines 82 = .ok (.iload_n 3, 1) := by decide +kernel
theorem dX9_laysLines_83 : decode cX9_laysLines 83 = .ok (.iadd, 1) := by decide +kernel
theorem dX9_laysLines_84 : decode cX9_laysLines 84 = .ok (.iaload, 1) := by decide +kernel
theorem dX9_laysLines_85 : decode cX9_laysLines 85 = .ok (.iastore, 1) := by decide +kernel
theorem dX9_laysLines_86 : decode cX9_laysLines 86 = .ok (.iinc 3 1, 3) := by decide +kernel
theorem dX9_laysLines_89 : decode cX9_laysLines 89 = .ok (.goto (-75), 3) := by decide +kernel
theorem dX9_laysLines_92 : decode cX9_laysLines 92 = .ok (.return_, 1) := by decide +kernel
theorem dX9_laysHeard_0 : decode cX9_laysHeard 0 = .ok (.aload_n 0, 1) := by decide +kernel
theorem dX9_laysHeard_1 : decode cX9_laysHeard 1 = .ok (.getfield 105, 3) := by decide +kernel
theorem dX9_laysHeard_4 : decode cX9_laysHeard 4 = .ok (.iload_n 2, 1) := by decide +kernel
theorem dX9_laysHeard_5 : decode cX9_laysHeard 5 = .ok (.aload_n 0, 1) := by decide +kernel
theorem dX9_laysHeard_6 : decode cX9_laysHeard 6 = .ok (.getfield 105, 3) := by decide +kernel
theorem dX9_laysHeard_9 : decode cX9_laysHeard 9 = .ok (.iload_n 1, 1) := by decide +kernel
theorem dX9_laysHeard_10 : decode cX9_laysHeard 10 = .ok (.iaload, 1) := by decide +kernel
theorem dX9_laysHeard_11 : decode cX9_laysHeard 11 = .ok (.iastore, 1) := by decide +kernel
theorem dX9_laysHeard_12 : decode cX9_laysHeard 12 = .ok (.iconst 0, 1) := by decide +kernel
theorem dX9_laysHeard_13 : decode cX9_laysHeard 13 = .ok (.istore_n 3, 1) := by decide +kernel
theorem dX9_laysHeard_14 : decode cX9_laysHeard 14 = .ok (.iload_n 3, 1) := by decide +kernel
theorem dX9_laysHeard_15 : decode cX9_laysHeard 15 = .ok (.bipush 8, 2) := by decide +kernel
theorem dX9_laysHeard_17 : decode cX9_laysHeard 17 = .ok (.if_icmp .ge 53, 3) := by decide +kernel
theorem dX9_laysHeard_20 : decode cX9_laysHeard 20 = .ok (.aload_n 0, 1) := by decide +kernel
theorem dX9_laysHeard_21 : decode cX9_laysHeard 21 = .ok (.getfield 108, 3) := by decide +kernel
theorem dX9_laysHeard_24 : decode cX9_laysHeard 24 = .ok (.bipush 8, 2) := by decide +kernel
theorem dX9_laysHeard_26 : decode cX9_laysHeard 26 = .ok (.iload_n 2, 1) := by decide +kernel
theorem dX9_laysHeard_27 : decode cX9_laysHeard 27 = .ok (.imul, 1) := by decide +kernel
theorem dX9_laysHeard_28 : decode cX9_laysHeard 28 = .ok (.iload_n 3, 1) := by decide +kernel
theorem dX9_laysHeard_29 : decode cX9_laysHeard 29 = .ok (.iadd, 1) := by decide +kernel
theorem dX9_laysHeard_30 : decode cX9_laysHeard 30 = .ok (.aload_n 0, 1) := by decide +kernel
theorem dX9_laysHeard_31 : decode cX9_laysHeard 31 = .ok (.getfield 108, 3) := by decide +kernel
theorem dX9_laysHeard_34 : decode cX9_laysHeard 34 = .ok (.bipush 8, 2) := by decide +kernel
theorem dX9_laysHeard_36 : decode cX9_laysHeard 36 = .ok (.iload_n 1, 1) := by decide +kernel
theorem dX9_laysHeard_37 : decode cX9_laysHeard 37 = .ok (.imul, 1) := by decide +kernel
theorem dX9_laysHeard_38 : decode cX9_laysHeard 38 = .ok (.iload_n 3, 1) := by decide +kernel
theorem dX9_laysHeard_39 : decode cX9_laysHeard 39 = .ok (.iadd, 1) := by decide +kernel
theorem dX9_laysHeard_40 : decode cX9_laysHeard 40 = .ok (.iaload, 1) := by decide +kernel
theorem dX9_laysHeard_41 : decode cX9_laysHeard 41 = .ok (.iastore, 1) := by decide +kernel
theorem dX9_laysHeard_42 : decode cX9_laysHeard 42 = .ok (.aload_n 0, 1) := by decide +kernel
theorem dX9_laysHeard_43 : decode cX9_laysHeard 43 = .ok (.getfield 111, 3) := by decide +kernel
theorem dX9_laysHeard_46 : decode cX9_laysHeard 46 = .ok (.bipush 8, 2) := by decide +kernel
theorem dX9_laysHeard_48 : decode cX9_laysHeard 48 = .ok (.iload_n 2, 1) := by decide +kernel
theorem dX9_laysHeard_49 : decode cX9_laysHeard 49 = .ok (.imul, 1) := by decide +kernel
theorem dX9_laysHeard_50 : decode cX9_laysHeard 50 = .ok (.iload_n 3, 1) := by decide +kernel
theorem dX9_laysHeard_51 : decode cX9_laysHeard 51 = .ok (.iadd, 1) := by decide +kernel
theorem dX9_laysHeard_52 : decode cX9_laysHeard 52 = .ok (.aload_n 0, 1) := by decide +kernel
theorem dX9_laysHeard_53 : decode cX9_laysHeard 53 = .ok (.getfield 111, 3) := by decide +kernel
theorem dX9_laysHeard_56 : decode cX9_laysHeard 56 = .ok (.bipush 8, 2) := by decide +kernel
theorem dX9_laysHeard_58 : decode cX9_laysHeard 58 = .ok (.iload_n 1, 1) := by decide +kernel
theorem dX9_laysHeard_59 : decode cX9_laysHeard 59 = .ok (.imul, 1) := by decide +kernel
theorem dX9_laysHeard_60 : decode cX9_laysHeard 60 = .ok (.iload_n 3, 1) := by decide +kernel
theorem dX9_laysHeard_61 : decode cX9_laysHeard 61 = .ok (.iadd, 1) := by decide +kernel
theorem dX9_laysHeard_62 : decode cX9_laysHeard 62 = .ok (.baload, 1) := by decide +kernel
theorem dX9_laysHeard_63 : decode cX9_laysHeard 63 = .ok (.bastore, 1) := by decide +kernel
theorem dX9_laysHeard_64 : decode cX9_laysHeard 64 = .ok (.iinc 3 1, 3) := by decide +kernel
theorem dX9_laysHeard_67 : decode cX9_laysHeard 67 = .ok (.goto (-53), 3) := by decide +kernel
theorem dX9_laysHeard_70 : decode cX9_laysHeard 70 = .ok (.return_, 1) := by decide +kernel
theorem dX9_fresh0_0 : decode cX9_fresh0 0 = .ok (.iconst 0, 1) := by decide +kernel
theorem dX9_fresh0_1 : decode cX9_fresh0 1 = .ok (.istore_n 1, 1) := by decide +kernel
theorem dX9_fresh0_2 : decode cX9_fresh0 2 = .ok (.iload_n 1, 1) := by decide +kernel
theorem dX9_fresh0_3 : decode cX9_fresh0 3 = .ok (.bipush 13, 2) := by decide +kernel
theorem dX9_fresh0_5 : decode cX9_fresh0 5 = .ok (.if_icmp .ge 16, 3) := by decide +kernel
theorem dX9_fresh0_8 : decode cX9_fresh0 8 = .ok (.aload_n 0, 1) := by decide +kernel
theorem dX9_fresh0_9 : decode cX9_fresh0 9 = .ok (.getfield 114, 3) := by decide +kernel
theorem dX9_fresh0_12 : decode cX9_fresh0 12 = .ok (.iload_n 1, 1) := by decide +kernel
theorem dX9_fresh0_13 : decode cX9_fresh0 13 = .ok (.iconst 0, 1) := by decide +kernel
theorem dX9_fresh0_14 : decode cX9_fresh0 14 = .ok (.iastore, 1) := by decide +kernel
theorem dX9_fresh0_15 : decode cX9_fresh0 15 = .ok (.iinc 1 1, 3) := by decide +kernel
theorem dX9_fresh0_18 : decode cX9_fresh0 18 = .ok (.goto (-16), 3) := by decide +kernel
theorem dX9_fresh0_21 : decode cX9_fresh0 21 = .ok (.iconst 0, 1) := by decide +kernel
theorem dX9_fresh0_22 : decode cX9_fresh0 22 = .ok (.istore_n 1, 1) := by decide +kernel
theorem dX9_fresh0_23 : decode cX9_fresh0 23 = .ok (.iload_n 1, 1) := by decide +kernel
theorem dX9_fresh0_24 : decode cX9_fresh0 24 = .ok (.aload_n 0, 1) := by decide +kernel
theorem dX9_fresh0_25 : decode cX9_fresh0 25 = .ok (.getfield 13, 3) := by decide +kernel
theorem dX9_fresh0_28 : decode cX9_fresh0 28 = .ok (.iconst 0, 1) := by decide +kernel
theorem dX9_fresh0_29 : decode cX9_fresh0 29 = .ok (.iaload, 1) := by decide +kernel
theorem dX9_fresh0_30 : decode cX9_fresh0 30 = .ok (.if_icmp .ge 23, 3) := by decide +kernel
theorem dX9_fresh0_33 : decode cX9_fresh0 33 = .ok (.aload_n 0, 1) := by decide +kernel
theorem dX9_fresh0_34 : decode cX9_fresh0 34 = .ok (.getfield 114, 3) := by decide +kernel
theorem dX9_fresh0_37 : decode cX9_fresh0 37 = .ok (.iconst 3, 1) := by decide +kernel
theorem dX9_fresh0_38 : decode cX9_fresh0 38 = .ok (.iload_n 1, 1) := by decide +kernel
theorem dX9_fresh0_39 : decode cX9_fresh0 39 = .ok (.iadd, 1) := by decide +kernel
theorem dX9_fresh0_40 : decode cX9_fresh0 40 = .ok (.aload_n 0, 1) := by decide +kernel
theorem dX9_fresh0_41 : decode cX9_fresh0 41 = .ok (.getfield 26, 3) := by decide +kernel
theorem dX9_fresh0_44 : decode cX9_fresh0 44 = .ok (.iload_n 1, 1) := by decide +kernel
theorem dX9_fresh0_45 : decode cX9_fresh0 45 = .ok (.iaload, 1) := by decide +kernel
theorem dX9_fresh0_46 : decode cX9_fresh0 46 = .ok (.iastore, 1) := by decide +kernel
theorem dX9_fresh0_47 : decode cX9_fresh0 47 = .ok (.iinc 1 1, 3) := by decide +kernel
theorem dX9_fresh0_50 : decode cX9_fresh0 50 = .ok (.goto (-27), 3) := by decide +kernel
theorem dX9_fresh0_53 : decode cX9_fresh0 53 = .ok (.return_, 1) := by decide +kernel
theorem dX9_terrace_0 : decode cX9_terrace 0 = .ok (.aload_n 0, 1) := by decide +kernel
theorem dX9_terrace_1 : decode cX9_terrace 1 = .ok (.iconst 0, 1) := by decide +kernel
theorem dX9_terrace_2 : decode cX9_terrace 2 = .ok (.putfield 142, 3) := by decide +kernel
theorem dX9_terrace_5 : decode cX9_terrace 5 = .ok (.aload_n 0, 1) := by decide +kernel
theorem dX9_terrace_6 : decode cX9_terrace 6 = .ok (.invokevirtual 345, 3) := by decide +kernel
theorem dX9_terrace_9 : decode cX9_terrace 9 = .ok (.ifCond .ne 8, 3) := by decide +kernel
theorem dX9_terrace_12 : decode cX9_terrace 12 = .ok (.aload_n 0, 1) := by decide +kernel
theorem dX9_terrace_13 : decode cX9_terrace 13 = .ok (.getfield 178, 3) := by decide +kernel
theorem dX9_terrace_16 : decode cX9_terrace 16 = .ok (.ireturn, 1) := by decide +kernel
theorem dX9_terrace_17 : decode cX9_terrace 17 = .ok (.aload_n 0, 1) := by decide +kernel
theorem dX9_terrace_18 : decode cX9_terrace 18 = .ok (.invokevirtual 348, 3) := by decide +kernel
theorem dX9_terrace_21 : decode cX9_terrace 21 = .ok (.aload_n 0, 1) := by decide +kernel
theorem dX9_terrace_22 : decode cX9_terrace 22 = .ok (.invokevirtual 351, 3) := by decide +kernel
theorem dX9_terrace_25 : decode cX9_terrace 25 = .ok (.aload_n 0, 1) := by decide +kernel
theorem dX9_terrace_26 : decode cX9_terrace 26 = .ok (.getfield 93, 3) := by decide +kernel
theorem dX9_terrace_29 : decode cX9_terrace 29 = .ok (.iconst 0, 1) := by decide +kernel
theorem dX9_terrace_30 : decode cX9_terrace 30 = .ok (.iconst 0, 1) := by decide +kernel
theorem dX9_terrace_31 : decode cX9_terrace 31 = .ok (.iastore, 1) := by decide +kernel
theorem dX9_terrace_32 : decode cX9_terrace 32 = .ok (.aload_n 0, 1) := by decide +kernel
theorem dX9_terrace_33 : decode cX9_terrace 33 = .ok (.getfield 105, 3) := by decide +kernel
theorem dX9_terrace_36 : decode cX9_terrace 36 = .ok (.iconst 0, 1) := by decide +kernel
theorem dX9_terrace_37 : decode cX9_terrace 37 = .ok (.iconst 0, 1) := by decide +kernel
theorem dX9_terrace_38 : decode cX9_terrace 38 = .ok (.iastore, 1) := by decide +kernel
theorem dX9_terrace_39 : decode cX9_terrace 39 = .ok (.aload_n 0, 1) := by decide +kernel
theorem dX9_terrace_40 : decode cX9_terrace 40 = .ok (.iconst 0, 1) := by decide +kernel
theorem dX9_terrace_41 : decode cX9_terrace 41 = .ok (.putfield 354, 3) := by decide +kernel
theorem dX9_terrace_44 : decode cX9_terrace 44 = .ok (.iconst 0, 1) := by decide +kernel
theorem dX9_terrace_45 : decode cX9_terrace 45 = .ok (.istore_n 1, 1) := by decide +kernel
theorem dX9_terrace_46 : decode cX9_terrace 46 = .ok (.iload_n 1, 1) := by decide +kernel
theorem dX9_terrace_47 : decode cX9_terrace 47 = .ok (.iconst 4, 1) := by decide +kernel
theorem dX9_terrace_48 : decode cX9_terrace 48 = .ok (.if_icmp .ge 16, 3) := by decide +kernel
theorem dX9_terrace_51 : decode cX9_terrace 51 = .ok (.aload_n 0, 1) := by decide +kernel
theorem dX9_terrace_52 : decode cX9_terrace 52 = .ok (.getfield 129, 3) := by decide +kernel
theorem dX9_terrace_55 : decode cX9_terrace 55 = .ok (.iload_n 1, 1) := by decide +kernel
theorem dX9_terrace_56 : decode cX9_terrace 56 = .ok (.iconst 0, 1) := by decide +kernel
theorem dX9_terrace_57 : decode cX9_terrace 57 = .ok (.bastore, 1) := by decide +kernel
theorem dX9_terrace_58 : decode cX9_terrace 58 = .ok (.iinc 1 1, 3) := by decide +kernel
theorem dX9_terrace_61 : decode cX9_terrace 61 = .ok (.goto (-15), 3) := by decide +kernel
theorem dX9_terrace_64 : decode cX9_terrace 64 = .ok (.iconst 0, 1) := by decide +kernel
theorem dX9_terrace_65 : decode cX9_terrace 65 = .ok (.ireturn, 1) := by decide +kernel
theorem dX9_winter_0 : decode cX9_winter 0 = .ok (.aload_n 0, 1) := by decide +kernel
theorem dX9_winter_1 : decode cX9_winter 1 = .ok (.iconst 0, 1) := by decide +kernel
theorem dX9_winter_2 : decode cX9_winter 2 = .ok (.putfield 142, 3) := by decide +kernel
theorem dX9_winter_5 : decode cX9_winter 5 = .ok (.aload_n 0, 1) := by decide +kernel
theorem dX9_winter_6 : decode cX9_winter 6 = .ok (.getfield 93, 3) := by decide +kernel
theorem dX9_winter_9 : decode cX9_winter 9 = .ok (.iconst 5, 1) := by decide +kernel
theorem dX9_winter_10 : decode cX9_winter 10 = .ok (.iconst 0, 1) := by decide +kernel
theorem dX9_winter_11 : decode cX9_winter 11 = .ok (.iastore, 1) := by decide +kernel
theorem dX9_winter_12 : decode cX9_winter 12 = .ok (.aload_n 0, 1) := by decide +kernel
theorem dX9_winter_13 : decode cX9_winter 13 = .ok (.invokevirtual 310, 3) := by decide +kernel
theorem dX9_winter_16 : decode cX9_winter 16 = .ok (.aload_n 0, 1) := by decide +kernel
theorem dX9_winter_17 : decode cX9_winter 17 = .ok (.getfield 167, 3) := by decide +kernel
theorem dX9_winter_20 : decode cX9_winter 20 = .ok (.ifCond .eq 15, 3) := by decide +kernel
theorem dX9_winter_23 : decode cX9_winter 23 = .ok (.aload_n 0, 1) := by decide +kernel
theorem dX9_winter_24 : decode cX9_winter 24 = .ok (.invokevirtual 357, 3) := by decide +kernel
theorem dX9_winter_27 : decode cX9_winter 27 = .ok (.ifCond .ne (-11), 3) := by decide +kernel
theorem dX9_winter_30 : decode cX9_winter 30 = .ok (.aload_n 0, 1) := by decide +kernel
theorem dX9_winter_31 : decode cX9_winter 31 = .ok (.getfield 178, 3) := by decide +kernel
theorem dX9_winter_34 : decode cX9_winter 34 = .ok (.ireturn, 1) := by decide +kernel
theorem dX9_winter_35 : decode cX9_winter 35 = .ok (.aload_n 0, 1) := by decide +kernel
theorem dX9_winter_36 : decode cX9_winter 36 = .ok (.iconst 5, 1) := by decide +kernel
theorem dX9_winter_37 : decode cX9_winter 37 = .ok (.iconst 0, 1) := by decide +kernel
theorem dX9_winter_38 : decode cX9_winter 38 = .ok (.invokevirtual 360, 3) := by decide +kernel
theorem dX9_winter_41 : decode cX9_winter 41 = .ok (.iconst 0, 1) := by decide +kernel
theorem dX9_winter_42 : decode cX9_winter 42 = .ok (.ireturn, 1) := by decide +kernel
theorem dX9_isHole_0 : decode cX9_isHole 0 = .ok (.iload_n 1, 1) := by decide +kernel
theorem dX9_isHole_1 : decode cX9_isHole 1 = .ok (.ifCond .lt 17, 3) := by decide +kernel
theorem dX9_isHole_4 : decode cX9_isHole 4 = .ok (.iload_n 1, 1) := by decide +kernel
theorem dX9_isHole_5 : decode cX9_isHole 5 = .ok (.aload_n 0, 1) := by decide +kernel
theorem dX9_isHole_6 : decode cX9_isHole 6 = .ok (.getfield 13, 3) := by decide +kernel
theorem dX9_isHole_9 : decode cX9_isHole 9 = .ok (.iconst 0, 1) := by decide +kernel
theorem dX9_isHole_10 : decode cX9_isHole 10 = .ok (.iaload, 1) := by decide +kernel
theorem dX9_isHole_11 : decode cX9_isHole 11 = .ok (.if_icmp .ge 7, 3) := by decide +kernel
theorem dX9_isHole_14 : decode cX9_isHole 14 = .ok (.iconst 1, 1) := by decide +kernel
theorem dX9_isHole_15 : decode cX9_isHole 15 = .ok (.goto 4, 3) := by decide +kernel
theorem dX9_isHole_18 : decode cX9_isHole 18 = .ok (.iconst 0, 1) := by decide +kernel
theorem dX9_isHole_19 : decode cX9_isHole 19 = .ok (.ireturn, 1) := by decide +kernel
theorem dX9_isGuest_0 : decode cX9_isGuest 0 = .ok (.iload_n 1, 1) := by decide +kernel
theorem dX9_isGuest_1 : decode cX9_isGuest 1 = .ok (.ifCond .lt 17, 3) := by decide +kernel
theorem dX9_isGuest_4 : decode cX9_isGuest 4 = .ok (.iload_n 1, 1) := by decide +kernel
theorem dX9_isGuest_5 : decode cX9_isGuest 5 = .ok (.aload_n 0, 1) := by decide +kernel
theorem dX9_isGuest_6 : decode cX9_isGuest 6 = .ok (.getfield 13, 3) := by decide +kernel
theorem dX9_isGuest_9 : decode cX9_isGuest 9 = .ok (.iconst 1, 1) := by decide +kernel
theorem dX9_isGuest_10 : decode cX9_isGuest 10 = .ok (.iaload, 1) := by decide +kernel
theorem dX9_isGuest_11 : decode cX9_isGuest 11 = .ok (.if_icmp .ge 7, 3) := by decide +kernel
theorem dX9_isGuest_14 : decode cX9_isGuest 14 = .ok (.iconst 1, 1) := by decide +kernel
theorem dX9_isGuest_15 : decode cX9_isGuest 15 = .ok (.goto 4, 3) := by decide +kernel
theorem dX9_isGuest_18 : decode cX9_isGuest 18 = .ok (.iconst 0, 1) := by decide +kernel
theorem dX9_isGuest_19 : decode cX9_isGuest 19 = .ok (.ireturn, 1) := by decide +kernel
theorem dX9_isSeized_0 : decode cX9_isSeized 0 = .ok (.aload_n 0, 1) := by decide +kernel
theorem dX9_isSeized_1 : decode cX9_isSeized 1 = .ok (.getfield 114, 3) := by decide +kernel
theorem dX9_isSeized_4 : decode cX9_isSeized 4 = .ok (.iconst 1, 1) := by decide +kernel
theorem dX9_isSeized_5 : decode cX9_isSeized 5 = .ok (.iaload, 1) := by decide +kernel
theorem dX9_isSeized_6 : decode cX9_isSeized 6 = .ok (.iload_n 1, 1) := by decide +kernel
theorem dX9_isSeized_7 : decode cX9_isSeized 7 = .ok (.ishr, 1) := by decide +kernel
theorem dX9_isSeized_8 : decode cX9_isSeized 8 = .ok (.iconst 1, 1) := by decide +kernel
theorem dX9_isSeized_9 : decode cX9_isSeized 9 = .ok (.iand, 1) := by decide +kernel
theorem dX9_isSeized_10 : decode cX9_isSeized 10 = .ok (.iconst 1, 1) := by decide +kernel
theorem dX9_isSeized_11 : decode cX9_isSeized 11 = .ok (.if_icmp .ne 7, 3) := by decide +kernel
theorem dX9_isSeized_14 : decode cX9_isSeized 14 = .ok (.iconst 1, 1) := by decide +kernel
theorem dX9_isSeized_15 : decode cX9_isSeized 15 = .ok (.goto 4, 3) := by decide +kernel
theorem dX9_isSeized_18 : decode cX9_isSeized 18 = .ok (.iconst 0, 1) := by decide +kernel
theorem dX9_isSeized_19 : decode cX9_isSeized 19 = .ok (.ireturn, 1) := by decide +kernel
theorem dX9_isOutside_0 : decode cX9_isOutside 0 = .ok (.aload_n 0, 1) := by decide +kernel
theorem dX9_isOutside_1 : decode cX9_isOutside 1 = .ok (.getfield 114, 3) := by decide +kernel
theorem dX9_isOutside_4 : decode cX9_isOutside 4 = .ok (.bipush 8, 2) := by decide +kernel
theorem dX9_isOutside_6 : decode cX9_isOutside 6 = .ok (.iload_n 1, 1) := by decide +kernel
theorem dX9_isOutside_7 : decode cX9_isOutside 7 = .ok (.iadd, 1) := by decide +kernel
theorem dX9_isOutside_8 : decode cX9_isOutside 8 = .ok (.iaload, 1) := by decide +kernel
theorem dX9_isOutside_9 : decode cX9_isOutside 9 = .ok (.ifCond .ne 15, 3) := by decide +kernel
theorem dX9_isOutside_12 : decode cX9_isOutside 12 = .ok (.aload_n 0, 1) := by decide +kernel
theorem dX9_isOutside_13 : decode cX9_isOutside 13 = .ok (.iload_n 1, 1) := by decide +kernel
theorem dX9_isOutside_14 : decode cX9_isOutside 14 = .ok (.invokevirtual 364, 3) := by decide +kernel
theorem dX9_isOutside_17 : decode cX9_isOutside 17 = .ok (.ifCond .ne 7, 3) := by decide +kernel
theorem dX9_isOutside_20 : decode cX9_isOutside 20 = .ok (.iconst 1, 1) := by decide +kernel
theorem dX9_isOutside_21 : decode cX9_isOutside 21 = .ok (.goto 4, 3) := by decide +kernel
theorem dX9_isOutside_24 : decode cX9_isOutside 24 = .ok (.iconst 0, 1) := by decide +kernel
theorem dX9_isOutside_25 : decode cX9_isOutside 25 = .ok (.ireturn, 1) := by decide +kernel
theorem dX9_outsiders_0 : decode cX9_outsiders 0 = .ok (.iconst 0, 1) := by decide +kernel
theorem dX9_outsiders_1 : decode cX9_outsiders 1 = .ok (.istore_n 1, 1) := by decide +kernel
theorem dX9_outsiders_2 : decode cX9_outsiders 2 = .ok (.iconst 0, 1) := by decide +kernel
theorem dX9_outsiders_3 : decode cX9_outsiders 3 = .ok (.istore_n 2, 1) := by decide +kernel
theorem dX9_outsiders_4 : decode cX9_outsiders 4 = .ok (.iload_n 2, 1) := by decide +kernel
theorem dX9_outsiders_5 : decode cX9_outsiders 5 = .ok (.aload_n 0, 1) := by decide +kernel
theorem dX9_outsiders_6 : decode cX9_outsiders 6 = .ok (.getfield 13, 3) := by decide +kernel
theorem dX9_outsiders_9 : decode cX9_outsiders 9 = .ok (.iconst 1, 1) := by decide +kernel
theorem dX9_outsiders_10 : decode cX9_outsiders 10 = .ok (.iaload, 1) := by decide +kernel
theorem dX9_outsiders_11 : decode cX9_outsiders 11 = .ok (.if_icmp .ge 27, 3) := by decide +kernel
theorem dX9_outsiders_14 : decode cX9_outsiders 14 = .ok (.iload_n 1, 1) := by decide +kernel
theorem dX9_outsiders_15 : decode cX9_outsiders 15 = .ok (.aload_n 0, 1) := by decide +kernel
theorem dX9_outsiders_16 : decode cX9_outsiders 16 = .ok (.iload_n 2, 1) := by decide +kernel
theorem dX9_outsiders_17 : decode cX9_outsiders 17 = .ok (.invokevirtual 367, 3) := by decide +kernel
theorem dX9_outsiders_20 : decode cX9_outsiders 20 = .ok (.ifCond .eq 9, 3) := by decide +kernel
theorem dX9_outsiders_23 : decode cX9_outsiders 23 = .ok (.iconst 1, 1) := by decide +kernel
theorem dX9_outsiders_24 : decode cX9_outsiders 24 = .ok (.iload_n 2, 1) := by decide +kernel
theorem dX9_outsiders_25 : decode cX9_outsiders 25 = .ok (.ishl, 1) := by decide +kernel
theorem dX9_outsiders_26 : decode cX9_outsiders 26 = .ok (.goto 4, 3) := by decide +kernel
theorem dX9_outsiders_29 : decode cX9_outsiders 29 = .ok (.iconst 0, 1) := by decide +kernel
theorem dX9_outsiders_30 : decode cX9_outsiders 30 = .ok (.ior, 1) := by decide +kernel
theorem dX9_outsiders_31 : decode cX9_outsiders 31 = .ok (.istore_n 1, 1) := by decide +kernel
theorem dX9_outsiders_32 : decode cX9_outsiders 32 = .ok (.iinc 2 1, 3) := by decide +kernel
theorem dX9_outsiders_35 : decode cX9_outsiders 35 = .ok (.goto (-31), 3) := by decide +kernel
theorem dX9_outsiders_38 : decode cX9_outsiders 38 = .ok (.iload_n 1, 1) := by decide +kernel
theorem dX9_outsiders_39 : decode cX9_outsiders 39 = .ok (.ireturn, 1) := by decide +kernel
theorem dX9_insideOf_0 : decode cX9_insideOf 0 = .ok (.iconst 0, 1) := by decide +kernel
theorem dX9_insideOf_1 : decode cX9_insideOf 1 = .ok (.istore_n 2, 1) := by decide +kernel
theorem dX9_insideOf_2 : decode cX9_insideOf 2 = .ok (.iconst 0, 1) := by decide +kernel
theorem dX9_insideOf_3 : decode cX9_insideOf 3 = .ok (.istore_n 3, 1) := by decide +kernel
theorem dX9_insideOf_4 : decode cX9_insideOf 4 = .ok (.iload_n 3, 1) := by decide +kernel
theorem dX9_insideOf_5 : decode cX9_insideOf 5 = .ok (.aload_n 0, 1) := by decide +kernel
theorem dX9_insideOf_6 : decode cX9_insideOf 6 = .ok (.getfield 13, 3) := by decide +kernel
theorem dX9_insideOf_9 : decode cX9_insideOf 9 = .ok (.iconst 1, 1) := by decide +kernel
theorem dX9_insideOf_10 : decode cX9_insideOf 10 = .ok (.iaload, 1) := by decide +kernel
theorem dX9_insideOf_11 : decode cX9_insideOf 11 = .ok (.if_icmp .ge 34, 3) := by decide +kernel
theorem dX9_insideOf_14 : decode cX9_insideOf 14 = .ok (.iload_n 2, 1) := by decide +kernel
theorem dX9_insideOf_15 : decode cX9_insideOf 15 = .ok (.aload_n 0, 1) := by decide +kernel
theorem dX9_insideOf_16 : decode cX9_insideOf 16 = .ok (.getfield 114, 3) := by decide +kernel
theorem dX9_insideOf_19 : decode cX9_insideOf 19 = .ok (.bipush 8, 2) := by decide +kernel
theorem dX9_insideOf_21 : decode cX9_insideOf 21 = .ok (.iload_n 3, 1) := by decide +kernel
theorem dX9_insideOf_22 : decode cX9_insideOf 22 = .ok (.iadd, 1) := by decide +kernel
theorem dX9_insideOf_23 : decode cX9_insideOf 23 = .ok (.iaload, 1) := by decide +kernel
theorem dX9_insideOf_24 : decode cX9_insideOf 24 = .ok (.iload_n 1, 1) := by decide +kernel
theorem dX9_insideOf_25 : decode cX9_insideOf 25 = .ok (.iconst 1, 1) := by decide +kernel
theorem dX9_insideOf_26 : decode cX9_insideOf 26 = .ok (.iadd, 1) := by decide +kernel
theorem dX9_insideOf_27 : decode cX9_insideOf 27 = .ok (.if_icmp .ne 9, 3) := by decide +kernel
theorem dX9_insideOf_30 : decode cX9_insideOf 30 = .ok (.iconst 1, 1) := by decide +kernel
theorem dX9_insideOf_31 : decode cX9_insideOf 31 = .ok (.iload_n 3, 1) := by decide +kernel
theorem dX9_insideOf_32 : decode cX9_insideOf 32 = .ok (.ishl, 1) := by decide +kernel
theorem dX9_insideOf_33 : decode cX9_insideOf 33 = .ok (.goto 4, 3) := by decide +kernel
theorem dX9_insideOf_36 : decode cX9_insideOf 36 = .ok (.iconst 0, 1) := by decide +kernel
theorem dX9_insideOf_37 : decode cX9_insideOf 37 = .ok (.ior, 1) := by decide +kernel
theorem dX9_insideOf_38 : decode cX9_insideOf 38 = .ok (.istore_n 2, 1) := by decide +kernel
theorem dX9_insideOf_39 : decode cX9_insideOf 39 = .ok (.iinc 3 1, 3) := by decide +kernel
theorem dX9_insideOf_42 : decode cX9_insideOf 42 = .ok (.goto (-38), 3) := by decide +kernel
theorem dX9_insideOf_45 : decode cX9_insideOf 45 = .ok (.iload_n 2, 1) := by decide +kernel
theorem dX9_insideOf_46 : decode cX9_insideOf 46 = .ok (.ireturn, 1) := by decide +kernel
theorem dX9_areAtWar_0 : decode cX9_areAtWar 0 = .ok (.aload_n 0, 1) := by decide +kernel
theorem dX9_areAtWar_1 : decode cX9_areAtWar 1 = .ok (.getfield 41, 3) := by decide +kernel
theorem dX9_areAtWar_4 : decode cX9_areAtWar 4 = .ok (.aload_n 0, 1) := by decide +kernel
theorem dX9_areAtWar_5 : decode cX9_areAtWar 5 = .ok (.getfield 38, 3) := by decide +kernel
theorem dX9_areAtWar_8 : decode cX9_areAtWar 8 = .ok (.iload_n 1, 1) := by decide +kernel
theorem dX9_areAtWar_9 : decode cX9_areAtWar 9 = .ok (.iaload, 1) := by decide +kernel
theorem dX9_areAtWar_10 : decode cX9_areAtWar 10 = .ok (.iaload, 1) := by decide +kernel
theorem dX9_areAtWar_11 : decode cX9_areAtWar 11 = .ok (.aload_n 0, 1) := by decide +kernel
theorem dX9_areAtWar_12 : decode cX9_areAtWar 12 = .ok (.getfield 38, 3) := by decide +kernel
theorem dX9_areAtWar_15 : decode cX9_areAtWar 15 = .ok (.iload_n 2, 1) := by decide +kernel
theorem dX9_areAtWar_16 : decode cX9_areAtWar 16 = .ok (.iaload, 1) := by decide +kernel
theorem dX9_areAtWar_17 : decode cX9_areAtWar 17 = .ok (.ishr, 1) := by decide +kernel
theorem dX9_areAtWar_18 : decode cX9_areAtWar 18 = .ok (.iconst 1, 1) := by decide +kernel
theorem dX9_areAtWar_19 : decode cX9_areAtWar 19 = .ok (.iand, 1) := by decide +kernel
theorem dX9_areAtWar_20 : decode cX9_areAtWar 20 = .ok (.iconst 1, 1) := by decide +kernel
theorem dX9_areAtWar_21 : decode cX9_areAtWar 21 = .ok (.if_icmp .ne 7, 3) := by decide +kernel
theorem dX9_areAtWar_24 : decode cX9_areAtWar 24 = .ok (.iconst 1, 1) := by decide +kernel
theorem dX9_areAtWar_25 : decode cX9_areAtWar 25 = .ok (.goto 4, 3) := by decide +kernel
theorem dX9_areAtWar_28 : decode cX9_areAtWar 28 = .ok (.iconst 0, 1) := by decide +kernel
theorem dX9_areAtWar_29 : decode cX9_areAtWar 29 = .ok (.ireturn, 1) := by decide +kernel
theorem dX9_foesIn_0 : decode cX9_foesIn 0 = .ok (.iconst 0, 1) := by decide +kernel
theorem dX9_foesIn_1 : decode cX9_foesIn 1 = .ok (.istore_n 3, 1) := by decide +kernel
theorem dX9_foesIn_2 : decode cX9_foesIn 2 = .ok (.iconst 0, 1) := by decide +kernel
theorem dX9_foesIn_3 : decode cX9_foesIn 3 = .ok (.istore 4, 2) := by decide +kernel
theorem dX9_foesIn_5 : decode cX9_foesIn 5 = .ok (.iload 4, 2) := by decide +kernel
theorem dX9_foesIn_7 : decode cX9_foesIn 7 = .ok (.aload_n 0, 1) := by decide +kernel
theorem dX9_foesIn_8 : decode cX9_foesIn 8 = .ok (.getfield 13, 3) := by decide +kernel
theorem dX9_foesIn_11 : decode cX9_foesIn 11 = .ok (.iconst 1, 1) := by decide +kernel
theorem dX9_foesIn_12 : decode cX9_foesIn 12 = .ok (.iaload, 1) := by decide +kernel
theorem dX9_foesIn_13 : decode cX9_foesIn 13 = .ok (.if_icmp .ge 40, 3) := by decide +kernel
theorem dX9_foesIn_16 : decode cX9_foesIn 16 = .ok (.iload_n 3, 1) := by decide +kernel
theorem dX9_foesIn_17 : decode cX9_foesIn 17 = .ok (.iload_n 2, 1) := by decide +kernel
theorem dX9_foesIn_18 : decode cX9_foesIn 18 = .ok (.iload 4, 2) := by decide +kernel
theorem dX9_foesIn_20 : decode cX9_foesIn 20 = .ok (.ishr, 1) := by decide +kernel
theorem dX9_foesIn_21 : decode cX9_foesIn 21 = .ok (.iconst 1, 1) := by decide +kernel
theorem dX9_foesIn_22 : decode cX9_foesIn 22 = .ok (.iand, 1) := by decide +kernel
theorem dX9_foesIn_23 : decode cX9_foesIn 23 = .ok (.iconst 1, 1) := by decide +kernel
theorem dX9_foesIn_24 : decode cX9_foesIn 24 = .ok (.if_icmp .ne 20, 3) := by decide +kernel
theorem dX9_foesIn_27 : decode cX9_foesIn 27 = .ok (.aload_n 0, 1) := by decide +kernel
theorem dX9_foesIn_28 : decode cX9_foesIn 28 = .ok (.iload_n 1, 1) := by decide +kernel
theorem dX9_foesIn_29 : decode cX9_foesIn 29 = .ok (.iload 4, 2) := by decide +kernel
theorem dX9_foesIn_31 : decode cX9_foesIn 31 = .ok (.invokevirtual 370, 3) := by decide +kernel
theorem dX9_foesIn_34 : decode cX9_foesIn 34 = .ok (.ifCond .eq 10, 3) := by decide +kernel
theorem dX9_foesIn_37 : decode cX9_foesIn 37 = .ok (.iconst 1, 1) := by decide +kernel
theorem dX9_foesIn_38 : decode cX9_foesIn 38 = .ok (.iload 4, 2) := by decide +kernel
theorem dX9_foesIn_40 : decode cX9_foesIn 40 = .ok (.ishl, 1) := by decide +kernel
theorem dX9_foesIn_41 : decode cX9_foesIn 41 = .ok (.goto 4, 3) := by decide +kernel
theorem dX9_foesIn_44 : decode cX9_foesIn 44 = .ok (.iconst 0, 1) := by decide +kernel
theorem dX9_foesIn_45 : decode cX9_foesIn 45 = .ok (.ior, 1) := by decide +kernel
theorem dX9_foesIn_46 : decode cX9_foesIn 46 = .ok (.istore_n 3, 1) := by decide +kernel
theorem dX9_foesIn_47 : decode cX9_foesIn 47 = .ok (.iinc 4 1, 3) := by decide +kernel
theorem dX9_foesIn_50 : decode cX9_foesIn 50 = .ok (.goto (-45), 3) := by decide +kernel
theorem dX9_foesIn_53 : decode cX9_foesIn 53 = .ok (.iload_n 3, 1) := by decide +kernel
theorem dX9_foesIn_54 : decode cX9_foesIn 54 = .ok (.ireturn, 1) := by decide +kernel
theorem dX9_isTakenBy_0 : decode cX9_isTakenBy 0 = .ok (.aload_n 0, 1) := by decide +kernel
theorem dX9_isTakenBy_1 : decode cX9_isTakenBy 1 = .ok (.getfield 35, 3) := by decide +kernel
theorem dX9_isTakenBy_4 : decode cX9_isTakenBy 4 = .ok (.iload_n 2, 1) := by decide +kernel
theorem dX9_isTakenBy_5 : decode cX9_isTakenBy 5 = .ok (.iaload, 1) := by decide +kernel
theorem dX9_isTakenBy_6 : decode cX9_isTakenBy 6 = .ok (.iconst 3, 1) := by decide +kernel
theorem dX9_isTakenBy_7 : decode cX9_isTakenBy 7 = .ok (.if_icmp .ne 5, 3) := by decide +kernel
theorem dX9_isTakenBy_10 : decode cX9_isTakenBy 10 = .ok (.iconst 1, 1) := by decide +kernel
theorem dX9_isTakenBy_11 : decode cX9_isTakenBy 11 = .ok (.ireturn, 1) := by decide +kernel
theorem dX9_isTakenBy_12 : decode cX9_isTakenBy 12 = .ok (.aload_n 0, 1) := by decide +kernel
theorem dX9_isTakenBy_13 : decode cX9_isTakenBy 13 = .ok (.iload_n 1, 1) := by decide +kernel
theorem dX9_isTakenBy_14 : decode cX9_isTakenBy 14 = .ok (.invokevirtual 373, 3) := by decide +kernel
theorem dX9_isTakenBy_17 : decode cX9_isTakenBy 17 = .ok (.istore_n 3, 1) := by decide +kernel
theorem dX9_isTakenBy_18 : decode cX9_isTakenBy 18 = .ok (.aload_n 0, 1) := by decide +kernel
theorem dX9_isTakenBy_19 : decode cX9_isTakenBy 19 = .ok (.getfield 114, 3) := by decide +kernel
theorem dX9_isTakenBy_22 : decode cX9_isTakenBy 22 = .ok (.iconst 3, 1) := by decide +kernel
theorem dX9_isTakenBy_23 : decode cX9_isTakenBy 23 = .ok (.iload_n 1, 1) := by decide +kernel
theorem dX9_isTakenBy_24 : decode cX9_isTakenBy 24 = .ok (.iadd, 1) := by decide +kernel
theorem dX9_isTakenBy_25 : decode cX9_isTakenBy 25 = .ok (.iaload, 1) := by decide +kernel
theorem dX9_isTakenBy_26 : decode cX9_isTakenBy 26 = .ok (.istore 4, 2) := by decide +kernel
theorem dX9_isTakenBy_28 : decode cX9_isTakenBy 28 = .ok (.iload 4, 2) := by decide +kernel
theorem dX9_isTakenBy_30 : decode cX9_isTakenBy 30 = .ok (.ifCond .eq 19, 3) := by decide +kernel
theorem dX9_isTakenBy_33 : decode cX9_isTakenBy 33 = .ok (.iload 4, 2) := by decide +kernel
theorem dX9_isTakenBy_35 : decode cX9_isTakenBy 35 = .ok (.bipush 20, 2) := by decide +kernel
theorem dX9_isTakenBy_37 : decode cX9_isTakenBy 37 = .ok (.if_icmp .ge 14, 3) := by decide +kernel
theorem dX9_isTakenBy_40 : decode cX9_isTakenBy 40 = .ok (.aload_n 0, 1) := by decide +kernel
theorem dX9_isTakenBy_41 : decode cX9_isTakenBy 41 = .ok (.iload_n 2, 1) := by decide +kernel
theorem dX9_isTakenBy_42 : decode cX9_isTakenBy 42 = .ok (.iload_n 3, 1) := by decide +kernel
theorem dX9_isTakenBy_43 : decode cX9_isTakenBy 43 = .ok (.invokevirtual 376, 3) := by decide +kernel
theorem dX9_isTakenBy_46 : decode cX9_isTakenBy 46 = .ok (.ifCond .eq 5, 3) := by decide +kernel
theorem dX9_isTakenBy_49 : decode cX9_isTakenBy 49 = .ok (.iconst 0, 1) := by decide +kernel
theorem dX9_isTakenBy_50 : decode cX9_isTakenBy 50 = .ok (.ireturn, 1) := by decide +kernel
theorem dX9_isTakenBy_51 : decode cX9_isTakenBy 51 = .ok (.aload_n 0, 1) := by decide +kernel
theorem dX9_isTakenBy_52 : decode cX9_isTakenBy 52 = .ok (.getfield 35, 3) := by decide +kernel
theorem dX9_isTakenBy_55 : decode cX9_isTakenBy 55 = .ok (.iload_n 2, 1) := by decide +kernel
theorem dX9_isTakenBy_56 : decode cX9_isTakenBy 56 = .ok (.iaload, 1) := by decide +kernel
theorem dX9_isTakenBy_57 : decode cX9_isTakenBy 57 = .ok (.iconst 2, 1) := by decide +kernel
theorem dX9_isTakenBy_58 : decode cX9_isTakenBy 58 = .ok (.if_icmp .ne 5, 3) := by decide +kernel
theorem dX9_isTakenBy_61 : decode cX9_isTakenBy 61 = .ok (.iconst 1, 1) := by decide +kernel
theorem dX9_isTakenBy_62 : decode cX9_isTakenBy 62 = .ok (.ireturn, 1) := by decide +kernel
theorem dX9_isTakenBy_63 : decode cX9_isTakenBy 63 = .ok (.aload_n 0, 1) := by decide +kernel
theorem dX9_isTakenBy_64 : decode cX9_isTakenBy 64 = .ok (.getfield 50, 3) := by decide +kernel
theorem dX9_isTakenBy_67 : decode cX9_isTakenBy 67 = .ok (.iconst 0, 1) := by decide +kernel
theorem dX9_isTakenBy_68 : decode cX9_isTakenBy 68 = .ok (.iaload, 1) := by decide +kernel
theorem dX9_isTakenBy_69 : decode cX9_isTakenBy 69 = .ok (.aload_n 0, 1) := by decide +kernel
theorem dX9_isTakenBy_70 : decode cX9_isTakenBy 70 = .ok (.getfield 47, 3) := by decide +kernel
theorem dX9_isTakenBy_73 : decode cX9_isTakenBy 73 = .ok (.iconst 0, 1) := by decide +kernel
theorem dX9_isTakenBy_74 : decode cX9_isTakenBy 74 = .ok (.iaload, 1) := by decide +kernel
theorem dX9_isTakenBy_75 : decode cX9_isTakenBy 75 = .ok (.if_icmp .ne 20, 3) := by decide +kernel
theorem dX9_isTakenBy_78 : decode cX9_isTakenBy 78 = .ok (.iload_n 3, 1) := by decide +kernel
theorem dX9_isTakenBy_79 : decode cX9_isTakenBy 79 = .ok (.invokestatic 380, 3) := by decide +kernel
theorem dX9_isTakenBy_82 : decode cX9_isTakenBy 82 = .ok (.iconst 4, 1) := by decide +kernel
theorem dX9_isTakenBy_83 : decode cX9_isTakenBy 83 = .ok (.imul, 1) := by decide +kernel
theorem dX9_isTakenBy_84 : decode cX9_isTakenBy 84 = .ok (.iload 4, 2) := by decide +kernel
theorem dX9_isTakenBy_86 : decode cX9_isTakenBy 86 = .ok (.if_icmp .ge 7, 3) := by decide +kernel
theorem dX9_isTakenBy_89 : decode cX9_isTakenBy 89 = .ok (.iconst 1, 1) := by decide +kernel
theorem dX9_isTakenBy_90 : decode cX9_isTakenBy 90 = .ok (.goto 4, 3) := by decide +kernel
theorem dX9_isTakenBy_93 : decode cX9_isTakenBy 93 = .ok (.iconst 0, 1) := by decide +kernel
theorem dX9_isTakenBy_94 : decode cX9_isTakenBy 94 = .ok (.ireturn, 1) := by decide +kernel
theorem dX9_isTakenBy_95 : decode cX9_isTakenBy 95 = .ok (.aload_n 0, 1) := by decide +kernel
theorem dX9_isTakenBy_96 : decode cX9_isTakenBy 96 = .ok (.getfield 90, 3) := by decide +kernel
theorem dX9_isTakenBy_99 : decode cX9_isTakenBy 99 = .ok (.iconst 1, 1) := by decide +kernel
theorem dX9_isTakenBy_100 : decode cX9_isTakenBy 100 = .ok (.iload 4, 2) := by decide +kernel
theorem dX9_isTakenBy_102 : decode cX9_isTakenBy 102 = .ok (.iastore, 1) := by decide +kernel
theorem dX9_isTakenBy_103 : decode cX9_isTakenBy 103 = .ok (.aload_n 0, 1) := by decide +kernel
theorem dX9_isTakenBy_104 : decode cX9_isTakenBy 104 = .ok (.getfield 90, 3) := by decide +kernel
theorem dX9_isTakenBy_107 : decode cX9_isTakenBy 107 = .ok (.iconst 2, 1) := by decide +kernel
theorem dX9_isTakenBy_108 : decode cX9_isTakenBy 108 = .ok (.iload_n 3, 1) := by decide +kernel
theorem dX9_isTakenBy_109 : decode cX9_isTakenBy 109 = .ok (.invokestatic 380, 3) := by decide +kernel
theorem dX9_isTakenBy_112 : decode cX9_isTakenBy 112 = .ok (.iastore, 1) := by decide +kernel
theorem dX9_isTakenBy_113 : decode cX9_isTakenBy 113 = .ok (.aload_n 0, 1) := by decide +kernel
theorem dX9_isTakenBy_114 : decode cX9_isTakenBy 114 = .ok (.getfield 90, 3) := by decide +kernel
theorem dX9_isTakenBy_117 : decode cX9_isTakenBy 117 = .ok (.iconst 3, 1) := by decide +kernel
theorem dX9_isTakenBy_118 : decode cX9_isTakenBy 118 = .ok (.aload_n 0, 1) := by decide +kernel
theorem dX9_isTakenBy_119 : decode cX9_isTakenBy 119 = .ok (.getfield 38, 3) := by decide +kernel
theorem dX9_isTakenBy_122 : decode cX9_isTakenBy 122 = .ok (.iload_n 2, 1) := by decide +kernel
theorem dX9_isTakenBy_123 : decode cX9_isTakenBy 123 = .ok (.iaload, 1) := by decide +kernel
theorem dX9_isTakenBy_124 : decode cX9_isTakenBy 124 = .ok (.aload_n 0, 1) := by decide +kernel
theorem dX9_isTakenBy_125 : decode cX9_isTakenBy 125 = .ok (.getfield 23, 3) := by decide +kernel
theorem dX9_isTakenBy_128 : decode cX9_isTakenBy 128 = .ok (.iload_n 1, 1) := by decide +kernel
theorem dX9_isTakenBy_129 : decode cX9_isTakenBy 129 = .ok (.iaload, 1) := by decide +kernel
theorem dX9_isTakenBy_130 : decode cX9_isTakenBy 130 = .ok (.if_icmp .ne 7, 3) := by decide +kernel
theorem dX9_isTakenBy_133 : decode cX9_isTakenBy 133 = .ok (.iconst 1, 1) := by decide +kernel
theorem dX9_isTakenBy_134 : decode cX9_isTakenBy 134 = .ok (.goto 4, 3) := by decide +kernel
theorem dX9_isTakenBy_137 : decode cX9_isTakenBy 137 = .ok (.iconst 0, 1) := by decide +kernel
theorem dX9_isTakenBy_138 : decode cX9_isTakenBy 138 = .ok (.iastore, 1) := by decide +kernel
theorem dX9_isTakenBy_139 : decode cX9_isTakenBy 139 = .ok (.aload_n 0, 1) := by decide +kernel
theorem dX9_isTakenBy_140 : decode cX9_isTakenBy 140 = .ok (.getfield 90, 3) := by decide +kernel
theorem dX9_isTakenBy_143 : decode cX9_isTakenBy 143 = .ok (.iconst 4, 1) := by decide +kernel
theorem dX9_isTakenBy_144 : decode cX9_isTakenBy 144 = .ok (.aload_n 0, 1) := by decide +kernel
theorem dX9_isTakenBy_145 : decode cX9_isTakenBy 145 = .ok (.getfield 114, 3) := by decide +kernel
theorem dX9_isTakenBy_148 : decode cX9_isTakenBy 148 = .ok (.iconst 0, 1) := by decide +kernel
theorem dX9_isTakenBy_149 : decode cX9_isTakenBy 149 = .ok (.iaload, 1) := by decide +kernel
theorem dX9_isTakenBy_150 : decode cX9_isTakenBy 150 = .ok (.iastore, 1) := by decide +kernel
theorem dX9_isTakenBy_151 : decode cX9_isTakenBy 151 = .ok (.aload_n 0, 1) := by decide +kernel
theorem dX9_isTakenBy_152 : decode cX9_isTakenBy 152 = .ok (.iconst 0, 1) := by decide +kernel
theorem dX9_isTakenBy_153 : decode cX9_isTakenBy 153 = .ok (.invokevirtual 383, 3) := by decide +kernel
theorem dX9_isTakenBy_156 : decode cX9_isTakenBy 156 = .ok (.ifCond .eq 7, 3) := by decide +kernel
theorem dX9_isTakenBy_159 : decode cX9_isTakenBy 159 = .ok (.iconst 1, 1) := by decide +kernel
theorem dX9_isTakenBy_160 : decode cX9_isTakenBy 160 = .ok (.goto 4, 3) := by decide +kernel
theorem dX9_isTakenBy_163 : decode cX9_isTakenBy 163 = .ok (.iconst 0, 1) := by decide +kernel
theorem dX9_isTakenBy_164 : decode cX9_isTakenBy 164 = .ok (.ireturn, 1) := by decide +kernel
theorem dX9_canDown_0 : decode cX9_canDown 0 = .ok (.aload_n 0, 1) := by decide +kernel
theorem dX9_canDown_1 : decode cX9_canDown 1 = .ok (.iload_n 1, 1) := by decide +kernel
theorem dX9_canDown_2 : decode cX9_canDown 2 = .ok (.invokevirtual 367, 3) := by decide +kernel
theorem dX9_canDown_5 : decode cX9_canDown 5 = .ok (.ifCond .eq 16, 3) := by decide +kernel
theorem dX9_canDown_8 : decode cX9_canDown 8 = .ok (.aload_n 0, 1) := by decide +kernel
theorem dX9_canDown_9 : decode cX9_canDown 9 = .ok (.iload_n 2, 1) := by decide +kernel
theorem dX9_canDown_10 : decode cX9_canDown 10 = .ok (.iload_n 1, 1) := by decide +kernel
theorem dX9_canDown_11 : decode cX9_canDown 11 = .ok (.invokevirtual 386, 3) := by decide +kernel
theorem dX9_canDown_14 : decode cX9_canDown 14 = .ok (.ifCond .eq 7, 3) := by decide +kernel
theorem dX9_canDown_17 : decode cX9_canDown 17 = .ok (.iconst 1, 1) := by decide +kernel
theorem dX9_canDown_18 : decode cX9_canDown 18 = .ok (.goto 4, 3) := by decide +kernel
theorem dX9_canDown_21 : decode cX9_canDown 21 = .ok (.iconst 0, 1) := by decide +kernel
theorem dX9_canDown_22 : decode cX9_canDown 22 = .ok (.ireturn, 1) := by decide +kernel
theorem dX9_canCross_0 : decode cX9_canCross 0 = .ok (.aload_n 0, 1) := by decide +kernel
theorem dX9_canCross_1 : decode cX9_canCross 1 = .ok (.getfield 114, 3) := by decide +kernel
theorem dX9_canCross_4 : decode cX9_canCross 4 = .ok (.bipush 8, 2) := by decide +kernel
theorem dX9_canCross_6 : decode cX9_canCross 6 = .ok (.iload_n 1, 1) := by decide +kernel
theorem dX9_canCross_7 : decode cX9_canCross 7 = .ok (.iadd, 1) := by decide +kernel
theorem dX9_canCross_8 : decode cX9_canCross 8 = .ok (.iaload, 1) := by decide +kernel
theorem dX9_canCross_9 : decode cX9_canCross 9 = .ok (.ifCond .le 40, 3) := by decide +kernel
theorem dX9_canCross_12 : decode cX9_canCross 12 = .ok (.aload_n 0, 1) := by decide +kernel
theorem dX9_canCross_13 : decode cX9_canCross 13 = .ok (.getfield 32, 3) := by decide +kernel
theorem dX9_canCross_16 : decode cX9_canCross 16 = .ok (.aload_n 0, 1) := by decide +kernel
theorem dX9_canCross_17 : decode cX9_canCross 17 = .ok (.getfield 114, 3) := by decide +kernel
theorem dX9_canCross_20 : decode cX9_canCross 20 = .ok (.bipush 8, 2) := by decide +kernel
theorem dX9_canCross_22 : decode cX9_canCross 22 = .ok (.iload_n 1, 1) := by decide +kernel
theorem dX9_canCross_23 : decode cX9_canCross 23 = .ok (.iadd, 1) := by decide +kernel
theorem dX9_canCross_24 : decode cX9_canCross 24 = .ok (.iaload, 1) := by decide +kernel
theorem dX9_canCross_25 : decode cX9_canCross 25 = .ok (.iconst 1, 1) := by decide +kernel
theorem dX9_canCross_26 : decode cX9_canCross 26 = .ok (.isub, 1) := by decide +kernel
theorem dX9_canCross_27 : decode cX9_canCross 27 = .ok (.iaload, 1) := by decide +kernel
theorem dX9_canCross_28 : decode cX9_canCross 28 = .ok (.iload_n 2, 1) := by decide +kernel
theorem dX9_canCross_29 : decode cX9_canCross 29 = .ok (.ishr, 1) := by decide +kernel
theorem dX9_canCross_30 : decode cX9_canCross 30 = .ok (.iconst 1, 1) := by decide +kernel
theorem dX9_canCross_31 : decode cX9_canCross 31 = .ok (.iand, 1) := by decide +kernel
theorem dX9_canCross_32 : decode cX9_canCross 32 = .ok (.iconst 1, 1) := by decide +kernel
theorem dX9_canCross_33 : decode cX9_canCross 33 = .ok (.if_icmp .ne 16, 3) := by decide +kernel
theorem dX9_canCross_36 : decode cX9_canCross 36 = .ok (.aload_n 0, 1) := by decide +kernel
theorem dX9_canCross_37 : decode cX9_canCross 37 = .ok (.iload_n 2, 1) := by decide +kernel
theorem dX9_canCross_38 : decode cX9_canCross 38 = .ok (.iload_n 1, 1) := by decide +kernel
theorem dX9_canCross_39 : decode cX9_canCross 39 = .ok (.invokevirtual 386, 3) := by decide +kernel
theorem dX9_canCross_42 : decode cX9_canCross 42 = .ok (.ifCond .eq 7, 3) := by decide +kernel
theorem dX9_canCross_45 : decode cX9_canCross 45 = .ok (.iconst 1, 1) := by decide +kernel
theorem dX9_canCross_46 : decode cX9_canCross 46 = .ok (.goto 4, 3) := by decide +kernel
theorem dX9_canCross_49 : decode cX9_canCross 49 = .ok (.iconst 0, 1) := by decide +kernel
theorem dX9_canCross_50 : decode cX9_canCross 50 = .ok (.ireturn, 1) := by decide +kernel
theorem dX9_brings_0 : decode cX9_brings 0 = .ok (.aload_n 0, 1) := by decide +kernel
theorem dX9_brings_1 : decode cX9_brings 1 = .ok (.getfield 114, 3) := by decide +kernel
theorem dX9_brings_4 : decode cX9_brings 4 = .ok (.iconst 3, 1) := by decide +kernel
theorem dX9_brings_5 : decode cX9_brings 5 = .ok (.iload_n 1, 1) := by decide +kernel
theorem dX9_brings_6 : decode cX9_brings 6 = .ok (.iadd, 1) := by decide +kernel
theorem dX9_brings_7 : decode cX9_brings 7 = .ok (.bipush 99, 2) := by decide +kernel
theorem dX9_brings_9 : decode cX9_brings 9 = .ok (.aload_n 0, 1) := by decide +kernel
theorem dX9_brings_10 : decode cX9_brings 10 = .ok (.getfield 114, 3) := by decide +kernel
theorem dX9_brings_13 : decode cX9_brings 13 = .ok (.iconst 3, 1) := by decide +kernel
theorem dX9_brings_14 : decode cX9_brings 14 = .ok (.iload_n 1, 1) := by decide +kernel
theorem dX9_brings_15 : decode cX9_brings 15 = .ok (.iadd, 1) := by decide +kernel
theorem dX9_brings_16 : decode cX9_brings 16 = .ok (.iaload, 1) := by decide +kernel
theorem dX9_brings_17 : decode cX9_brings 17 = .ok (.aload_n 0, 1) := by decide +kernel
theorem dX9_brings_18 : decode cX9_brings 18 = .ok (.getfield 13, 3) := by decide +kernel
theorem dX9_brings_21 : decode cX9_brings 21 = .ok (.iconst 2, 1) := by decide +kernel
theorem dX9_brings_22 : decode cX9_brings 22 = .ok (.iaload, 1) := by decide +kernel
theorem dX9_brings_23 : decode cX9_brings 23 = .ok (.iadd, 1) := by decide +kernel
theorem dX9_brings_24 : decode cX9_brings 24 = .ok (.invokestatic 389, 3) := by decide +kernel
theorem dX9_brings_27 : decode cX9_brings 27 = .ok (.iastore, 1) := by decide +kernel
theorem dX9_brings_28 : decode cX9_brings 28 = .ok (.aload_n 0, 1) := by decide +kernel
