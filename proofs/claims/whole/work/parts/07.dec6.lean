theorem dX12_lays_100 : decode cX12_lays 100 = .ok (.iload_n 2, 1) := by decide +kernel
theorem dX12_lays_101 : decode cX12_lays 101 = .ok (.aload_n 0, 1) := by decide +kernel
theorem dX12_lays_102 : decode cX12_lays 102 = .ok (.getfield 21, 3) := by decide +kernel
theorem dX12_lays_105 : decode cX12_lays 105 = .ok (.iload_n 3, 1) := by decide +kernel
theorem dX12_lays_106 : decode cX12_lays 106 = .ok (.iaload, 1) := by decide +kernel
theorem dX12_lays_107 : decode cX12_lays 107 = .ok (.iadd, 1) := by decide +kernel
theorem dX12_lays_108 : decode cX12_lays 108 = .ok (.aload_n 0, 1) := by decide +kernel
theorem dX12_lays_109 : decode cX12_lays 109 = .ok (.getfield 24, 3) := by decide +kernel
theorem dX12_lays_112 : decode cX12_lays 112 = .ok (.iload_n 3, 1) := by decide +kernel
theorem dX12_lays_113 : decode cX12_lays 113 = .ok (.iaload, 1) := by decide +kernel
theorem dX12_lays_114 : decode cX12_lays 114 = .ok (.iastore, 1) := by decide +kernel
theorem dX12_lays_115 : decode cX12_lays 115 = .ok (.iinc 3 1, 3) := by decide +kernel
theorem dX12_lays_118 : decode cX12_lays 118 = .ok (.goto (-69), 3) := by decide +kernel
theorem dX12_lays_121 : decode cX12_lays 121 = .ok (.aload_n 0, 1) := by decide +kernel
theorem dX12_lays_122 : decode cX12_lays 122 = .ok (.iload_n 1, 1) := by decide +kernel
theorem dX12_lays_123 : decode cX12_lays 123 = .ok (.iconst 1, 1) := by decide +kernel
theorem dX12_lays_124 : decode cX12_lays 124 = .ok (.invokevirtual 325, 3) := by decide +kernel
theorem dX12_lays_127 : decode cX12_lays 127 = .ok (.istore_n 3, 1) := by decide +kernel
theorem dX12_lays_128 : decode cX12_lays 128 = .ok (.aload_n 0, 1) := by decide +kernel
theorem dX12_lays_129 : decode cX12_lays 129 = .ok (.iload_n 1, 1) := by decide +kernel
theorem dX12_lays_130 : decode cX12_lays 130 = .ok (.iconst 2, 1) := by decide +kernel
theorem dX12_lays_131 : decode cX12_lays 131 = .ok (.invokevirtual 325, 3) := by decide +kernel
theorem dX12_lays_134 : decode cX12_lays 134 = .ok (.istore 4, 2) := by decide +kernel
theorem dX12_lays_136 : decode cX12_lays 136 = .ok (.aload_n 0, 1) := by decide +kernel
theorem dX12_lays_137 : decode cX12_lays 137 = .ok (.iload_n 1, 1) := by decide +kernel
theorem dX12_lays_138 : decode cX12_lays 138 = .ok (.iconst 3, 1) := by decide +kernel
theorem dX12_lays_139 : decode cX12_lays 139 = .ok (.invokevirtual 325, 3) := by decide +kernel
theorem dX12_lays_142 : decode cX12_lays 142 = .ok (.istore 5, 2) := by decide +kernel
theorem dX12_lays_144 : decode cX12_lays 144 = .ok (.iconst 1, 1) := by decide +kernel
theorem dX12_lays_145 : decode cX12_lays 145 = .ok (.istore 6, 2) := by decide +kernel
theorem dX12_lays_147 : decode cX12_lays 147 = .ok (.iload 6, 2) := by decide +kernel
theorem dX12_lays_149 : decode cX12_lays 149 = .ok (.ifCond .eq 187, 3) := by decide +kernel
theorem dX12_lays_152 : decode cX12_lays 152 = .ok (.iconst 0, 1) := by decide +kernel
theorem dX12_lays_153 : decode cX12_lays 153 = .ok (.istore 6, 2) := by decide +kernel
theorem dX12_lays_155 : decode cX12_lays 155 = .ok (.iconst 0, 1) := by decide +kernel
theorem dX12_lays_156 : decode cX12_lays 156 = .ok (.istore 7, 2) := by decide +kernel
theorem dX12_lays_158 : decode cX12_lays 158 = .ok (.iload 7, 2) := by decide +kernel
theorem dX12_lays_160 : decode cX12_lays 160 = .ok (.bipush 64, 2) := by decide +kernel
theorem dX12_lays_162 : decode cX12_lays 162 = .ok (.if_icmp .ge 171, 3) := by decide +kernel
theorem dX12_lays_165 : decode cX12_lays 165 = .ok (.aload_n 0, 1) := by decide +kernel
theorem dX12_lays_166 : decode cX12_lays 166 = .ok (.getfield 89, 3) := by decide +kernel
theorem dX12_lays_169 : decode cX12_lays 169 = .ok (.iload_n 2, 1) := by decide +kernel
theorem dX12_lays_170 : decode cX12_lays 170 = .ok (.iload 7, 2) := by decide +kernel
theorem dX12_lays_172 : decode cX12_lays 172 = .ok (.iadd, 1) := by decide +kernel
theorem dX12_lays_173 : decode cX12_lays 173 = .ok (.iaload, 1) := by decide +kernel
theorem dX12_lays_174 : decode cX12_lays 174 = .ok (.ldc_w 324, 3) := by decide +kernel
theorem dX12_lays_177 : decode cX12_lays 177 = .ok (.if_icmp .lt 6, 3) := by decide +kernel
theorem dX12_lays_180 : decode cX12_lays 180 = .ok (.goto 147, 3) := by decide +kernel
theorem dX12_lays_183 : decode cX12_lays 183 = .ok (.aload_n 0, 1) := by decide +kernel
theorem dX12_lays_184 : decode cX12_lays 184 = .ok (.iload_n 2, 1) := by decide +kernel
theorem dX12_lays_185 : decode cX12_lays 185 = .ok (.bipush 63, 2) := by decide +kernel
theorem dX12_lays_187 : decode cX12_lays 187 = .ok (.iload 7, 2) := by decide +kernel
theorem dX12_lays_189 : decode cX12_lays 189 = .ok (.ixor, 1) := by decide +kernel
theorem dX12_lays_190 : decode cX12_lays 190 = .ok (.aload_n 0, 1) := by decide +kernel
theorem dX12_lays_191 : decode cX12_lays 191 = .ok (.getfield 89, 3) := by decide +kernel
theorem dX12_lays_194 : decode cX12_lays 194 = .ok (.iload_n 2, 1) := by decide +kernel
theorem dX12_lays_195 : decode cX12_lays 195 = .ok (.iload 7, 2) := by decide +kernel
theorem dX12_lays_197 : decode cX12_lays 197 = .ok (.iadd, 1) := by decide +kernel
theorem dX12_lays_198 : decode cX12_lays 198 = .ok (.iaload, 1) := by decide +kernel
theorem dX12_lays_199 : decode cX12_lays 199 = .ok (.iload_n 3, 1) := by decide +kernel
theorem dX12_lays_200 : decode cX12_lays 200 = .ok (.iadd, 1) := by decide +kernel
theorem dX12_lays_201 : decode cX12_lays 201 = .ok (.invokevirtual 328, 3) := by decide +kernel
theorem dX12_lays_204 : decode cX12_lays 204 = .ok (.ifCond .ne 8, 3) := by decide +kernel
theorem dX12_lays_207 : decode cX12_lays 207 = .ok (.iload 6, 2) := by decide +kernel
theorem dX12_lays_209 : decode cX12_lays 209 = .ok (.ifCond .eq 7, 3) := by decide +kernel
theorem dX12_lays_212 : decode cX12_lays 212 = .ok (.iconst 1, 1) := by decide +kernel
theorem dX12_lays_213 : decode cX12_lays 213 = .ok (.goto 4, 3) := by decide +kernel
theorem dX12_lays_216 : decode cX12_lays 216 = .ok (.iconst 0, 1) := by decide +kernel
theorem dX12_lays_217 : decode cX12_lays 217 = .ok (.istore 6, 2) := by decide +kernel
theorem dX12_lays_219 : decode cX12_lays 219 = .ok (.iconst 0, 1) := by decide +kernel
theorem dX12_lays_220 : decode cX12_lays 220 = .ok (.istore 8, 2) := by decide +kernel
theorem dX12_lays_222 : decode cX12_lays 222 = .ok (.iload 8, 2) := by decide +kernel
theorem dX12_lays_224 : decode cX12_lays 224 = .ok (.iload 7, 2) := by decide +kernel
theorem dX12_lays_226 : decode cX12_lays 226 = .ok (.if_icmp .ge 101, 3) := by decide +kernel
theorem dX12_lays_229 : decode cX12_lays 229 = .ok (.aload_n 0, 1) := by decide +kernel
theorem dX12_lays_230 : decode cX12_lays 230 = .ok (.getfield 89, 3) := by decide +kernel
theorem dX12_lays_233 : decode cX12_lays 233 = .ok (.iload_n 2, 1) := by decide +kernel
theorem dX12_lays_234 : decode cX12_lays 234 = .ok (.iload 7, 2) := by decide +kernel
theorem dX12_lays_236 : decode cX12_lays 236 = .ok (.iadd, 1) := by decide +kernel
theorem dX12_lays_237 : decode cX12_lays 237 = .ok (.iaload, 1) := by decide +kernel
theorem dX12_lays_238 : decode cX12_lays 238 = .ok (.aload_n 0, 1) := by decide +kernel
theorem dX12_lays_239 : decode cX12_lays 239 = .ok (.getfield 89, 3) := by decide +kernel
theorem dX12_lays_242 : decode cX12_lays 242 = .ok (.iload_n 2, 1) := by decide +kernel
theorem dX12_lays_243 : decode cX12_lays 243 = .ok (.iload 8, 2) := by decide +kernel
theorem dX12_lays_245 : decode cX12_lays 245 = .ok (.iadd, 1) := by decide +kernel
theorem dX12_lays_246 : decode cX12_lays 246 = .ok (.iaload, 1) := by decide +kernel
theorem dX12_lays_247 : decode cX12_lays 247 = .ok (.iadd, 1) := by decide +kernel
theorem dX12_lays_248 : decode cX12_lays 248 = .ok (.istore 9, 2) := by decide +kernel
theorem dX12_lays_250 : decode cX12_lays 250 = .ok (.iload 9, 2) := by decide +kernel
theorem dX12_lays_252 : decode cX12_lays 252 = .ok (.ldc_w 324, 3) := by decide +kernel
theorem dX12_lays_255 : decode cX12_lays 255 = .ok (.if_icmp .lt 6, 3) := by decide +kernel
theorem dX12_lays_258 : decode cX12_lays 258 = .ok (.goto 63, 3) := by decide +kernel
theorem dX12_lays_261 : decode cX12_lays 261 = .ok (.aload_n 0, 1) := by decide +kernel
theorem dX12_lays_262 : decode cX12_lays 262 = .ok (.iload_n 2, 1) := by decide +kernel
theorem dX12_lays_263 : decode cX12_lays 263 = .ok (.iload 7, 2) := by decide +kernel
theorem dX12_lays_265 : decode cX12_lays 265 = .ok (.iload 8, 2) := by decide +kernel
theorem dX12_lays_267 : decode cX12_lays 267 = .ok (.iand, 1) := by decide +kernel
theorem dX12_lays_268 : decode cX12_lays 268 = .ok (.iload 9, 2) := by decide +kernel
theorem dX12_lays_270 : decode cX12_lays 270 = .ok (.iload 4, 2) := by decide +kernel
theorem dX12_lays_272 : decode cX12_lays 272 = .ok (.iadd, 1) := by decide +kernel
theorem dX12_lays_273 : decode cX12_lays 273 = .ok (.invokevirtual 328, 3) := by decide +kernel
theorem dX12_lays_276 : decode cX12_lays 276 = .ok (.ifCond .ne 8, 3) := by decide +kernel
theorem dX12_lays_279 : decode cX12_lays 279 = .ok (.iload 6, 2) := by decide +kernel
theorem dX12_lays_281 : decode cX12_lays 281 = .ok (.ifCond .eq 7, 3) := by decide +kernel
theorem dX12_lays_284 : decode cX12_lays 284 = .ok (.iconst 1, 1) := by decide +kernel
theorem dX12_lays_285 : decode cX12_lays 285 = .ok (.goto 4, 3) := by decide +kernel
theorem dX12_lays_288 : decode cX12_lays 288 = .ok (.iconst 0, 1) := by decide +kernel
theorem dX12_lays_289 : decode cX12_lays 289 = .ok (.istore 6, 2) := by decide +kernel
theorem dX12_lays_291 : decode cX12_lays 291 = .ok (.aload_n 0, 1) := by decide +kernel
theorem dX12_lays_292 : decode cX12_lays 292 = .ok (.iload_n 2, 1) := by decide +kernel
theorem dX12_lays_293 : decode cX12_lays 293 = .ok (.iload 7, 2) := by decide +kernel
theorem dX12_lays_295 : decode cX12_lays 295 = .ok (.iload 8, 2) := by decide +kernel
theorem dX12_lays_297 : decode cX12_lays 297 = .ok (.ior, 1) := by decide +kernel
theorem dX12_lays_298 : decode cX12_lays 298 = .ok (.iload 9, 2) := by decide +kernel
theorem dX12_lays_300 : decode cX12_lays 300 = .ok (.iload 5, 2) := by decide +kernel
theorem dX12_lays_302 : decode cX12_lays 302 = .ok (.iadd, 1) := by decide +kernel
theorem dX12_lays_303 : decode cX12_lays 303 = .ok (.invokevirtual 328, 3) := by decide +kernel
theorem dX12_lays_306 : decode cX12_lays 306 = .ok (.ifCond .ne 8, 3) := by decide +kernel
theorem dX12_lays_309 : decode cX12_lays 309 = .ok (.iload 6, 2) := by decide +kernel
theorem dX12_lays_311 : decode cX12_lays 311 = .ok (.ifCond .eq 7, 3) := by decide +kernel
theorem dX12_lays_314 : decode cX12_lays 314 = .ok (.iconst 1, 1) := by decide +kernel
theorem dX12_lays_315 : decode cX12_lays 315 = .ok (.goto 4, 3) := by decide +kernel
theorem dX12_lays_318 : decode cX12_lays 318 = .ok (.iconst 0, 1) := by decide +kernel
theorem dX12_lays_319 : decode cX12_lays 319 = .ok (.istore 6, 2) := by decide +kernel
theorem dX12_lays_321 : decode cX12_lays 321 = .ok (.iinc 8 1, 3) := by decide +kernel
theorem dX12_lays_324 : decode cX12_lays 324 = .ok (.goto (-102), 3) := by decide +kernel
theorem dX12_lays_327 : decode cX12_lays 327 = .ok (.iinc 7 1, 3) := by decide +kernel
theorem dX12_lays_330 : decode cX12_lays 330 = .ok (.goto (-172), 3) := by decide +kernel
theorem dX12_lays_333 : decode cX12_lays 333 = .ok (.goto (-186), 3) := by decide +kernel
theorem dX12_lays_336 : decode cX12_lays 336 = .ok (.return_, 1) := by decide +kernel
theorem dX12_briefOf_0 : decode cX12_briefOf 0 = .ok (.aload_n 0, 1) := by decide +kernel
theorem dX12_briefOf_1 : decode cX12_briefOf 1 = .ok (.iload_n 1, 1) := by decide +kernel
theorem dX12_briefOf_2 : decode cX12_briefOf 2 = .ok (.invokevirtual 332, 3) := by decide +kernel
theorem dX12_briefOf_5 : decode cX12_briefOf 5 = .ok (.aload_n 0, 1) := by decide +kernel
theorem dX12_briefOf_6 : decode cX12_briefOf 6 = .ok (.getfield 89, 3) := by decide +kernel
theorem dX12_briefOf_9 : decode cX12_briefOf 9 = .ok (.bipush 64, 2) := by decide +kernel
theorem dX12_briefOf_11 : decode cX12_briefOf 11 = .ok (.iload_n 1, 1) := by decide +kernel
theorem dX12_briefOf_12 : decode cX12_briefOf 12 = .ok (.imul, 1) := by decide +kernel
theorem dX12_briefOf_13 : decode cX12_briefOf 13 = .ok (.iload_n 2, 1) := by decide +kernel
theorem dX12_briefOf_14 : decode cX12_briefOf 14 = .ok (.iadd, 1) := by decide +kernel
theorem dX12_briefOf_15 : decode cX12_briefOf 15 = .ok (.iaload, 1) := by decide +kernel
theorem dX12_briefOf_16 : decode cX12_briefOf 16 = .ok (.ireturn, 1) := by decide +kernel
theorem dX12_brief_0 : decode cX12_brief 0 = .ok (.aload_n 0, 1) := by decide +kernel
theorem dX12_brief_1 : decode cX12_brief 1 = .ok (.iload_n 1, 1) := by decide +kernel
theorem dX12_brief_2 : decode cX12_brief 2 = .ok (.invokevirtual 335, 3) := by decide +kernel
theorem dX12_brief_5 : decode cX12_brief 5 = .ok (.ifCond .eq 10, 3) := by decide +kernel
theorem dX12_brief_8 : decode cX12_brief 8 = .ok (.iload_n 2, 1) := by decide +kernel
theorem dX12_brief_9 : decode cX12_brief 9 = .ok (.invokestatic 153, 3) := by decide +kernel
theorem dX12_brief_12 : decode cX12_brief 12 = .ok (.ifCond .ne 5, 3) := by decide +kernel
theorem dX12_brief_15 : decode cX12_brief 15 = .ok (.iconst (-1), 1) := by decide +kernel
theorem dX12_brief_16 : decode cX12_brief 16 = .ok (.ireturn, 1) := by decide +kernel
theorem dX12_brief_17 : decode cX12_brief 17 = .ok (.aload_n 0, 1) := by decide +kernel
theorem dX12_brief_18 : decode cX12_brief 18 = .ok (.iload_n 1, 1) := by decide +kernel
theorem dX12_brief_19 : decode cX12_brief 19 = .ok (.iload_n 2, 1) := by decide +kernel
theorem dX12_brief_20 : decode cX12_brief 20 = .ok (.invokevirtual 338, 3) := by decide +kernel
theorem dX12_brief_23 : decode cX12_brief 23 = .ok (.istore_n 3, 1) := by decide +kernel
theorem dX12_brief_24 : decode cX12_brief 24 = .ok (.iload_n 3, 1) := by decide +kernel
theorem dX12_brief_25 : decode cX12_brief 25 = .ok (.ldc_w 324, 3) := by decide +kernel
theorem dX12_brief_28 : decode cX12_brief 28 = .ok (.if_icmp .lt 8, 3) := by decide +kernel
theorem dX12_brief_31 : decode cX12_brief 31 = .ok (.bipush (-2), 2) := by decide +kernel
theorem dX12_brief_33 : decode cX12_brief 33 = .ok (.goto 4, 3) := by decide +kernel
theorem dX12_brief_36 : decode cX12_brief 36 = .ok (.iload_n 3, 1) := by decide +kernel
theorem dX12_brief_37 : decode cX12_brief 37 = .ok (.ireturn, 1) := by decide +kernel
theorem dX12_findsPair_0 : decode cX12_findsPair 0 = .ok (.aload_n 0, 1) := by decide +kernel
theorem dX12_findsPair_1 : decode cX12_findsPair 1 = .ok (.iload_n 1, 1) := by decide +kernel
theorem dX12_findsPair_2 : decode cX12_findsPair 2 = .ok (.iload_n 3, 1) := by decide +kernel
theorem dX12_findsPair_3 : decode cX12_findsPair 3 = .ok (.invokevirtual 325, 3) := by decide +kernel
theorem dX12_findsPair_6 : decode cX12_findsPair 6 = .ok (.istore 4, 2) := by decide +kernel
theorem dX12_findsPair_8 : decode cX12_findsPair 8 = .ok (.iconst 0, 1) := by decide +kernel
theorem dX12_findsPair_9 : decode cX12_findsPair 9 = .ok (.istore 5, 2) := by decide +kernel
theorem dX12_findsPair_11 : decode cX12_findsPair 11 = .ok (.iload 5, 2) := by decide +kernel
theorem dX12_findsPair_13 : decode cX12_findsPair 13 = .ok (.bipush 64, 2) := by decide +kernel
theorem dX12_findsPair_15 : decode cX12_findsPair 15 = .ok (.if_icmp .ge 97, 3) := by decide +kernel
theorem dX12_findsPair_18 : decode cX12_findsPair 18 = .ok (.iload 5, 2) := by decide +kernel
theorem dX12_findsPair_20 : decode cX12_findsPair 20 = .ok (.istore 6, 2) := by decide +kernel
theorem dX12_findsPair_22 : decode cX12_findsPair 22 = .ok (.iload 6, 2) := by decide +kernel
theorem dX12_findsPair_24 : decode cX12_findsPair 24 = .ok (.bipush 64, 2) := by decide +kernel
theorem dX12_findsPair_26 : decode cX12_findsPair 26 = .ok (.if_icmp .ge 80, 3) := by decide +kernel
theorem dX12_findsPair_29 : decode cX12_findsPair 29 = .ok (.iload_n 3, 1) := by decide +kernel
theorem dX12_findsPair_30 : decode cX12_findsPair 30 = .ok (.iconst 2, 1) := by decide +kernel
theorem dX12_findsPair_31 : decode cX12_findsPair 31 = .ok (.if_icmp .ne 11, 3) := by decide +kernel
theorem dX12_findsPair_34 : decode cX12_findsPair 34 = .ok (.iload 5, 2) := by decide +kernel
theorem dX12_findsPair_36 : decode cX12_findsPair 36 = .ok (.iload 6, 2) := by decide +kernel
theorem dX12_findsPair_38 : decode cX12_findsPair 38 = .ok (.iand, 1) := by decide +kernel
theorem dX12_findsPair_39 : decode cX12_findsPair 39 = .ok (.goto 8, 3) := by decide +kernel
theorem dX12_findsPair_42 : decode cX12_findsPair 42 = .ok (.iload 5, 2) := by decide +kernel
theorem dX12_findsPair_44 : decode cX12_findsPair 44 = .ok (.iload 6, 2) := by decide +kernel
theorem dX12_findsPair_46 : decode cX12_findsPair 46 = .ok (.ior, 1) := by decide +kernel
theorem dX12_findsPair_47 : decode cX12_findsPair 47 = .ok (.iload_n 2, 1) := by decide +kernel
theorem dX12_findsPair_48 : decode cX12_findsPair 48 = .ok (.if_icmp .ne 52, 3) := by decide +kernel
theorem dX12_findsPair_51 : decode cX12_findsPair 51 = .ok (.aload_n 0, 1) := by decide +kernel
theorem dX12_findsPair_52 : decode cX12_findsPair 52 = .ok (.iload_n 1, 1) := by decide +kernel
theorem dX12_findsPair_53 : decode cX12_findsPair 53 = .ok (.iload 5, 2) := by decide +kernel
theorem dX12_findsPair_55 : decode cX12_findsPair 55 = .ok (.invokevirtual 338, 3) := by decide +kernel
theorem dX12_findsPair_58 : decode cX12_findsPair 58 = .ok (.aload_n 0, 1) := by decide +kernel
theorem dX12_findsPair_59 : decode cX12_findsPair 59 = .ok (.iload_n 1, 1) := by decide +kernel
theorem dX12_findsPair_60 : decode cX12_findsPair 60 = .ok (.iload 6, 2) := by decide +kernel
theorem dX12_findsPair_62 : decode cX12_findsPair 62 = .ok (.invokevirtual 338, 3) := by decide +kernel
theorem dX12_findsPair_65 : decode cX12_findsPair 65 = .ok (.iadd, 1) := by decide +kernel
theorem dX12_findsPair_66 : decode cX12_findsPair 66 = .ok (.iload 4, 2) := by decide +kernel
theorem dX12_findsPair_68 : decode cX12_findsPair 68 = .ok (.iadd, 1) := by decide +kernel
theorem dX12_findsPair_69 : decode cX12_findsPair 69 = .ok (.aload_n 0, 1) := by decide +kernel
theorem dX12_findsPair_70 : decode cX12_findsPair 70 = .ok (.iload_n 1, 1) := by decide +kernel
theorem dX12_findsPair_71 : decode cX12_findsPair 71 = .ok (.iload_n 2, 1) := by decide +kernel
theorem dX12_findsPair_72 : decode cX12_findsPair 72 = .ok (.invokevirtual 338, 3) := by decide +kernel
theorem dX12_findsPair_75 : decode cX12_findsPair 75 = .ok (.if_icmp .eq 6, 3) := by decide +kernel
theorem dX12_findsPair_78 : decode cX12_findsPair 78 = .ok (.goto 22, 3) := by decide +kernel
theorem dX12_findsPair_81 : decode cX12_findsPair 81 = .ok (.aload_n 0, 1) := by decide +kernel
theorem dX12_findsPair_82 : decode cX12_findsPair 82 = .ok (.iload_n 3, 1) := by decide +kernel
theorem dX12_findsPair_83 : decode cX12_findsPair 83 = .ok (.putfield 341, 3) := by decide +kernel
theorem dX12_findsPair_86 : decode cX12_findsPair 86 = .ok (.aload_n 0, 1) := by decide +kernel
theorem dX12_findsPair_87 : decode cX12_findsPair 87 = .ok (.iload 5, 2) := by decide +kernel
theorem dX12_findsPair_89 : decode cX12_findsPair 89 = .ok (.putfield 344, 3) := by decide +kernel
theorem dX12_findsPair_92 : decode cX12_findsPair 92 = .ok (.aload_n 0, 1) := by decide +kernel
theorem dX12_findsPair_93 : decode cX12_findsPair 93 = .ok (.iload 6, 2) := by decide +kernel
theorem dX12_findsPair_95 : decode cX12_findsPair 95 = .ok (.putfield 347, 3) := by decide +kernel
theorem dX12_findsPair_98 : decode cX12_findsPair 98 = .ok (.iconst 1, 1) := by decide +kernel
theorem dX12_findsPair_99 : decode cX12_findsPair 99 = .ok (.ireturn, 1) := by decide +kernel
theorem dX12_findsPair_100 : decode cX12_findsPair 100 = .ok (.iinc 6 1, 3) := by decide +kernel
theorem dX12_findsPair_103 : decode cX12_findsPair 103 = .ok (.goto (-81), 3) := by decide +kernel
theorem dX12_findsPair_106 : decode cX12_findsPair 106 = .ok (.iinc 5 1, 3) := by decide +kernel
theorem dX12_findsPair_109 : decode cX12_findsPair 109 = .ok (.goto (-98), 3) := by decide +kernel
theorem dX12_findsPair_112 : decode cX12_findsPair 112 = .ok (.iconst 0, 1) := by decide +kernel
theorem dX12_findsPair_113 : decode cX12_findsPair 113 = .ok (.ireturn, 1) := by decide +kernel
theorem dX12_says_0 : decode cX12_says 0 = .ok (.aload_n 0, 1) := by decide +kernel
theorem dX12_says_1 : decode cX12_says 1 = .ok (.iconst (-1), 1) := by decide +kernel
theorem dX12_says_2 : decode cX12_says 2 = .ok (.putfield 347, 3) := by decide +kernel
theorem dX12_says_5 : decode cX12_says 5 = .ok (.aload_n 0, 1) := by decide +kernel
theorem dX12_says_6 : decode cX12_says 6 = .ok (.iconst 0, 1) := by decide +kernel
theorem dX12_says_7 : decode cX12_says 7 = .ok (.putfield 341, 3) := by decide +kernel
theorem dX12_says_10 : decode cX12_says 10 = .ok (.iconst 0, 1) := by decide +kernel
theorem dX12_says_11 : decode cX12_says 11 = .ok (.istore_n 3, 1) := by decide +kernel
theorem dX12_says_12 : decode cX12_says 12 = .ok (.iload_n 3, 1) := by decide +kernel
theorem dX12_says_13 : decode cX12_says 13 = .ok (.aload_n 0, 1) := by decide +kernel
theorem dX12_says_14 : decode cX12_says 14 = .ok (.getfield 135, 3) := by decide +kernel
theorem dX12_says_17 : decode cX12_says 17 = .ok (.if_icmp .ge 60, 3) := by decide +kernel
theorem dX12_says_20 : decode cX12_says 20 = .ok (.iload_n 1, 1) := by decide +kernel
theorem dX12_says_21 : decode cX12_says 21 = .ok (.iload_n 3, 1) := by decide +kernel
theorem dX12_says_22 : decode cX12_says 22 = .ok (.invokestatic 149, 3) := by decide +kernel
theorem dX12_says_25 : decode cX12_says 25 = .ok (.ifCond .eq 46, 3) := by decide +kernel
theorem dX12_says_28 : decode cX12_says 28 = .ok (.aload_n 0, 1) := by decide +kernel
theorem dX12_says_29 : decode cX12_says 29 = .ok (.getfield 17, 3) := by decide +kernel
theorem dX12_says_32 : decode cX12_says 32 = .ok (.iload_n 3, 1) := by decide +kernel
theorem dX12_says_33 : decode cX12_says 33 = .ok (.iaload, 1) := by decide +kernel
theorem dX12_says_34 : decode cX12_says 34 = .ok (.ifCond .ne 37, 3) := by decide +kernel
theorem dX12_says_37 : decode cX12_says 37 = .ok (.aload_n 0, 1) := by decide +kernel
theorem dX12_says_38 : decode cX12_says 38 = .ok (.getfield 21, 3) := by decide +kernel
theorem dX12_says_41 : decode cX12_says 41 = .ok (.iload_n 3, 1) := by decide +kernel
theorem dX12_says_42 : decode cX12_says 42 = .ok (.iaload, 1) := by decide +kernel
theorem dX12_says_43 : decode cX12_says 43 = .ok (.iload_n 2, 1) := by decide +kernel
theorem dX12_says_44 : decode cX12_says 44 = .ok (.if_icmp .ne 27, 3) := by decide +kernel
theorem dX12_says_47 : decode cX12_says 47 = .ok (.aload_n 0, 1) := by decide +kernel
theorem dX12_says_48 : decode cX12_says 48 = .ok (.getfield 24, 3) := by decide +kernel
theorem dX12_says_51 : decode cX12_says 51 = .ok (.iload_n 3, 1) := by decide +kernel
theorem dX12_says_52 : decode cX12_says 52 = .ok (.iaload, 1) := by decide +kernel
theorem dX12_says_53 : decode cX12_says 53 = .ok (.aload_n 0, 1) := by decide +kernel
theorem dX12_says_54 : decode cX12_says 54 = .ok (.iload_n 1, 1) := by decide +kernel
theorem dX12_says_55 : decode cX12_says 55 = .ok (.iload_n 2, 1) := by decide +kernel
theorem dX12_says_56 : decode cX12_says 56 = .ok (.invokevirtual 338, 3) := by decide +kernel
theorem dX12_says_59 : decode cX12_says 59 = .ok (.if_icmp .eq 6, 3) := by decide +kernel
theorem dX12_says_62 : decode cX12_says 62 = .ok (.goto 9, 3) := by decide +kernel
theorem dX12_says_65 : decode cX12_says 65 = .ok (.aload_n 0, 1) := by decide +kernel
theorem dX12_says_66 : decode cX12_says 66 = .ok (.iload_n 3, 1) := by decide +kernel
theorem dX12_says_67 : decode cX12_says 67 = .ok (.putfield 344, 3) := by decide +kernel
theorem dX12_says_70 : decode cX12_says 70 = .ok (.return_, 1) := by decide +kernel
theorem dX12_says_71 : decode cX12_says 71 = .ok (.iinc 3 1, 3) := by decide +kernel
theorem dX12_says_74 : decode cX12_says 74 = .ok (.goto (-62), 3) := by decide +kernel
theorem dX12_says_77 : decode cX12_says 77 = .ok (.aload_n 0, 1) := by decide +kernel
theorem dX12_says_78 : decode cX12_says 78 = .ok (.iconst 1, 1) := by decide +kernel
theorem dX12_says_79 : decode cX12_says 79 = .ok (.putfield 341, 3) := by decide +kernel
theorem dX12_says_82 : decode cX12_says 82 = .ok (.aload_n 0, 1) := by decide +kernel
theorem dX12_says_83 : decode cX12_says 83 = .ok (.bipush 63, 2) := by decide +kernel
theorem dX12_says_85 : decode cX12_says 85 = .ok (.iload_n 2, 1) := by decide +kernel
theorem dX12_says_86 : decode cX12_says 86 = .ok (.ixor, 1) := by decide +kernel
theorem dX12_says_87 : decode cX12_says 87 = .ok (.putfield 344, 3) := by decide +kernel
theorem dX12_says_90 : decode cX12_says 90 = .ok (.aload_n 0, 1) := by decide +kernel
theorem dX12_says_91 : decode cX12_says 91 = .ok (.iload_n 1, 1) := by decide +kernel
theorem dX12_says_92 : decode cX12_says 92 = .ok (.bipush 63, 2) := by decide +kernel
theorem dX12_says_94 : decode cX12_says 94 = .ok (.iload_n 2, 1) := by decide +kernel
theorem dX12_says_95 : decode cX12_says 95 = .ok (.ixor, 1) := by decide +kernel
theorem dX12_says_96 : decode cX12_says 96 = .ok (.invokevirtual 338, 3) := by decide +kernel
theorem dX12_says_99 : decode cX12_says 99 = .ok (.aload_n 0, 1) := by decide +kernel
theorem dX12_says_100 : decode cX12_says 100 = .ok (.iload_n 1, 1) := by decide +kernel
theorem dX12_says_101 : decode cX12_says 101 = .ok (.iconst 1, 1) := by decide +kernel
theorem dX12_says_102 : decode cX12_says 102 = .ok (.invokevirtual 325, 3) := by decide +kernel
theorem dX12_says_105 : decode cX12_says 105 = .ok (.iadd, 1) := by decide +kernel
theorem dX12_says_106 : decode cX12_says 106 = .ok (.aload_n 0, 1) := by decide +kernel
theorem dX12_says_107 : decode cX12_says 107 = .ok (.iload_n 1, 1) := by decide +kernel
theorem dX12_says_108 : decode cX12_says 108 = .ok (.iload_n 2, 1) := by decide +kernel
theorem dX12_says_109 : decode cX12_says 109 = .ok (.invokevirtual 338, 3) := by decide +kernel
theorem dX12_says_112 : decode cX12_says 112 = .ok (.if_icmp .ne 4, 3) := by decide +kernel
theorem dX12_says_115 : decode cX12_says 115 = .ok (.return_, 1) := by decide +kernel
theorem dX12_says_116 : decode cX12_says 116 = .ok (.aload_n 0, 1) := by decide +kernel
theorem dX12_says_117 : decode cX12_says 117 = .ok (.iload_n 1, 1) := by decide +kernel
theorem dX12_says_118 : decode cX12_says 118 = .ok (.iload_n 2, 1) := by decide +kernel
theorem dX12_says_119 : decode cX12_says 119 = .ok (.iconst 2, 1) := by decide +kernel
theorem dX12_says_120 : decode cX12_says 120 = .ok (.invokevirtual 350, 3) := by decide +kernel
theorem dX12_says_123 : decode cX12_says 123 = .ok (.ifCond .ne 25, 3) := by decide +kernel
theorem dX12_says_126 : decode cX12_says 126 = .ok (.aload_n 0, 1) := by decide +kernel
theorem dX12_says_127 : decode cX12_says 127 = .ok (.aload_n 0, 1) := by decide +kernel
theorem dX12_says_128 : decode cX12_says 128 = .ok (.iload_n 1, 1) := by decide +kernel
theorem dX12_says_129 : decode cX12_says 129 = .ok (.iload_n 2, 1) := by decide +kernel
theorem dX12_says_130 : decode cX12_says 130 = .ok (.iconst 3, 1) := by decide +kernel
theorem dX12_says_131 : decode cX12_says 131 = .ok (.invokevirtual 350, 3) := by decide +kernel
theorem dX12_says_134 : decode cX12_says 134 = .ok (.ifCond .eq 10, 3) := by decide +kernel
theorem dX12_says_137 : decode cX12_says 137 = .ok (.aload_n 0, 1) := by decide +kernel
theorem dX12_says_138 : decode cX12_says 138 = .ok (.getfield 344, 3) := by decide +kernel
theorem dX12_says_141 : decode cX12_says 141 = .ok (.goto 4, 3) := by decide +kernel
theorem dX12_says_144 : decode cX12_says 144 = .ok (.iconst (-1), 1) := by decide +kernel
theorem dX12_says_145 : decode cX12_says 145 = .ok (.putfield 344, 3) := by decide +kernel
theorem dX12_says_148 : decode cX12_says 148 = .ok (.return_, 1) := by decide +kernel
theorem dX12_how_0 : decode cX12_how 0 = .ok (.aload_n 0, 1) := by decide +kernel
theorem dX12_how_1 : decode cX12_how 1 = .ok (.iload_n 1, 1) := by decide +kernel
theorem dX12_how_2 : decode cX12_how 2 = .ok (.invokevirtual 335, 3) := by decide +kernel
theorem dX12_how_5 : decode cX12_how 5 = .ok (.ifCond .eq 22, 3) := by decide +kernel
theorem dX12_how_8 : decode cX12_how 8 = .ok (.iload_n 2, 1) := by decide +kernel
theorem dX12_how_9 : decode cX12_how 9 = .ok (.invokestatic 153, 3) := by decide +kernel
theorem dX12_how_12 : decode cX12_how 12 = .ok (.ifCond .eq 15, 3) := by decide +kernel
theorem dX12_how_15 : decode cX12_how 15 = .ok (.iload_n 3, 1) := by decide +kernel
theorem dX12_how_16 : decode cX12_how 16 = .ok (.i2l, 1) := by decide +kernel
theorem dX12_how_17 : decode cX12_how 17 = .ok (.lconst 0, 1) := by decide +kernel
theorem dX12_how_18 : decode cX12_how 18 = .ok (.ldc2_w 353, 3) := by decide +kernel
theorem dX12_how_21 : decode cX12_how 21 = .ok (.invokestatic 138, 3) := by decide +kernel
theorem dX12_how_24 : decode cX12_how 24 = .ok (.ifCond .ne 5, 3) := by decide +kernel
theorem dX12_how_27 : decode cX12_how 27 = .ok (.iconst (-1), 1) := by decide +kernel
theorem dX12_how_28 : decode cX12_how 28 = .ok (.ireturn, 1) := by decide +kernel
theorem dX12_how_29 : decode cX12_how 29 = .ok (.aload_n 0, 1) := by decide +kernel
theorem dX12_how_30 : decode cX12_how 30 = .ok (.iload_n 1, 1) := by decide +kernel
theorem dX12_how_31 : decode cX12_how 31 = .ok (.iload_n 2, 1) := by decide +kernel
theorem dX12_how_32 : decode cX12_how 32 = .ok (.invokevirtual 338, 3) := by decide +kernel
theorem dX12_how_35 : decode cX12_how 35 = .ok (.ldc_w 324, 3) := by decide +kernel
theorem dX12_how_38 : decode cX12_how 38 = .ok (.if_icmp .lt 6, 3) := by decide +kernel
theorem dX12_how_41 : decode cX12_how 41 = .ok (.bipush (-2), 2) := by decide +kernel
theorem dX12_how_43 : decode cX12_how 43 = .ok (.ireturn, 1) := by decide +kernel
theorem dX12_how_44 : decode cX12_how 44 = .ok (.aload_n 0, 1) := by decide +kernel
theorem dX12_how_45 : decode cX12_how 45 = .ok (.iload_n 1, 1) := by decide +kernel
theorem dX12_how_46 : decode cX12_how 46 = .ok (.iload_n 2, 1) := by decide +kernel
theorem dX12_how_47 : decode cX12_how 47 = .ok (.invokevirtual 355, 3) := by decide +kernel
theorem dX12_how_50 : decode cX12_how 50 = .ok (.iload_n 3, 1) := by decide +kernel
theorem dX12_how_51 : decode cX12_how 51 = .ok (.ifCond .ne 10, 3) := by decide +kernel
theorem dX12_how_54 : decode cX12_how 54 = .ok (.aload_n 0, 1) := by decide +kernel
theorem dX12_how_55 : decode cX12_how 55 = .ok (.getfield 341, 3) := by decide +kernel
theorem dX12_how_58 : decode cX12_how 58 = .ok (.goto 19, 3) := by decide +kernel
theorem dX12_how_61 : decode cX12_how 61 = .ok (.iload_n 3, 1) := by decide +kernel
theorem dX12_how_62 : decode cX12_how 62 = .ok (.iconst 1, 1) := by decide +kernel
theorem dX12_how_63 : decode cX12_how 63 = .ok (.if_icmp .ne 10, 3) := by decide +kernel
theorem dX12_how_66 : decode cX12_how 66 = .ok (.aload_n 0, 1) := by decide +kernel
theorem dX12_how_67 : decode cX12_how 67 = .ok (.getfield 344, 3) := by decide +kernel
theorem dX12_how_70 : decode cX12_how 70 = .ok (.goto 7, 3) := by decide +kernel
theorem dX12_how_73 : decode cX12_how 73 = .ok (.aload_n 0, 1) := by decide +kernel
theorem dX12_how_74 : decode cX12_how 74 = .ok (.getfield 347, 3) := by decide +kernel
theorem dX12_how_77 : decode cX12_how 77 = .ok (.ireturn, 1) := by decide +kernel
theorem dX12_sayableOf_0 : decode cX12_sayableOf 0 = .ok (.aload_n 0, 1) := by decide +kernel
theorem dX12_sayableOf_1 : decode cX12_sayableOf 1 = .ok (.iload_n 1, 1) := by decide +kernel
theorem dX12_sayableOf_2 : decode cX12_sayableOf 2 = .ok (.iload_n 2, 1) := by decide +kernel
theorem dX12_sayableOf_3 : decode cX12_sayableOf 3 = .ok (.invokevirtual 338, 3) := by decide +kernel
theorem dX12_sayableOf_6 : decode cX12_sayableOf 6 = .ok (.istore_n 3, 1) := by decide +kernel
theorem dX12_sayableOf_7 : decode cX12_sayableOf 7 = .ok (.aload_n 0, 1) := by decide +kernel
theorem dX12_sayableOf_8 : decode cX12_sayableOf 8 = .ok (.iload_n 2, 1) := by decide +kernel
theorem dX12_sayableOf_9 : decode cX12_sayableOf 9 = .ok (.putfield 358, 3) := by decide +kernel
theorem dX12_sayableOf_12 : decode cX12_sayableOf 12 = .ok (.iconst 0, 1) := by decide +kernel
theorem dX12_sayableOf_13 : decode cX12_sayableOf 13 = .ok (.istore 4, 2) := by decide +kernel
theorem dX12_sayableOf_15 : decode cX12_sayableOf 15 = .ok (.iload 4, 2) := by decide +kernel
theorem dX12_sayableOf_17 : decode cX12_sayableOf 17 = .ok (.bipush 64, 2) := by decide +kernel
theorem dX12_sayableOf_19 : decode cX12_sayableOf 19 = .ok (.if_icmp .ge 83, 3) := by decide +kernel
theorem dX12_sayableOf_22 : decode cX12_sayableOf 22 = .ok (.aload_n 0, 1) := by decide +kernel
theorem dX12_sayableOf_23 : decode cX12_sayableOf 23 = .ok (.iload_n 1, 1) := by decide +kernel
theorem dX12_sayableOf_24 : decode cX12_sayableOf 24 = .ok (.iload 4, 2) := by decide +kernel
theorem dX12_sayableOf_26 : decode cX12_sayableOf 26 = .ok (.invokevirtual 338, 3) := by decide +kernel
theorem dX12_sayableOf_29 : decode cX12_sayableOf 29 = .ok (.istore 5, 2) := by decide +kernel
theorem dX12_sayableOf_31 : decode cX12_sayableOf 31 = .ok (.iload 4, 2) := by decide +kernel
theorem dX12_sayableOf_33 : decode cX12_sayableOf 33 = .ok (.iload_n 2, 1) := by decide +kernel
theorem dX12_sayableOf_34 : decode cX12_sayableOf 34 = .ok (.if_icmp .eq 62, 3) := by decide +kernel
theorem dX12_sayableOf_37 : decode cX12_sayableOf 37 = .ok (.iload 5, 2) := by decide +kernel
theorem dX12_sayableOf_39 : decode cX12_sayableOf 39 = .ok (.ldc_w 324, 3) := by decide +kernel
theorem dX12_sayableOf_42 : decode cX12_sayableOf 42 = .ok (.if_icmp .ge 54, 3) := by decide +kernel
theorem dX12_sayableOf_45 : decode cX12_sayableOf 45 = .ok (.aload_n 0, 1) := by decide +kernel
theorem dX12_sayableOf_46 : decode cX12_sayableOf 46 = .ok (.getfield 291, 3) := by decide +kernel
theorem dX12_sayableOf_49 : decode cX12_sayableOf 49 = .ok (.ifCond .ne 6, 3) := by decide +kernel
theorem dX12_sayableOf_52 : decode cX12_sayableOf 52 = .ok (.goto 44, 3) := by decide +kernel
theorem dX12_sayableOf_55 : decode cX12_sayableOf 55 = .ok (.aload_n 0, 1) := by decide +kernel
theorem dX12_sayableOf_56 : decode cX12_sayableOf 56 = .ok (.iload_n 2, 1) := by decide +kernel
theorem dX12_sayableOf_57 : decode cX12_sayableOf 57 = .ok (.iload 4, 2) := by decide +kernel
theorem dX12_sayableOf_59 : decode cX12_sayableOf 59 = .ok (.iload 5, 2) := by decide +kernel
theorem dX12_sayableOf_61 : decode cX12_sayableOf 61 = .ok (.invokevirtual 361, 3) := by decide +kernel
theorem dX12_sayableOf_64 : decode cX12_sayableOf 64 = .ok (.istore 6, 2) := by decide +kernel
theorem dX12_sayableOf_66 : decode cX12_sayableOf 66 = .ok (.iload 6, 2) := by decide +kernel
theorem dX12_sayableOf_68 : decode cX12_sayableOf 68 = .ok (.iconst (-1), 1) := by decide +kernel
theorem dX12_sayableOf_69 : decode cX12_sayableOf 69 = .ok (.if_icmp .eq 27, 3) := by decide +kernel
theorem dX12_sayableOf_72 : decode cX12_sayableOf 72 = .ok (.iload 5, 2) := by decide +kernel
theorem dX12_sayableOf_74 : decode cX12_sayableOf 74 = .ok (.iload 6, 2) := by decide +kernel
theorem dX12_sayableOf_76 : decode cX12_sayableOf 76 = .ok (.iadd, 1) := by decide +kernel
theorem dX12_sayableOf_77 : decode cX12_sayableOf 77 = .ok (.iload_n 3, 1) := by decide +kernel
theorem dX12_sayableOf_78 : decode cX12_sayableOf 78 = .ok (.if_icmp .lt 6, 3) := by decide +kernel
theorem dX12_sayableOf_81 : decode cX12_sayableOf 81 = .ok (.goto 15, 3) := by decide +kernel
theorem dX12_sayableOf_84 : decode cX12_sayableOf 84 = .ok (.iload 5, 2) := by decide +kernel
theorem dX12_sayableOf_86 : decode cX12_sayableOf 86 = .ok (.iload 6, 2) := by decide +kernel
theorem dX12_sayableOf_88 : decode cX12_sayableOf 88 = .ok (.iadd, 1) := by decide +kernel
theorem dX12_sayableOf_89 : decode cX12_sayableOf 89 = .ok (.istore_n 3, 1) := by decide +kernel
theorem dX12_sayableOf_90 : decode cX12_sayableOf 90 = .ok (.aload_n 0, 1) := by decide +kernel
theorem dX12_sayableOf_91 : decode cX12_sayableOf 91 = .ok (.iload 4, 2) := by decide +kernel
theorem dX12_sayableOf_93 : decode cX12_sayableOf 93 = .ok (.putfield 358, 3) := by decide +kernel
theorem dX12_sayableOf_96 : decode cX12_sayableOf 96 = .ok (.iinc 4 1, 3) := by decide +kernel
theorem dX12_sayableOf_99 : decode cX12_sayableOf 99 = .ok (.goto (-84), 3) := by decide +kernel
theorem dX12_sayableOf_102 : decode cX12_sayableOf 102 = .ok (.iload_n 3, 1) := by decide +kernel
theorem dX12_sayableOf_103 : decode cX12_sayableOf 103 = .ok (.ireturn, 1) := by decide +kernel
theorem dX12_sayable_0 : decode cX12_sayable 0 = .ok (.aload_n 0, 1) := by decide +kernel
theorem dX12_sayable_1 : decode cX12_sayable 1 = .ok (.iload_n 1, 1) := by decide +kernel
theorem dX12_sayable_2 : decode cX12_sayable 2 = .ok (.invokevirtual 335, 3) := by decide +kernel
theorem dX12_sayable_5 : decode cX12_sayable 5 = .ok (.ifCond .eq 20, 3) := by decide +kernel
theorem dX12_sayable_8 : decode cX12_sayable 8 = .ok (.iload_n 2, 1) := by decide +kernel
theorem dX12_sayable_9 : decode cX12_sayable 9 = .ok (.invokestatic 153, 3) := by decide +kernel
theorem dX12_sayable_12 : decode cX12_sayable 12 = .ok (.ifCond .eq 13, 3) := by decide +kernel
theorem dX12_sayable_15 : decode cX12_sayable 15 = .ok (.iload_n 3, 1) := by decide +kernel
theorem dX12_sayable_16 : decode cX12_sayable 16 = .ok (.i2l, 1) := by decide +kernel
theorem dX12_sayable_17 : decode cX12_sayable 17 = .ok (.lconst 0, 1) := by decide +kernel
theorem dX12_sayable_18 : decode cX12_sayable 18 = .ok (.lconst 1, 1) := by decide +kernel
theorem dX12_sayable_19 : decode cX12_sayable 19 = .ok (.invokestatic 138, 3) := by decide +kernel
theorem dX12_sayable_22 : decode cX12_sayable 22 = .ok (.ifCond .ne 5, 3) := by decide +kernel
theorem dX12_sayable_25 : decode cX12_sayable 25 = .ok (.iconst (-1), 1) := by decide +kernel
theorem dX12_sayable_26 : decode cX12_sayable 26 = .ok (.ireturn, 1) := by decide +kernel
theorem dX12_sayable_27 : decode cX12_sayable 27 = .ok (.aload_n 0, 1) := by decide +kernel
theorem dX12_sayable_28 : decode cX12_sayable 28 = .ok (.iload_n 1, 1) := by decide +kernel
theorem dX12_sayable_29 : decode cX12_sayable 29 = .ok (.iload_n 2, 1) := by decide +kernel
theorem dX12_sayable_30 : decode cX12_sayable 30 = .ok (.invokevirtual 364, 3) := by decide +kernel
theorem dX12_sayable_33 : decode cX12_sayable 33 = .ok (.istore 4, 2) := by decide +kernel
theorem dX12_sayable_35 : decode cX12_sayable 35 = .ok (.iload 4, 2) := by decide +kernel
theorem dX12_sayable_37 : decode cX12_sayable 37 = .ok (.ldc_w 324, 3) := by decide +kernel
theorem dX12_sayable_40 : decode cX12_sayable 40 = .ok (.if_icmp .lt 8, 3) := by decide +kernel
theorem dX12_sayable_43 : decode cX12_sayable 43 = .ok (.bipush (-2), 2) := by decide +kernel
theorem dX12_sayable_45 : decode cX12_sayable 45 = .ok (.goto 16, 3) := by decide +kernel
theorem dX12_sayable_48 : decode cX12_sayable 48 = .ok (.iload_n 3, 1) := by decide +kernel
theorem dX12_sayable_49 : decode cX12_sayable 49 = .ok (.ifCond .ne 8, 3) := by decide +kernel
theorem dX12_sayable_52 : decode cX12_sayable 52 = .ok (.iload 4, 2) := by decide +kernel
theorem dX12_sayable_54 : decode cX12_sayable 54 = .ok (.goto 7, 3) := by decide +kernel
theorem dX12_sayable_57 : decode cX12_sayable 57 = .ok (.aload_n 0, 1) := by decide +kernel
theorem dX12_sayable_58 : decode cX12_sayable 58 = .ok (.getfield 358, 3) := by decide +kernel
theorem dX12_sayable_61 : decode cX12_sayable 61 = .ok (.ireturn, 1) := by decide +kernel
theorem dX12_changes_0 : decode cX12_changes 0 = .ok (.iconst 0, 1) := by decide +kernel
theorem dX12_changes_1 : decode cX12_changes 1 = .ok (.istore_n 1, 1) := by decide +kernel
theorem dX12_changes_2 : decode cX12_changes 2 = .ok (.iload_n 1, 1) := by decide +kernel
theorem dX12_changes_3 : decode cX12_changes 3 = .ok (.sipush 1024, 3) := by decide +kernel
theorem dX12_changes_6 : decode cX12_changes 6 = .ok (.if_icmp .ge 16, 3) := by decide +kernel
theorem dX12_changes_9 : decode cX12_changes 9 = .ok (.aload_n 0, 1) := by decide +kernel
theorem dX12_changes_10 : decode cX12_changes 10 = .ok (.getfield 92, 3) := by decide +kernel
theorem dX12_changes_13 : decode cX12_changes 13 = .ok (.iload_n 1, 1) := by decide +kernel
theorem dX12_changes_14 : decode cX12_changes 14 = .ok (.iconst 0, 1) := by decide +kernel
theorem dX12_changes_15 : decode cX12_changes 15 = .ok (.bastore, 1) := by decide +kernel
theorem dX12_changes_16 : decode cX12_changes 16 = .ok (.iinc 1 1, 3) := by decide +kernel
theorem dX12_changes_19 : decode cX12_changes 19 = .ok (.goto (-17), 3) := by decide +kernel
theorem dX12_changes_22 : decode cX12_changes 22 = .ok (.return_, 1) := by decide +kernel
theorem dX12_talksBy_0 : decode cX12_talksBy 0 = .ok (.aload_n 0, 1) := by decide +kernel
theorem dX12_talksBy_1 : decode cX12_talksBy 1 = .ok (.getfield 92, 3) := by decide +kernel
theorem dX12_talksBy_4 : decode cX12_talksBy 4 = .ok (.iload_n 1, 1) := by decide +kernel
theorem dX12_talksBy_5 : decode cX12_talksBy 5 = .ok (.baload, 1) := by decide +kernel
theorem dX12_talksBy_6 : decode cX12_talksBy 6 = .ok (.ifCond .eq 4, 3) := by decide +kernel
theorem dX12_talksBy_9 : decode cX12_talksBy 9 = .ok (.return_, 1) := by decide +kernel
theorem dX12_talksBy_10 : decode cX12_talksBy 10 = .ok (.aload_n 0, 1) := by decide +kernel
theorem dX12_talksBy_11 : decode cX12_talksBy 11 = .ok (.getfield 92, 3) := by decide +kernel
theorem dX12_talksBy_14 : decode cX12_talksBy 14 = .ok (.iload_n 1, 1) := by decide +kernel
theorem dX12_talksBy_15 : decode cX12_talksBy 15 = .ok (.iconst 1, 1) := by decide +kernel
theorem dX12_talksBy_16 : decode cX12_talksBy 16 = .ok (.bastore, 1) := by decide +kernel
theorem dX12_talksBy_17 : decode cX12_talksBy 17 = .ok (.aload_n 0, 1) := by decide +kernel
theorem dX12_talksBy_18 : decode cX12_talksBy 18 = .ok (.getfield 99, 3) := by decide +kernel
theorem dX12_talksBy_21 : decode cX12_talksBy 21 = .ok (.iload_n 1, 1) := by decide +kernel
theorem dX12_talksBy_22 : decode cX12_talksBy 22 = .ok (.iconst 0, 1) := by decide +kernel
theorem dX12_talksBy_23 : decode cX12_talksBy 23 = .ok (.iastore, 1) := by decide +kernel
theorem dX12_talksBy_24 : decode cX12_talksBy 24 = .ok (.iconst 0, 1) := by decide +kernel
theorem dX12_talksBy_25 : decode cX12_talksBy 25 = .ok (.istore_n 2, 1) := by decide +kernel
theorem dX12_talksBy_26 : decode cX12_talksBy 26 = .ok (.iload_n 2, 1) := by decide +kernel
theorem dX12_talksBy_27 : decode cX12_talksBy 27 = .ok (.iconst 4, 1) := by decide +kernel
theorem dX12_talksBy_28 : decode cX12_talksBy 28 = .ok (.if_icmp .ge 20, 3) := by decide +kernel
theorem dX12_talksBy_31 : decode cX12_talksBy 31 = .ok (.aload_n 0, 1) := by decide +kernel
theorem dX12_talksBy_32 : decode cX12_talksBy 32 = .ok (.getfield 95, 3) := by decide +kernel
theorem dX12_talksBy_35 : decode cX12_talksBy 35 = .ok (.iconst 4, 1) := by decide +kernel
theorem dX12_talksBy_36 : decode cX12_talksBy 36 = .ok (.iload_n 1, 1) := by decide +kernel
theorem dX12_talksBy_37 : decode cX12_talksBy 37 = .ok (.imul, 1) := by decide +kernel
theorem dX12_talksBy_38 : decode cX12_talksBy 38 = .ok (.iload_n 2, 1) := by decide +kernel
theorem dX12_talksBy_39 : decode cX12_talksBy 39 = .ok (.iadd, 1) := by decide +kernel
theorem dX12_talksBy_40 : decode cX12_talksBy 40 = .ok (.lconst 0, 1) := by decide +kernel
theorem dX12_talksBy_41 : decode cX12_talksBy 41 = .ok (.lastore, 1) := by decide +kernel
theorem dX12_talksBy_42 : decode cX12_talksBy 42 = .ok (.iinc 2 1, 3) := by decide +kernel
theorem dX12_talksBy_45 : decode cX12_talksBy 45 = .ok (.goto (-19), 3) := by decide +kernel
theorem dX12_talksBy_48 : decode cX12_talksBy 48 = .ok (.iconst 0, 1) := by decide +kernel
theorem dX12_talksBy_49 : decode cX12_talksBy 49 = .ok (.istore_n 2, 1) := by decide +kernel
theorem dX12_talksBy_50 : decode cX12_talksBy 50 = .ok (.iload_n 2, 1) := by decide +kernel
theorem dX12_talksBy_51 : decode cX12_talksBy 51 = .ok (.aload_n 0, 1) := by decide +kernel
theorem dX12_talksBy_52 : decode cX12_talksBy 52 = .ok (.getfield 167, 3) := by decide +kernel
theorem dX12_talksBy_55 : decode cX12_talksBy 55 = .ok (.if_icmp .ge 99, 3) := by decide +kernel
theorem dX12_talksBy_58 : decode cX12_talksBy 58 = .ok (.aload_n 0, 1) := by decide +kernel
theorem dX12_talksBy_59 : decode cX12_talksBy 59 = .ok (.iload_n 1, 1) := by decide +kernel
theorem dX12_talksBy_60 : decode cX12_talksBy 60 = .ok (.aload_n 0, 1) := by decide +kernel
theorem dX12_talksBy_61 : decode cX12_talksBy 61 = .ok (.getfield 36, 3) := by decide +kernel
theorem dX12_talksBy_64 : decode cX12_talksBy 64 = .ok (.iload_n 2, 1) := by decide +kernel
theorem dX12_talksBy_65 : decode cX12_talksBy 65 = .ok (.iaload, 1) := by decide +kernel
theorem dX12_talksBy_66 : decode cX12_talksBy 66 = .ok (.invokevirtual 364, 3) := by decide +kernel
theorem dX12_talksBy_69 : decode cX12_talksBy 69 = .ok (.istore_n 3, 1) := by decide +kernel
theorem dX12_talksBy_70 : decode cX12_talksBy 70 = .ok (.aload_n 0, 1) := by decide +kernel
theorem dX12_talksBy_71 : decode cX12_talksBy 71 = .ok (.getfield 95, 3) := by decide +kernel
theorem dX12_talksBy_74 : decode cX12_talksBy 74 = .ok (.iconst 4, 1) := by decide +kernel
theorem dX12_talksBy_75 : decode cX12_talksBy 75 = .ok (.iload_n 1, 1) := by decide +kernel
theorem dX12_talksBy_76 : decode cX12_talksBy 76 = .ok (.imul, 1) := by decide +kernel
theorem dX12_talksBy_77 : decode cX12_talksBy 77 = .ok (.aload_n 0, 1) := by decide +kernel
theorem dX12_talksBy_78 : decode cX12_talksBy 78 = .ok (.getfield 33, 3) := by decide +kernel
theorem dX12_talksBy_81 : decode cX12_talksBy 81 = .ok (.iload_n 2, 1) := by decide +kernel
theorem dX12_talksBy_82 : decode cX12_talksBy 82 = .ok (.iaload, 1) := by decide +kernel
theorem dX12_talksBy_83 : decode cX12_talksBy 83 = .ok (.iadd, 1) := by decide +kernel
theorem dX12_talksBy_84 : decode cX12_talksBy 84 = .ok (.dup2, 1) := by decide +kernel
theorem dX12_talksBy_85 : decode cX12_talksBy 85 = .ok (.laload, 1) := by decide +kernel
theorem dX12_talksBy_86 : decode cX12_talksBy 86 = .ok (.aload_n 0, 1) := by decide +kernel
theorem dX12_talksBy_87 : decode cX12_talksBy 87 = .ok (.getfield 39, 3) := by decide +kernel
theorem dX12_talksBy_90 : decode cX12_talksBy 90 = .ok (.iload_n 2, 1) := by decide +kernel
theorem dX12_talksBy_91 : decode cX12_talksBy 91 = .ok (.iaload, 1) := by decide +kernel
theorem dX12_talksBy_92 : decode cX12_talksBy 92 = .ok (.i2l, 1) := by decide +kernel
theorem dX12_talksBy_93 : decode cX12_talksBy 93 = .ok (.iload_n 3, 1) := by decide +kernel
theorem dX12_talksBy_94 : decode cX12_talksBy 94 = .ok (.aload_n 0, 1) := by decide +kernel
theorem dX12_talksBy_95 : decode cX12_talksBy 95 = .ok (.getfield 13, 3) := by decide +kernel
theorem dX12_talksBy_98 : decode cX12_talksBy 98 = .ok (.if_icmp .ge 7, 3) := by decide +kernel
theorem dX12_talksBy_101 : decode cX12_talksBy 101 = .ok (.iload_n 3, 1) := by decide +kernel
theorem dX12_talksBy_102 : decode cX12_talksBy 102 = .ok (.goto 7, 3) := by decide +kernel
theorem dX12_talksBy_105 : decode cX12_talksBy 105 = .ok (.aload_n 0, 1) := by decide +kernel
theorem dX12_talksBy_106 : decode cX12_talksBy 106 = .ok (.getfield 13, 3) := by decide +kernel
theorem dX12_talksBy_109 : decode cX12_talksBy 109 = .ok (.i2l, 1) := by decide +kernel
theorem dX12_talksBy_110 : decode cX12_talksBy 110 = .ok (.lmul, 1) := by decide +kernel
theorem dX12_talksBy_111 : decode cX12_talksBy 111 = .ok (.ladd, 1) := by decide +kernel
theorem dX12_talksBy_112 : decode cX12_talksBy 112 = .ok (.lastore, 1) := by decide +kernel
theorem dX12_talksBy_113 : decode cX12_talksBy 113 = .ok (.aload_n 0, 1) := by decide +kernel
theorem dX12_talksBy_114 : decode cX12_talksBy 114 = .ok (.getfield 99, 3) := by decide +kernel
theorem dX12_talksBy_117 : decode cX12_talksBy 117 = .ok (.iload_n 1, 1) := by decide +kernel
theorem dX12_talksBy_118 : decode cX12_talksBy 118 = .ok (.dup2, 1) := by decide +kernel
theorem dX12_talksBy_119 : decode cX12_talksBy 119 = .ok (.iaload, 1) := by decide +kernel
theorem dX12_talksBy_120 : decode cX12_talksBy 120 = .ok (.aload_n 0, 1) := by decide +kernel
theorem dX12_talksBy_121 : decode cX12_talksBy 121 = .ok (.getfield 42, 3) := by decide +kernel
theorem dX12_talksBy_124 : decode cX12_talksBy 124 = .ok (.iload_n 2, 1) := by decide +kernel
theorem dX12_talksBy_125 : decode cX12_talksBy 125 = .ok (.iaload, 1) := by decide +kernel
theorem dX12_talksBy_126 : decode cX12_talksBy 126 = .ok (.ifCond .le 19, 3) := by decide +kernel
theorem dX12_talksBy_129 : decode cX12_talksBy 129 = .ok (.iload_n 3, 1) := by decide +kernel
theorem dX12_talksBy_130 : decode cX12_talksBy 130 = .ok (.aload_n 0, 1) := by decide +kernel
theorem dX12_talksBy_131 : decode cX12_talksBy 131 = .ok (.getfield 42, 3) := by decide +kernel
theorem dX12_talksBy_134 : decode cX12_talksBy 134 = .ok (.iload_n 2, 1) := by decide +kernel
theorem dX12_talksBy_135 : decode cX12_talksBy 135 = .ok (.iaload, 1) := by decide +kernel
theorem dX12_talksBy_136 : decode cX12_talksBy 136 = .ok (.if_icmp .le 9, 3) := by decide +kernel
theorem dX12_talksBy_139 : decode cX12_talksBy 139 = .ok (.iconst 1, 1) := by decide +kernel
theorem dX12_talksBy_140 : decode cX12_talksBy 140 = .ok (.iload_n 2, 1) := by decide +kernel
theorem dX12_talksBy_141 : decode cX12_talksBy 141 = .ok (.ishl, 1) := by decide +kernel
theorem dX12_talksBy_142 : decode cX12_talksBy 142 = .ok (.goto 4, 3) := by decide +kernel
theorem dX12_talksBy_145 : decode cX12_talksBy 145 = .ok (.iconst 0, 1) := by decide +kernel
theorem dX12_talksBy_146 : decode cX12_talksBy 146 = .ok (.ior, 1) := by decide +kernel
theorem dX12_talksBy_147 : decode cX12_talksBy 147 = .ok (.iastore, 1) := by decide +kernel
theorem dX12_talksBy_148 : decode cX12_talksBy 148 = .ok (.iinc 2 1, 3) := by decide +kernel
theorem dX12_talksBy_151 : decode cX12_talksBy 151 = .ok (.goto (-101), 3) := by decide +kernel
theorem dX12_talksBy_154 : decode cX12_talksBy 154 = .ok (.return_, 1) := by decide +kernel
theorem dX12_talkBy_0 : decode cX12_talkBy 0 = .ok (.aload_n 0, 1) := by decide +kernel
theorem dX12_talkBy_1 : decode cX12_talkBy 1 = .ok (.iload_n 1, 1) := by decide +kernel
theorem dX12_talkBy_2 : decode cX12_talkBy 2 = .ok (.invokevirtual 367, 3) := by decide +kernel
theorem dX12_talkBy_5 : decode cX12_talkBy 5 = .ok (.aload_n 0, 1) := by decide +kernel
theorem dX12_talkBy_6 : decode cX12_talkBy 6 = .ok (.getfield 95, 3) := by decide +kernel
theorem dX12_talkBy_9 : decode cX12_talkBy 9 = .ok (.iconst 4, 1) := by decide +kernel
theorem dX12_talkBy_10 : decode cX12_talkBy 10 = .ok (.iload_n 1, 1) := by decide +kernel
theorem dX12_talkBy_11 : decode cX12_talkBy 11 = .ok (.imul, 1) := by decide +kernel
theorem dX12_talkBy_12 : decode cX12_talkBy 12 = .ok (.iload_n 2, 1) := by decide +kernel
theorem dX12_talkBy_13 : decode cX12_talkBy 13 = .ok (.iadd, 1) := by decide +kernel
theorem dX12_talkBy_14 : decode cX12_talkBy 14 = .ok (.laload, 1) := by decide +kernel
theorem dX12_talkBy_15 : decode cX12_talkBy 15 = .ok (.lreturn, 1) := by decide +kernel
theorem dX12_talkOf_0 : decode cX12_talkOf 0 = .ok (.lconst 0, 1) := by decide +kernel
theorem dX12_talkOf_1 : decode cX12_talkOf 1 = .ok (.lstore_n 2, 1) := by decide +kernel
theorem dX12_talkOf_2 : decode cX12_talkOf 2 = .ok (.iconst 0, 1) := by decide +kernel
theorem dX12_talkOf_3 : decode cX12_talkOf 3 = .ok (.istore 4, 2) := by decide +kernel
theorem dX12_talkOf_5 : decode cX12_talkOf 5 = .ok (.iload 4, 2) := by decide +kernel
theorem dX12_talkOf_7 : decode cX12_talkOf 7 = .ok (.iconst 4, 1) := by decide +kernel
theorem dX12_talkOf_8 : decode cX12_talkOf 8 = .ok (.if_icmp .ge 19, 3) := by decide +kernel
theorem dX12_talkOf_11 : decode cX12_talkOf 11 = .ok (.lload_n 2, 1) := by decide +kernel
theorem dX12_talkOf_12 : decode cX12_talkOf 12 = .ok (.aload_n 0, 1) := by decide +kernel
theorem dX12_talkOf_13 : decode cX12_talkOf 13 = .ok (.iload_n 1, 1) := by decide +kernel
theorem dX12_talkOf_14 : decode cX12_talkOf 14 = .ok (.iload 4, 2) := by decide +kernel
theorem dX12_talkOf_16 : decode cX12_talkOf 16 = .ok (.invokevirtual 370, 3) := by decide +kernel
theorem dX12_talkOf_19 : decode cX12_talkOf 19 = .ok (.ladd, 1) := by decide +kernel
theorem dX12_talkOf_20 : decode cX12_talkOf 20 = .ok (.lstore_n 2, 1) := by decide +kernel
theorem dX12_talkOf_21 : decode cX12_talkOf 21 = .ok (.iinc 4 1, 3) := by decide +kernel
theorem dX12_talkOf_24 : decode cX12_talkOf 24 = .ok (.goto (-19), 3) := by decide +kernel
theorem dX12_talkOf_27 : decode cX12_talkOf 27 = .ok (.lload_n 2, 1) := by decide +kernel
theorem dX12_talkOf_28 : decode cX12_talkOf 28 = .ok (.lreturn, 1) := by decide +kernel
theorem dX12_talk_0 : decode cX12_talk 0 = .ok (.aload_n 0, 1) := by decide +kernel
theorem dX12_talk_1 : decode cX12_talk 1 = .ok (.iload_n 1, 1) := by decide +kernel
theorem dX12_talk_2 : decode cX12_talk 2 = .ok (.invokevirtual 335, 3) := by decide +kernel
theorem dX12_talk_5 : decode cX12_talk 5 = .ok (.ifCond .eq 15, 3) := by decide +kernel
theorem dX12_talk_8 : decode cX12_talk 8 = .ok (.iload_n 2, 1) := by decide +kernel
theorem dX12_talk_9 : decode cX12_talk 9 = .ok (.iconst (-1), 1) := by decide +kernel
theorem dX12_talk_10 : decode cX12_talk 10 = .ok (.if_icmp .eq 14, 3) := by decide +kernel
theorem dX12_talk_13 : decode cX12_talk 13 = .ok (.iload_n 2, 1) := by decide +kernel
theorem dX12_talk_14 : decode cX12_talk 14 = .ok (.invokestatic 162, 3) := by decide +kernel
theorem dX12_talk_17 : decode cX12_talk 17 = .ok (.ifCond .ne 7, 3) := by decide +kernel
theorem dX12_talk_20 : decode cX12_talk 20 = .ok (.ldc2_w 374, 3) := by decide +kernel
theorem dX12_talk_23 : decode cX12_talk 23 = .ok (.lreturn, 1) := by decide +kernel
theorem dX12_talk_24 : decode cX12_talk 24 = .ok (.iload_n 2, 1) := by decide +kernel
theorem dX12_talk_25 : decode cX12_talk 25 = .ok (.iconst (-1), 1) := by decide +kernel
theorem dX12_talk_26 : decode cX12_talk 26 = .ok (.if_icmp .ne 11, 3) := by decide +kernel
theorem dX12_talk_29 : decode cX12_talk 29 = .ok (.aload_n 0, 1) := by decide +kernel
theorem dX12_talk_30 : decode cX12_talk 30 = .ok (.iload_n 1, 1) := by decide +kernel
theorem dX12_talk_31 : decode cX12_talk 31 = .ok (.invokevirtual 376, 3) := by decide +kernel
theorem dX12_talk_34 : decode cX12_talk 34 = .ok (.goto 9, 3) := by decide +kernel
theorem dX12_talk_37 : decode cX12_talk 37 = .ok (.aload_n 0, 1) := by decide +kernel
theorem dX12_talk_38 : decode cX12_talk 38 = .ok (.iload_n 1, 1) := by decide +kernel
theorem dX12_talk_39 : decode cX12_talk 39 = .ok (.iload_n 2, 1) := by decide +kernel
theorem dX12_talk_40 : decode cX12_talk 40 = .ok (.invokevirtual 370, 3) := by decide +kernel
theorem dX12_talk_43 : decode cX12_talk 43 = .ok (.lreturn, 1) := by decide +kernel
theorem dX12_mustsOf_0 : decode cX12_mustsOf 0 = .ok (.aload_n 0, 1) := by decide +kernel
theorem dX12_mustsOf_1 : decode cX12_mustsOf 1 = .ok (.iload_n 1, 1) := by decide +kernel
theorem dX12_mustsOf_2 : decode cX12_mustsOf 2 = .ok (.invokevirtual 367, 3) := by decide +kernel
theorem dX12_mustsOf_5 : decode cX12_mustsOf 5 = .ok (.aload_n 0, 1) := by decide +kernel
theorem dX12_mustsOf_6 : decode cX12_mustsOf 6 = .ok (.getfield 99, 3) := by decide +kernel
theorem dX12_mustsOf_9 : decode cX12_mustsOf 9 = .ok (.iload_n 1, 1) := by decide +kernel
theorem dX12_mustsOf_10 : decode cX12_mustsOf 10 = .ok (.iaload, 1) := by decide +kernel
theorem dX12_mustsOf_11 : decode cX12_mustsOf 11 = .ok (.ireturn, 1) := by decide +kernel
theorem dX12_musts_0 : decode cX12_musts 0 = .ok (.aload_n 0, 1) := by decide +kernel
theorem dX12_musts_1 : decode cX12_musts 1 = .ok (.iload_n 1, 1) := by decide +kernel
theorem dX12_musts_2 : decode cX12_musts 2 = .ok (.invokevirtual 335, 3) := by decide +kernel
theorem dX12_musts_5 : decode cX12_musts 5 = .ok (.ifCond .eq 11, 3) := by decide +kernel
theorem dX12_musts_8 : decode cX12_musts 8 = .ok (.aload_n 0, 1) := by decide +kernel
theorem dX12_musts_9 : decode cX12_musts 9 = .ok (.iload_n 1, 1) := by decide +kernel
theorem dX12_musts_10 : decode cX12_musts 10 = .ok (.invokevirtual 380, 3) := by decide +kernel
theorem dX12_musts_13 : decode cX12_musts 13 = .ok (.goto 4, 3) := by decide +kernel
theorem dX12_musts_16 : decode cX12_musts 16 = .ok (.iconst (-1), 1) := by decide +kernel
theorem dX12_musts_17 : decode cX12_musts 17 = .ok (.ireturn, 1) := by decide +kernel
theorem dX12_strike_0 : decode cX12_strike 0 = .ok (.aload_n 0, 1) := by decide +kernel
theorem dX12_strike_1 : decode cX12_strike 1 = .ok (.iload_n 1, 1) := by decide +kernel
theorem dX12_strike_2 : decode cX12_strike 2 = .ok (.invokevirtual 383, 3) := by decide +kernel
theorem dX12_strike_5 : decode cX12_strike 5 = .ok (.ifCond .ne 5, 3) := by decide +kernel
theorem dX12_strike_8 : decode cX12_strike 8 = .ok (.iconst (-1), 1) := by decide +kernel
theorem dX12_strike_9 : decode cX12_strike 9 = .ok (.ireturn, 1) := by decide +kernel
theorem dX12_strike_10 : decode cX12_strike 10 = .ok (.aload_n 0, 1) := by decide +kernel
theorem dX12_strike_11 : decode cX12_strike 11 = .ok (.dup, 1) := by decide +kernel
theorem dX12_strike_12 : decode cX12_strike 12 = .ok (.getfield 146, 3) := by decide +kernel
theorem dX12_strike_15 : decode cX12_strike 15 = .ok (.iconst 1, 1) := by decide +kernel
theorem dX12_strike_16 : decode cX12_strike 16 = .ok (.iload_n 1, 1) := by decide +kernel
theorem dX12_strike_17 : decode cX12_strike 17 = .ok (.ishl, 1) := by decide +kernel
theorem dX12_strike_18 : decode cX12_strike 18 = .ok (.iconst (-1), 1) := by decide +kernel
theorem dX12_strike_19 : decode cX12_strike 19 = .ok (.ixor, 1) := by decide +kernel
theorem dX12_strike_20 : decode cX12_strike 20 = .ok (.iand, 1) := by decide +kernel
theorem dX12_strike_21 : decode cX12_strike 21 = .ok (.putfield 146, 3) := by decide +kernel
theorem dX12_strike_24 : decode cX12_strike 24 = .ok (.aload_n 0, 1) := by decide +kernel
theorem dX12_strike_25 : decode cX12_strike 25 = .ok (.getfield 27, 3) := by decide +kernel
theorem dX12_strike_28 : decode cX12_strike 28 = .ok (.iload_n 1, 1) := by decide +kernel
theorem dX12_strike_29 : decode cX12_strike 29 = .ok (.aload_n 0, 1) := by decide +kernel
theorem dX12_strike_30 : decode cX12_strike 30 = .ok (.getfield 386, 3) := by decide +kernel
theorem dX12_strike_33 : decode cX12_strike 33 = .ok (.iastore, 1) := by decide +kernel
theorem dX12_strike_34 : decode cX12_strike 34 = .ok (.aload_n 0, 1) := by decide +kernel
theorem dX12_strike_35 : decode cX12_strike 35 = .ok (.dup, 1) := by decide +kernel
theorem dX12_strike_36 : decode cX12_strike 36 = .ok (.getfield 386, 3) := by decide +kernel
theorem dX12_strike_39 : decode cX12_strike 39 = .ok (.iconst 1, 1) := by decide +kernel
theorem dX12_strike_40 : decode cX12_strike 40 = .ok (.iadd, 1) := by decide +kernel
theorem dX12_strike_41 : decode cX12_strike 41 = .ok (.putfield 386, 3) := by decide +kernel
theorem dX12_strike_44 : decode cX12_strike 44 = .ok (.aload_n 0, 1) := by decide +kernel
theorem dX12_strike_45 : decode cX12_strike 45 = .ok (.getfield 386, 3) := by decide +kernel
theorem dX12_strike_48 : decode cX12_strike 48 = .ok (.iconst 1, 1) := by decide +kernel
theorem dX12_strike_49 : decode cX12_strike 49 = .ok (.isub, 1) := by decide +kernel
theorem dX12_strike_50 : decode cX12_strike 50 = .ok (.ireturn, 1) := by decide +kernel
theorem dX12_costs_0 : decode cX12_costs 0 = .ok (.aload_n 0, 1) := by decide +kernel
theorem dX12_costs_1 : decode cX12_costs 1 = .ok (.iload_n 1, 1) := by decide +kernel
theorem dX12_costs_2 : decode cX12_costs 2 = .ok (.invokevirtual 383, 3) := by decide +kernel
theorem dX12_costs_5 : decode cX12_costs 5 = .ok (.ifCond .eq 29, 3) := by decide +kernel
theorem dX12_costs_8 : decode cX12_costs 8 = .ok (.aload_n 0, 1) := by decide +kernel
theorem dX12_costs_9 : decode cX12_costs 9 = .ok (.aload_n 0, 1) := by decide +kernel
theorem dX12_costs_10 : decode cX12_costs 10 = .ok (.getfield 146, 3) := by decide +kernel
theorem dX12_costs_13 : decode cX12_costs 13 = .ok (.iconst 1, 1) := by decide +kernel
theorem dX12_costs_14 : decode cX12_costs 14 = .ok (.iload_n 1, 1) := by decide +kernel
theorem dX12_costs_15 : decode cX12_costs 15 = .ok (.ishl, 1) := by decide +kernel
theorem dX12_costs_16 : decode cX12_costs 16 = .ok (.iconst (-1), 1) := by decide +kernel
theorem dX12_costs_17 : decode cX12_costs 17 = .ok (.ixor, 1) := by decide +kernel
theorem dX12_costs_18 : decode cX12_costs 18 = .ok (.iand, 1) := by decide +kernel
theorem dX12_costs_19 : decode cX12_costs 19 = .ok (.invokevirtual 376, 3) := by decide +kernel
theorem dX12_costs_22 : decode cX12_costs 22 = .ok (.aload_n 0, 1) := by decide +kernel
theorem dX12_costs_23 : decode cX12_costs 23 = .ok (.aload_n 0, 1) := by decide +kernel
theorem dX12_costs_24 : decode cX12_costs 24 = .ok (.getfield 146, 3) := by decide +kernel
theorem dX12_costs_27 : decode cX12_costs 27 = .ok (.invokevirtual 376, 3) := by decide +kernel
theorem dX12_costs_30 : decode cX12_costs 30 = .ok (.lsub, 1) := by decide +kernel
theorem dX12_costs_31 : decode cX12_costs 31 = .ok (.goto 6, 3) := by decide +kernel
theorem dX12_costs_34 : decode cX12_costs 34 = .ok (.ldc2_w 389, 3) := by decide +kernel
theorem dX12_costs_37 : decode cX12_costs 37 = .ok (.lreturn, 1) := by decide +kernel
theorem dX12_leastOf_0 : decode cX12_leastOf 0 = .ok (.iconst (-1), 1) := by decide +kernel
theorem dX12_leastOf_1 : decode cX12_leastOf 1 = .ok (.istore_n 2, 1) := by decide +kernel
theorem dX12_leastOf_2 : decode cX12_leastOf 2 = .ok (.lconst 0, 1) := by decide +kernel
theorem dX12_leastOf_3 : decode cX12_leastOf 3 = .ok (.lstore_n 3, 1) := by decide +kernel
theorem dX12_leastOf_4 : decode cX12_leastOf 4 = .ok (.iconst 0, 1) := by decide +kernel
theorem dX12_leastOf_5 : decode cX12_leastOf 5 = .ok (.istore 5, 2) := by decide +kernel
theorem dX12_leastOf_7 : decode cX12_leastOf 7 = .ok (.iload 5, 2) := by decide +kernel
theorem dX12_leastOf_9 : decode cX12_leastOf 9 = .ok (.aload_n 0, 1) := by decide +kernel
theorem dX12_leastOf_10 : decode cX12_leastOf 10 = .ok (.getfield 135, 3) := by decide +kernel
theorem dX12_leastOf_13 : decode cX12_leastOf 13 = .ok (.if_icmp .ge 56, 3) := by decide +kernel
theorem dX12_leastOf_16 : decode cX12_leastOf 16 = .ok (.iload_n 1, 1) := by decide +kernel
theorem dX12_leastOf_17 : decode cX12_leastOf 17 = .ok (.iload 5, 2) := by decide +kernel
theorem dX12_leastOf_19 : decode cX12_leastOf 19 = .ok (.invokestatic 149, 3) := by decide +kernel
theorem dX12_leastOf_22 : decode cX12_leastOf 22 = .ok (.ifCond .ne 6, 3) := by decide +kernel
theorem dX12_leastOf_25 : decode cX12_leastOf 25 = .ok (.goto 38, 3) := by decide +kernel
theorem dX12_leastOf_28 : decode cX12_leastOf 28 = .ok (.aload_n 0, 1) := by decide +kernel
theorem dX12_leastOf_29 : decode cX12_leastOf 29 = .ok (.iload_n 1, 1) := by decide +kernel
theorem dX12_leastOf_30 : decode cX12_leastOf 30 = .ok (.iconst 1, 1) := by decide +kernel
theorem dX12_leastOf_31 : decode cX12_leastOf 31 = .ok (.iload 5, 2) := by decide +kernel
theorem dX12_leastOf_33 : decode cX12_leastOf 33 = .ok (.ishl, 1) := by decide +kernel
theorem dX12_leastOf_34 : decode cX12_leastOf 34 = .ok (.iconst (-1), 1) := by decide +kernel
theorem dX12_leastOf_35 : decode cX12_leastOf 35 = .ok (.ixor, 1) := by decide +kernel
theorem dX12_leastOf_36 : decode cX12_leastOf 36 = .ok (.iand, 1) := by decide +kernel
theorem dX12_leastOf_37 : decode cX12_leastOf 37 = .ok (.invokevirtual 376, 3) := by decide +kernel
theorem dX12_leastOf_40 : decode cX12_leastOf 40 = .ok (.lstore 6, 2) := by decide +kernel
theorem dX12_leastOf_42 : decode cX12_leastOf 42 = .ok (.iload_n 2, 1) := by decide +kernel
theorem dX12_leastOf_43 : decode cX12_leastOf 43 = .ok (.iconst (-1), 1) := by decide +kernel
theorem dX12_leastOf_44 : decode cX12_leastOf 44 = .ok (.if_icmp .eq 13, 3) := by decide +kernel
theorem dX12_leastOf_47 : decode cX12_leastOf 47 = .ok (.lload 6, 2) := by decide +kernel
theorem dX12_leastOf_49 : decode cX12_leastOf 49 = .ok (.lload_n 3, 1) := by decide +kernel
theorem dX12_leastOf_50 : decode cX12_leastOf 50 = .ok (.lcmp, 1) := by decide +kernel
theorem dX12_leastOf_51 : decode cX12_leastOf 51 = .ok (.ifCond .lt 6, 3) := by decide +kernel
theorem dX12_leastOf_54 : decode cX12_leastOf 54 = .ok (.goto 9, 3) := by decide +kernel
theorem dX12_leastOf_57 : decode cX12_leastOf 57 = .ok (.iload 5, 2) := by decide +kernel
theorem dX12_leastOf_59 : decode cX12_leastOf 59 = .ok (.istore_n 2, 1) := by decide +kernel
theorem dX12_leastOf_60 : decode cX12_leastOf 60 = .ok (.lload 6, 2) := by decide +kernel
theorem dX12_leastOf_62 : decode cX12_leastOf 62 = .ok (.lstore_n 3, 1) := by decide +kernel
theorem dX12_leastOf_63 : decode cX12_leastOf 63 = .ok (.iinc 5 1, 3) := by decide +kernel
theorem dX12_leastOf_66 : decode cX12_leastOf 66 = .ok (.goto (-59), 3) := by decide +kernel
theorem dX12_leastOf_69 : decode cX12_leastOf 69 = .ok (.iload_n 2, 1) := by decide +kernel
theorem dX12_leastOf_70 : decode cX12_leastOf 70 = .ok (.ireturn, 1) := by decide +kernel
theorem dX12_least_0 : decode cX12_least 0 = .ok (.aload_n 0, 1) := by decide +kernel
theorem dX12_least_1 : decode cX12_least 1 = .ok (.aload_n 0, 1) := by decide +kernel
theorem dX12_least_2 : decode cX12_least 2 = .ok (.getfield 146, 3) := by decide +kernel
theorem dX12_least_5 : decode cX12_least 5 = .ok (.invokevirtual 391, 3) := by decide +kernel
theorem dX12_least_8 : decode cX12_least 8 = .ok (.ireturn, 1) := by decide +kernel
theorem dX12_growsBy_0 : decode cX12_growsBy 0 = .ok (.aload_n 0, 1) := by decide +kernel
theorem dX12_growsBy_1 : decode cX12_growsBy 1 = .ok (.aload_n 0, 1) := by decide +kernel
theorem dX12_growsBy_2 : decode cX12_growsBy 2 = .ok (.getfield 146, 3) := by decide +kernel
theorem dX12_growsBy_5 : decode cX12_growsBy 5 = .ok (.iconst 1, 1) := by decide +kernel
theorem dX12_growsBy_6 : decode cX12_growsBy 6 = .ok (.iload_n 1, 1) := by decide +kernel
theorem dX12_growsBy_7 : decode cX12_growsBy 7 = .ok (.ishl, 1) := by decide +kernel
theorem dX12_growsBy_8 : decode cX12_growsBy 8 = .ok (.iconst (-1), 1) := by decide +kernel
theorem dX12_growsBy_9 : decode cX12_growsBy 9 = .ok (.ixor, 1) := by decide +kernel
theorem dX12_growsBy_10 : decode cX12_growsBy 10 = .ok (.iand, 1) := by decide +kernel
theorem dX12_growsBy_11 : decode cX12_growsBy 11 = .ok (.iload_n 2, 1) := by decide +kernel
theorem dX12_growsBy_12 : decode cX12_growsBy 12 = .ok (.invokevirtual 370, 3) := by decide +kernel
theorem dX12_growsBy_15 : decode cX12_growsBy 15 = .ok (.aload_n 0, 1) := by decide +kernel
theorem dX12_growsBy_16 : decode cX12_growsBy 16 = .ok (.aload_n 0, 1) := by decide +kernel
theorem dX12_growsBy_17 : decode cX12_growsBy 17 = .ok (.getfield 146, 3) := by decide +kernel
theorem dX12_growsBy_20 : decode cX12_growsBy 20 = .ok (.iload_n 2, 1) := by decide +kernel
theorem dX12_growsBy_21 : decode cX12_growsBy 21 = .ok (.invokevirtual 370, 3) := by decide +kernel
theorem dX12_growsBy_24 : decode cX12_growsBy 24 = .ok (.lsub, 1) := by decide +kernel
theorem dX12_growsBy_25 : decode cX12_growsBy 25 = .ok (.lreturn, 1) := by decide +kernel
theorem dX12_spite_0 : decode cX12_spite 0 = .ok (.iload_n 1, 1) := by decide +kernel
theorem dX12_spite_1 : decode cX12_spite 1 = .ok (.invokestatic 162, 3) := by decide +kernel
theorem dX12_spite_4 : decode cX12_spite 4 = .ok (.ifCond .ne 5, 3) := by decide +kernel
theorem dX12_spite_7 : decode cX12_spite 7 = .ok (.iconst (-1), 1) := by decide +kernel
theorem dX12_spite_8 : decode cX12_spite 8 = .ok (.ireturn, 1) := by decide +kernel
theorem dX12_spite_9 : decode cX12_spite 9 = .ok (.iconst (-1), 1) := by decide +kernel
theorem dX12_spite_10 : decode cX12_spite 10 = .ok (.istore_n 2, 1) := by decide +kernel
theorem dX12_spite_11 : decode cX12_spite 11 = .ok (.lconst 0, 1) := by decide +kernel
theorem dX12_spite_12 : decode cX12_spite 12 = .ok (.lstore_n 3, 1) := by decide +kernel
theorem dX12_spite_13 : decode cX12_spite 13 = .ok (.iconst 0, 1) := by decide +kernel
theorem dX12_spite_14 : decode cX12_spite 14 = .ok (.istore 5, 2) := by decide +kernel
theorem dX12_spite_16 : decode cX12_spite 16 = .ok (.iload 5, 2) := by decide +kernel
theorem dX12_spite_18 : decode cX12_spite 18 = .ok (.aload_n 0, 1) := by decide +kernel
theorem dX12_spite_19 : decode cX12_spite 19 = .ok (.getfield 135, 3) := by decide +kernel
theorem dX12_spite_22 : decode cX12_spite 22 = .ok (.if_icmp .ge 90, 3) := by decide +kernel
theorem dX12_spite_25 : decode cX12_spite 25 = .ok (.aload_n 0, 1) := by decide +kernel
theorem dX12_spite_26 : decode cX12_spite 26 = .ok (.getfield 146, 3) := by decide +kernel
theorem dX12_spite_29 : decode cX12_spite 29 = .ok (.iload 5, 2) := by decide +kernel
theorem dX12_spite_31 : decode cX12_spite 31 = .ok (.invokestatic 149, 3) := by decide +kernel
theorem dX12_spite_34 : decode cX12_spite 34 = .ok (.ifCond .ne 6, 3) := by decide +kernel
theorem dX12_spite_37 : decode cX12_spite 37 = .ok (.goto 69, 3) := by decide +kernel
theorem dX12_spite_40 : decode cX12_spite 40 = .ok (.aload_n 0, 1) := by decide +kernel
theorem dX12_spite_41 : decode cX12_spite 41 = .ok (.iload 5, 2) := by decide +kernel
theorem dX12_spite_43 : decode cX12_spite 43 = .ok (.iload_n 1, 1) := by decide +kernel
theorem dX12_spite_44 : decode cX12_spite 44 = .ok (.invokevirtual 394, 3) := by decide +kernel
theorem dX12_spite_47 : decode cX12_spite 47 = .ok (.lstore 6, 2) := by decide +kernel
theorem dX12_spite_49 : decode cX12_spite 49 = .ok (.aload_n 0, 1) := by decide +kernel
theorem dX12_spite_50 : decode cX12_spite 50 = .ok (.aload_n 0, 1) := by decide +kernel
theorem dX12_spite_51 : decode cX12_spite 51 = .ok (.getfield 146, 3) := by decide +kernel
theorem dX12_spite_54 : decode cX12_spite 54 = .ok (.iconst 1, 1) := by decide +kernel
theorem dX12_spite_55 : decode cX12_spite 55 = .ok (.iload 5, 2) := by decide +kernel
theorem dX12_spite_57 : decode cX12_spite 57 = .ok (.ishl, 1) := by decide +kernel
theorem dX12_spite_58 : decode cX12_spite 58 = .ok (.iconst (-1), 1) := by decide +kernel
theorem dX12_spite_59 : decode cX12_spite 59 = .ok (.ixor, 1) := by decide +kernel
theorem dX12_spite_60 : decode cX12_spite 60 = .ok (.iand, 1) := by decide +kernel
theorem dX12_spite_61 : decode cX12_spite 61 = .ok (.invokevirtual 376, 3) := by decide +kernel
theorem dX12_spite_64 : decode cX12_spite 64 = .ok (.aload_n 0, 1) := by decide +kernel
theorem dX12_spite_65 : decode cX12_spite 65 = .ok (.aload_n 0, 1) := by decide +kernel
theorem dX12_spite_66 : decode cX12_spite 66 = .ok (.getfield 146, 3) := by decide +kernel
theorem dX12_spite_69 : decode cX12_spite 69 = .ok (.invokevirtual 376, 3) := by decide +kernel
theorem dX12_spite_72 : decode cX12_spite 72 = .ok (.lsub, 1) := by decide +kernel
theorem dX12_spite_73 : decode cX12_spite 73 = .ok (.lload 6, 2) := by decide +kernel
theorem dX12_spite_75 : decode cX12_spite 75 = .ok (.lsub, 1) := by decide +kernel
theorem dX12_spite_76 : decode cX12_spite 76 = .ok (.ldc2_w 144, 3) := by decide +kernel
theorem dX12_spite_79 : decode cX12_spite 79 = .ok (.lload 6, 2) := by decide +kernel
theorem dX12_spite_81 : decode cX12_spite 81 = .ok (.lmul, 1) := by decide +kernel
theorem dX12_spite_82 : decode cX12_spite 82 = .ok (.lsub, 1) := by decide +kernel
theorem dX12_spite_83 : decode cX12_spite 83 = .ok (.lstore 8, 2) := by decide +kernel
theorem dX12_spite_85 : decode cX12_spite 85 = .ok (.iload_n 2, 1) := by decide +kernel
theorem dX12_spite_86 : decode cX12_spite 86 = .ok (.iconst (-1), 1) := by decide +kernel
theorem dX12_spite_87 : decode cX12_spite 87 = .ok (.if_icmp .eq 13, 3) := by decide +kernel
theorem dX12_spite_90 : decode cX12_spite 90 = .ok (.lload 8, 2) := by decide +kernel
theorem dX12_spite_92 : decode cX12_spite 92 = .ok (.lload_n 3, 1) := by decide +kernel
theorem dX12_spite_93 : decode cX12_spite 93 = .ok (.lcmp, 1) := by decide +kernel
theorem dX12_spite_94 : decode cX12_spite 94 = .ok (.ifCond .gt 6, 3) := by decide +kernel
theorem dX12_spite_97 : decode cX12_spite 97 = .ok (.goto 9, 3) := by decide +kernel
theorem dX12_spite_100 : decode cX12_spite 100 = .ok (.iload 5, 2) := by decide +kernel
theorem dX12_spite_102 : decode cX12_spite 102 = .ok (.istore_n 2, 1) := by decide +kernel
theorem dX12_spite_103 : decode cX12_spite 103 = .ok (.lload 8, 2) := by decide +kernel
theorem dX12_spite_105 : decode cX12_spite 105 = .ok (.lstore_n 3, 1) := by decide +kernel
theorem dX12_spite_106 : decode cX12_spite 106 = .ok (.iinc 5 1, 3) := by decide +kernel
theorem dX12_spite_109 : decode cX12_spite 109 = .ok (.goto (-93), 3) := by decide +kernel
theorem dX12_spite_112 : decode cX12_spite 112 = .ok (.iload_n 2, 1) := by decide +kernel
theorem dX12_spite_113 : decode cX12_spite 113 = .ok (.ireturn, 1) := by decide +kernel
theorem dX12_isAhead_0 : decode cX12_isAhead 0 = .ok (.aload_n 0, 1) := by decide +kernel
theorem dX12_isAhead_1 : decode cX12_isAhead 1 = .ok (.iload_n 1, 1) := by decide +kernel
theorem dX12_isAhead_2 : decode cX12_isAhead 2 = .ok (.iload_n 3, 1) := by decide +kernel
theorem dX12_isAhead_3 : decode cX12_isAhead 3 = .ok (.invokevirtual 394, 3) := by decide +kernel
theorem dX12_isAhead_6 : decode cX12_isAhead 6 = .ok (.lstore 4, 2) := by decide +kernel
theorem dX12_isAhead_8 : decode cX12_isAhead 8 = .ok (.aload_n 0, 1) := by decide +kernel
theorem dX12_isAhead_9 : decode cX12_isAhead 9 = .ok (.iload_n 2, 1) := by decide +kernel
theorem dX12_isAhead_10 : decode cX12_isAhead 10 = .ok (.iload_n 3, 1) := by decide +kernel
theorem dX12_isAhead_11 : decode cX12_isAhead 11 = .ok (.invokevirtual 394, 3) := by decide +kernel
theorem dX12_isAhead_14 : decode cX12_isAhead 14 = .ok (.lstore 6, 2) := by decide +kernel
theorem dX12_isAhead_16 : decode cX12_isAhead 16 = .ok (.lload 4, 2) := by decide +kernel
theorem dX12_isAhead_18 : decode cX12_isAhead 18 = .ok (.lload 6, 2) := by decide +kernel
theorem dX12_isAhead_20 : decode cX12_isAhead 20 = .ok (.lcmp, 1) := by decide +kernel
theorem dX12_isAhead_21 : decode cX12_isAhead 21 = .ok (.ifCond .lt 16, 3) := by decide +kernel
theorem dX12_isAhead_24 : decode cX12_isAhead 24 = .ok (.lload 4, 2) := by decide +kernel
theorem dX12_isAhead_26 : decode cX12_isAhead 26 = .ok (.lload 6, 2) := by decide +kernel
theorem dX12_isAhead_28 : decode cX12_isAhead 28 = .ok (.lcmp, 1) := by decide +kernel
theorem dX12_isAhead_29 : decode cX12_isAhead 29 = .ok (.ifCond .ne 12, 3) := by decide +kernel
theorem dX12_isAhead_32 : decode cX12_isAhead 32 = .ok (.iload_n 1, 1) := by decide +kernel
theorem dX12_isAhead_33 : decode cX12_isAhead 33 = .ok (.iload_n 2, 1) := by decide +kernel
theorem dX12_isAhead_34 : decode cX12_isAhead 34 = .ok (.if_icmp .ge 7, 3) := by decide +kernel
theorem dX12_isAhead_37 : decode cX12_isAhead 37 = .ok (.iconst 1, 1) := by decide +kernel
theorem dX12_isAhead_38 : decode cX12_isAhead 38 = .ok (.goto 4, 3) := by decide +kernel
theorem dX12_isAhead_41 : decode cX12_isAhead 41 = .ok (.iconst 0, 1) := by decide +kernel
theorem dX12_isAhead_42 : decode cX12_isAhead 42 = .ok (.ireturn, 1) := by decide +kernel
theorem dX12_behind_0 : decode cX12_behind 0 = .ok (.iconst 0, 1) := by decide +kernel
theorem dX12_behind_1 : decode cX12_behind 1 = .ok (.istore_n 3, 1) := by decide +kernel
theorem dX12_behind_2 : decode cX12_behind 2 = .ok (.iconst 0, 1) := by decide +kernel
theorem dX12_behind_3 : decode cX12_behind 3 = .ok (.istore 4, 2) := by decide +kernel
theorem dX12_behind_5 : decode cX12_behind 5 = .ok (.iload 4, 2) := by decide +kernel
theorem dX12_behind_7 : decode cX12_behind 7 = .ok (.aload_n 0, 1) := by decide +kernel
theorem dX12_behind_8 : decode cX12_behind 8 = .ok (.getfield 135, 3) := by decide +kernel
theorem dX12_behind_11 : decode cX12_behind 11 = .ok (.if_icmp .ge 46, 3) := by decide +kernel
theorem dX12_behind_14 : decode cX12_behind 14 = .ok (.iload_n 3, 1) := by decide +kernel
theorem dX12_behind_15 : decode cX12_behind 15 = .ok (.iload 4, 2) := by decide +kernel
theorem dX12_behind_17 : decode cX12_behind 17 = .ok (.iload_n 1, 1) := by decide +kernel
theorem dX12_behind_18 : decode cX12_behind 18 = .ok (.if_icmp .eq 30, 3) := by decide +kernel
theorem dX12_behind_21 : decode cX12_behind 21 = .ok (.aload_n 0, 1) := by decide +kernel
theorem dX12_behind_22 : decode cX12_behind 22 = .ok (.getfield 146, 3) := by decide +kernel
theorem dX12_behind_25 : decode cX12_behind 25 = .ok (.iload 4, 2) := by decide +kernel
theorem dX12_behind_27 : decode cX12_behind 27 = .ok (.invokestatic 149, 3) := by decide +kernel
theorem dX12_behind_30 : decode cX12_behind 30 = .ok (.ifCond .eq 18, 3) := by decide +kernel
theorem dX12_behind_33 : decode cX12_behind 33 = .ok (.aload_n 0, 1) := by decide +kernel
theorem dX12_behind_34 : decode cX12_behind 34 = .ok (.iload_n 1, 1) := by decide +kernel
theorem dX12_behind_35 : decode cX12_behind 35 = .ok (.iload 4, 2) := by decide +kernel
theorem dX12_behind_37 : decode cX12_behind 37 = .ok (.iload_n 2, 1) := by decide +kernel
theorem dX12_behind_38 : decode cX12_behind 38 = .ok (.invokevirtual 397, 3) := by decide +kernel
theorem dX12_behind_41 : decode cX12_behind 41 = .ok (.ifCond .eq 7, 3) := by decide +kernel
theorem dX12_behind_44 : decode cX12_behind 44 = .ok (.iconst 1, 1) := by decide +kernel
theorem dX12_behind_45 : decode cX12_behind 45 = .ok (.goto 4, 3) := by decide +kernel
theorem dX12_behind_48 : decode cX12_behind 48 = .ok (.iconst 0, 1) := by decide +kernel
theorem dX12_behind_49 : decode cX12_behind 49 = .ok (.iadd, 1) := by decide +kernel
theorem dX12_behind_50 : decode cX12_behind 50 = .ok (.istore_n 3, 1) := by decide +kernel
theorem dX12_behind_51 : decode cX12_behind 51 = .ok (.iinc 4 1, 3) := by decide +kernel
theorem dX12_behind_54 : decode cX12_behind 54 = .ok (.goto (-49), 3) := by decide +kernel
theorem dX12_behind_57 : decode cX12_behind 57 = .ok (.iload_n 3, 1) := by decide +kernel
theorem dX12_behind_58 : decode cX12_behind 58 = .ok (.ireturn, 1) := by decide +kernel
theorem dX12_voters_0 : decode cX12_voters 0 = .ok (.iconst 0, 1) := by decide +kernel
theorem dX12_voters_1 : decode cX12_voters 1 = .ok (.istore_n 1, 1) := by decide +kernel
theorem dX12_voters_2 : decode cX12_voters 2 = .ok (.iconst 0, 1) := by decide +kernel
theorem dX12_voters_3 : decode cX12_voters 3 = .ok (.istore_n 2, 1) := by decide +kernel
theorem dX12_voters_4 : decode cX12_voters 4 = .ok (.iload_n 2, 1) := by decide +kernel
theorem dX12_voters_5 : decode cX12_voters 5 = .ok (.iconst 4, 1) := by decide +kernel
theorem dX12_voters_6 : decode cX12_voters 6 = .ok (.if_icmp .ge 18, 3) := by decide +kernel
theorem dX12_voters_9 : decode cX12_voters 9 = .ok (.iload_n 1, 1) := by decide +kernel
theorem dX12_voters_10 : decode cX12_voters 10 = .ok (.aload_n 0, 1) := by decide +kernel
theorem dX12_voters_11 : decode cX12_voters 11 = .ok (.getfield 30, 3) := by decide +kernel
theorem dX12_voters_14 : decode cX12_voters 14 = .ok (.iload_n 2, 1) := by decide +kernel
theorem dX12_voters_15 : decode cX12_voters 15 = .ok (.iaload, 1) := by decide +kernel
theorem dX12_voters_16 : decode cX12_voters 16 = .ok (.iadd, 1) := by decide +kernel
theorem dX12_voters_17 : decode cX12_voters 17 = .ok (.istore_n 1, 1) := by decide +kernel
theorem dX12_voters_18 : decode cX12_voters 18 = .ok (.iinc 2 1, 3) := by decide +kernel
theorem dX12_voters_21 : decode cX12_voters 21 = .ok (.goto (-17), 3) := by decide +kernel
theorem dX12_voters_24 : decode cX12_voters 24 = .ok (.iload_n 1, 1) := by decide +kernel
theorem dX12_voters_25 : decode cX12_voters 25 = .ok (.ireturn, 1) := by decide +kernel
theorem dX12_firstVotes_0 : decode cX12_firstVotes 0 = .ok (.iconst 0, 1) := by decide +kernel
theorem dX12_firstVotes_1 : decode cX12_firstVotes 1 = .ok (.istore_n 2, 1) := by decide +kernel
theorem dX12_firstVotes_2 : decode cX12_firstVotes 2 = .ok (.iconst 0, 1) := by decide +kernel
theorem dX12_firstVotes_3 : decode cX12_firstVotes 3 = .ok (.istore_n 3, 1) := by decide +kernel
theorem dX12_firstVotes_4 : decode cX12_firstVotes 4 = .ok (.iload_n 3, 1) := by decide +kernel
theorem dX12_firstVotes_5 : decode cX12_firstVotes 5 = .ok (.iconst 4, 1) := by decide +kernel
theorem dX12_firstVotes_6 : decode cX12_firstVotes 6 = .ok (.if_icmp .ge 40, 3) := by decide +kernel
theorem dX12_firstVotes_9 : decode cX12_firstVotes 9 = .ok (.iload_n 2, 1) := by decide +kernel
theorem dX12_firstVotes_10 : decode cX12_firstVotes 10 = .ok (.aload_n 0, 1) := by decide +kernel
theorem dX12_firstVotes_11 : decode cX12_firstVotes 11 = .ok (.iload_n 1, 1) := by decide +kernel
theorem dX12_firstVotes_12 : decode cX12_firstVotes 12 = .ok (.iload_n 3, 1) := by decide +kernel
theorem dX12_firstVotes_13 : decode cX12_firstVotes 13 = .ok (.invokevirtual 400, 3) := by decide +kernel
theorem dX12_firstVotes_16 : decode cX12_firstVotes 16 = .ok (.aload_n 0, 1) := by decide +kernel
theorem dX12_firstVotes_17 : decode cX12_firstVotes 17 = .ok (.getfield 146, 3) := by decide +kernel
theorem dX12_firstVotes_20 : decode cX12_firstVotes 20 = .ok (.invokestatic 297, 3) := by decide +kernel
theorem dX12_firstVotes_23 : decode cX12_firstVotes 23 = .ok (.iconst 1, 1) := by decide +kernel
theorem dX12_firstVotes_24 : decode cX12_firstVotes 24 = .ok (.isub, 1) := by decide +kernel
theorem dX12_firstVotes_25 : decode cX12_firstVotes 25 = .ok (.if_icmp .ne 12, 3) := by decide +kernel
theorem dX12_firstVotes_28 : decode cX12_firstVotes 28 = .ok (.aload_n 0, 1) := by decide +kernel
theorem dX12_firstVotes_29 : decode cX12_firstVotes 29 = .ok (.getfield 30, 3) := by decide +kernel
theorem dX12_firstVotes_32 : decode cX12_firstVotes 32 = .ok (.iload_n 3, 1) := by decide +kernel
theorem dX12_firstVotes_33 : decode cX12_firstVotes 33 = .ok (.iaload, 1) := by decide +kernel
theorem dX12_firstVotes_34 : decode cX12_firstVotes 34 = .ok (.goto 4, 3) := by decide +kernel
theorem dX12_firstVotes_37 : decode cX12_firstVotes 37 = .ok (.iconst 0, 1) := by decide +kernel
theorem dX12_firstVotes_38 : decode cX12_firstVotes 38 = .ok (.iadd, 1) := by decide +kernel
theorem dX12_firstVotes_39 : decode cX12_firstVotes 39 = .ok (.istore_n 2, 1) := by decide +kernel
theorem dX12_firstVotes_40 : decode cX12_firstVotes 40 = .ok (.iinc 3 1, 3) := by decide +kernel
theorem dX12_firstVotes_43 : decode cX12_firstVotes 43 = .ok (.goto (-39), 3) := by decide +kernel
theorem dX12_firstVotes_46 : decode cX12_firstVotes 46 = .ok (.iload_n 2, 1) := by decide +kernel
theorem dX12_firstVotes_47 : decode cX12_firstVotes 47 = .ok (.ireturn, 1) := by decide +kernel
theorem dX12_aheadVotes_0 : decode cX12_aheadVotes 0 = .ok (.iconst 0, 1) := by decide +kernel
theorem dX12_aheadVotes_1 : decode cX12_aheadVotes 1 = .ok (.istore_n 3, 1) := by decide +kernel
theorem dX12_aheadVotes_2 : decode cX12_aheadVotes 2 = .ok (.iconst 0, 1) := by decide +kernel
theorem dX12_aheadVotes_3 : decode cX12_aheadVotes 3 = .ok (.istore 4, 2) := by decide +kernel
theorem dX12_aheadVotes_5 : decode cX12_aheadVotes 5 = .ok (.iload 4, 2) := by decide +kernel
theorem dX12_aheadVotes_7 : decode cX12_aheadVotes 7 = .ok (.iconst 4, 1) := by decide +kernel
theorem dX12_aheadVotes_8 : decode cX12_aheadVotes 8 = .ok (.if_icmp .ge 34, 3) := by decide +kernel
theorem dX12_aheadVotes_11 : decode cX12_aheadVotes 11 = .ok (.iload_n 3, 1) := by decide +kernel
theorem dX12_aheadVotes_12 : decode cX12_aheadVotes 12 = .ok (.aload_n 0, 1) := by decide +kernel
theorem dX12_aheadVotes_13 : decode cX12_aheadVotes 13 = .ok (.iload_n 1, 1) := by decide +kernel
theorem dX12_aheadVotes_14 : decode cX12_aheadVotes 14 = .ok (.iload_n 2, 1) := by decide +kernel
theorem dX12_aheadVotes_15 : decode cX12_aheadVotes 15 = .ok (.iload 4, 2) := by decide +kernel
theorem dX12_aheadVotes_17 : decode cX12_aheadVotes 17 = .ok (.invokevirtual 397, 3) := by decide +kernel
theorem dX12_aheadVotes_20 : decode cX12_aheadVotes 20 = .ok (.ifCond .eq 13, 3) := by decide +kernel
theorem dX12_aheadVotes_23 : decode cX12_aheadVotes 23 = .ok (.aload_n 0, 1) := by decide +kernel
theorem dX12_aheadVotes_24 : decode cX12_aheadVotes 24 = .ok (.getfield 30, 3) := by decide +kernel
theorem dX12_aheadVotes_27 : decode cX12_aheadVotes 27 = .ok (.iload 4, 2) := by decide +kernel
theorem dX12_aheadVotes_29 : decode cX12_aheadVotes 29 = .ok (.iaload, 1) := by decide +kernel
theorem dX12_aheadVotes_30 : decode cX12_aheadVotes 30 = .ok (.goto 4, 3) := by decide +kernel
theorem dX12_aheadVotes_33 : decode cX12_aheadVotes 33 = .ok (.iconst 0, 1) := by decide +kernel
theorem dX12_aheadVotes_34 : decode cX12_aheadVotes 34 = .ok (.iadd, 1) := by decide +kernel
theorem dX12_aheadVotes_35 : decode cX12_aheadVotes 35 = .ok (.istore_n 3, 1) := by decide +kernel
theorem dX12_aheadVotes_36 : decode cX12_aheadVotes 36 = .ok (.iinc 4 1, 3) := by decide +kernel
theorem dX12_aheadVotes_39 : decode cX12_aheadVotes 39 = .ok (.goto (-34), 3) := by decide +kernel
theorem dX12_aheadVotes_42 : decode cX12_aheadVotes 42 = .ok (.iload_n 3, 1) := by decide +kernel
theorem dX12_aheadVotes_43 : decode cX12_aheadVotes 43 = .ok (.ireturn, 1) := by decide +kernel
theorem dX12_firstOf_0 : decode cX12_firstOf 0 = .ok (.iconst (-1), 1) := by decide +kernel
theorem dX12_firstOf_1 : decode cX12_firstOf 1 = .ok (.istore_n 2, 1) := by decide +kernel
theorem dX12_firstOf_2 : decode cX12_firstOf 2 = .ok (.iconst 0, 1) := by decide +kernel
theorem dX12_firstOf_3 : decode cX12_firstOf 3 = .ok (.istore_n 3, 1) := by decide +kernel
theorem dX12_firstOf_4 : decode cX12_firstOf 4 = .ok (.iload_n 3, 1) := by decide +kernel
theorem dX12_firstOf_5 : decode cX12_firstOf 5 = .ok (.aload_n 0, 1) := by decide +kernel
theorem dX12_firstOf_6 : decode cX12_firstOf 6 = .ok (.getfield 135, 3) := by decide +kernel
theorem dX12_firstOf_9 : decode cX12_firstOf 9 = .ok (.if_icmp .ge 45, 3) := by decide +kernel
theorem dX12_firstOf_12 : decode cX12_firstOf 12 = .ok (.aload_n 0, 1) := by decide +kernel
theorem dX12_firstOf_13 : decode cX12_firstOf 13 = .ok (.getfield 146, 3) := by decide +kernel
theorem dX12_firstOf_16 : decode cX12_firstOf 16 = .ok (.iload_n 3, 1) := by decide +kernel
theorem dX12_firstOf_17 : decode cX12_firstOf 17 = .ok (.invokestatic 149, 3) := by decide +kernel
theorem dX12_firstOf_20 : decode cX12_firstOf 20 = .ok (.ifCond .eq 28, 3) := by decide +kernel
theorem dX12_firstOf_23 : decode cX12_firstOf 23 = .ok (.iload_n 3, 1) := by decide +kernel
theorem dX12_firstOf_24 : decode cX12_firstOf 24 = .ok (.iload_n 1, 1) := by decide +kernel
theorem dX12_firstOf_25 : decode cX12_firstOf 25 = .ok (.if_icmp .eq 23, 3) := by decide +kernel
theorem dX12_firstOf_28 : decode cX12_firstOf 28 = .ok (.iload_n 2, 1) := by decide +kernel
theorem dX12_firstOf_29 : decode cX12_firstOf 29 = .ok (.iconst (-1), 1) := by decide +kernel
theorem dX12_firstOf_30 : decode cX12_firstOf 30 = .ok (.if_icmp .eq 16, 3) := by decide +kernel
theorem dX12_firstOf_33 : decode cX12_firstOf 33 = .ok (.aload_n 0, 1) := by decide +kernel
theorem dX12_firstOf_34 : decode cX12_firstOf 34 = .ok (.iload_n 3, 1) := by decide +kernel
theorem dX12_firstOf_35 : decode cX12_firstOf 35 = .ok (.invokevirtual 403, 3) := by decide +kernel
theorem dX12_firstOf_38 : decode cX12_firstOf 38 = .ok (.aload_n 0, 1) := by decide +kernel
theorem dX12_firstOf_39 : decode cX12_firstOf 39 = .ok (.iload_n 2, 1) := by decide +kernel
theorem dX12_firstOf_40 : decode cX12_firstOf 40 = .ok (.invokevirtual 403, 3) := by decide +kernel
theorem dX12_firstOf_43 : decode cX12_firstOf 43 = .ok (.if_icmp .le 5, 3) := by decide +kernel
theorem dX12_firstOf_46 : decode cX12_firstOf 46 = .ok (.iload_n 3, 1) := by decide +kernel
theorem dX12_firstOf_47 : decode cX12_firstOf 47 = .ok (.istore_n 2, 1) := by decide +kernel
theorem dX12_firstOf_48 : decode cX12_firstOf 48 = .ok (.iinc 3 1, 3) := by decide +kernel
theorem dX12_firstOf_51 : decode cX12_firstOf 51 = .ok (.goto (-47), 3) := by decide +kernel
theorem dX12_firstOf_54 : decode cX12_firstOf 54 = .ok (.iload_n 2, 1) := by decide +kernel
theorem dX12_firstOf_55 : decode cX12_firstOf 55 = .ok (.ireturn, 1) := by decide +kernel
theorem dX12_byPoints_0 : decode cX12_byPoints 0 = .ok (.iconst (-1), 1) := by decide +kernel
theorem dX12_byPoints_1 : decode cX12_byPoints 1 = .ok (.istore_n 1, 1) := by decide +kernel
theorem dX12_byPoints_2 : decode cX12_byPoints 2 = .ok (.iconst 0, 1) := by decide +kernel
theorem dX12_byPoints_3 : decode cX12_byPoints 3 = .ok (.istore_n 2, 1) := by decide +kernel
theorem dX12_byPoints_4 : decode cX12_byPoints 4 = .ok (.iconst 0, 1) := by decide +kernel
theorem dX12_byPoints_5 : decode cX12_byPoints 5 = .ok (.istore_n 3, 1) := by decide +kernel
theorem dX12_byPoints_6 : decode cX12_byPoints 6 = .ok (.iload_n 3, 1) := by decide +kernel
theorem dX12_byPoints_7 : decode cX12_byPoints 7 = .ok (.aload_n 0, 1) := by decide +kernel
theorem dX12_byPoints_8 : decode cX12_byPoints 8 = .ok (.getfield 135, 3) := by decide +kernel
theorem dX12_byPoints_11 : decode cX12_byPoints 11 = .ok (.if_icmp .ge 80, 3) := by decide +kernel
theorem dX12_byPoints_14 : decode cX12_byPoints 14 = .ok (.aload_n 0, 1) := by decide +kernel
theorem dX12_byPoints_15 : decode cX12_byPoints 15 = .ok (.getfield 146, 3) := by decide +kernel
theorem dX12_byPoints_18 : decode cX12_byPoints 18 = .ok (.iload_n 3, 1) := by decide +kernel
theorem dX12_byPoints_19 : decode cX12_byPoints 19 = .ok (.invokestatic 149, 3) := by decide +kernel
theorem dX12_byPoints_22 : decode cX12_byPoints 22 = .ok (.ifCond .ne 6, 3) := by decide +kernel
theorem dX12_byPoints_25 : decode cX12_byPoints 25 = .ok (.goto 60, 3) := by decide +kernel
theorem dX12_byPoints_28 : decode cX12_byPoints 28 = .ok (.iconst 0, 1) := by decide +kernel
theorem dX12_byPoints_29 : decode cX12_byPoints 29 = .ok (.istore 4, 2) := by decide +kernel
theorem dX12_byPoints_31 : decode cX12_byPoints 31 = .ok (.iconst 0, 1) := by decide +kernel
theorem dX12_byPoints_32 : decode cX12_byPoints 32 = .ok (.istore 5, 2) := by decide +kernel
theorem dX12_byPoints_34 : decode cX12_byPoints 34 = .ok (.iload 5, 2) := by decide +kernel
theorem dX12_byPoints_36 : decode cX12_byPoints 36 = .ok (.iconst 4, 1) := by decide +kernel
theorem dX12_byPoints_37 : decode cX12_byPoints 37 = .ok (.if_icmp .ge 29, 3) := by decide +kernel
theorem dX12_byPoints_40 : decode cX12_byPoints 40 = .ok (.iload 4, 2) := by decide +kernel
theorem dX12_byPoints_42 : decode cX12_byPoints 42 = .ok (.aload_n 0, 1) := by decide +kernel
theorem dX12_byPoints_43 : decode cX12_byPoints 43 = .ok (.getfield 30, 3) := by decide +kernel
theorem dX12_byPoints_46 : decode cX12_byPoints 46 = .ok (.iload 5, 2) := by decide +kernel
theorem dX12_byPoints_48 : decode cX12_byPoints 48 = .ok (.iaload, 1) := by decide +kernel
theorem dX12_byPoints_49 : decode cX12_byPoints 49 = .ok (.aload_n 0, 1) := by decide +kernel
theorem dX12_byPoints_50 : decode cX12_byPoints 50 = .ok (.iload_n 3, 1) := by decide +kernel
theorem dX12_byPoints_51 : decode cX12_byPoints 51 = .ok (.iload 5, 2) := by decide +kernel
theorem dX12_byPoints_53 : decode cX12_byPoints 53 = .ok (.invokevirtual 400, 3) := by decide +kernel
theorem dX12_byPoints_56 : decode cX12_byPoints 56 = .ok (.imul, 1) := by decide +kernel
theorem dX12_byPoints_57 : decode cX12_byPoints 57 = .ok (.iadd, 1) := by decide +kernel
theorem dX12_byPoints_58 : decode cX12_byPoints 58 = .ok (.istore 4, 2) := by decide +kernel
theorem dX12_byPoints_60 : decode cX12_byPoints 60 = .ok (.iinc 5 1, 3) := by decide +kernel
theorem dX12_byPoints_63 : decode cX12_byPoints 63 = .ok (.goto (-29), 3) := by decide +kernel
theorem dX12_byPoints_66 : decode cX12_byPoints 66 = .ok (.iload_n 1, 1) := by decide +kernel
theorem dX12_byPoints_67 : decode cX12_byPoints 67 = .ok (.iconst (-1), 1) := by decide +kernel
theorem dX12_byPoints_68 : decode cX12_byPoints 68 = .ok (.if_icmp .eq 12, 3) := by decide +kernel
theorem dX12_byPoints_71 : decode cX12_byPoints 71 = .ok (.iload 4, 2) := by decide +kernel
theorem dX12_byPoints_73 : decode cX12_byPoints 73 = .ok (.iload_n 2, 1) := by decide +kernel
theorem dX12_byPoints_74 : decode cX12_byPoints 74 = .ok (.if_icmp .gt 6, 3) := by decide +kernel
theorem dX12_byPoints_77 : decode cX12_byPoints 77 = .ok (.goto 8, 3) := by decide +kernel
theorem dX12_byPoints_80 : decode cX12_byPoints 80 = .ok (.iload_n 3, 1) := by decide +kernel
theorem dX12_byPoints_81 : decode cX12_byPoints 81 = .ok (.istore_n 1, 1) := by decide +kernel
theorem dX12_byPoints_82 : decode cX12_byPoints 82 = .ok (.iload 4, 2) := by decide +kernel
theorem dX12_byPoints_84 : decode cX12_byPoints 84 = .ok (.istore_n 2, 1) := by decide +kernel
theorem dX12_byPoints_85 : decode cX12_byPoints 85 = .ok (.iinc 3 1, 3) := by decide +kernel
theorem dX12_byPoints_88 : decode cX12_byPoints 88 = .ok (.goto (-82), 3) := by decide +kernel
theorem dX12_byPoints_91 : decode cX12_byPoints 91 = .ok (.iload_n 1, 1) := by decide +kernel
theorem dX12_byPoints_92 : decode cX12_byPoints 92 = .ok (.ireturn, 1) := by decide +kernel
theorem dX12_aheadOfAll_0 : decode cX12_aheadOfAll 0 = .ok (.iconst 0, 1) := by decide +kernel
theorem dX12_aheadOfAll_1 : decode cX12_aheadOfAll 1 = .ok (.istore_n 1, 1) := by decide +kernel
theorem dX12_aheadOfAll_2 : decode cX12_aheadOfAll 2 = .ok (.iload_n 1, 1) := by decide +kernel
theorem dX12_aheadOfAll_3 : decode cX12_aheadOfAll 3 = .ok (.aload_n 0, 1) := by decide +kernel
theorem dX12_aheadOfAll_4 : decode cX12_aheadOfAll 4 = .ok (.getfield 135, 3) := by decide +kernel
theorem dX12_aheadOfAll_7 : decode cX12_aheadOfAll 7 = .ok (.if_icmp .ge 88, 3) := by decide +kernel
theorem dX12_aheadOfAll_10 : decode cX12_aheadOfAll 10 = .ok (.aload_n 0, 1) := by decide +kernel
theorem dX12_aheadOfAll_11 : decode cX12_aheadOfAll 11 = .ok (.getfield 146, 3) := by decide +kernel
theorem dX12_aheadOfAll_14 : decode cX12_aheadOfAll 14 = .ok (.iload_n 1, 1) := by decide +kernel
theorem dX12_aheadOfAll_15 : decode cX12_aheadOfAll 15 = .ok (.invokestatic 149, 3) := by decide +kernel
theorem dX12_aheadOfAll_18 : decode cX12_aheadOfAll 18 = .ok (.ifCond .ne 6, 3) := by decide +kernel
theorem dX12_aheadOfAll_21 : decode cX12_aheadOfAll 21 = .ok (.goto 68, 3) := by decide +kernel
theorem dX12_aheadOfAll_24 : decode cX12_aheadOfAll 24 = .ok (.iconst 1, 1) := by decide +kernel
theorem dX12_aheadOfAll_25 : decode cX12_aheadOfAll 25 = .ok (.istore_n 2, 1) := by decide +kernel
theorem dX12_aheadOfAll_26 : decode cX12_aheadOfAll 26 = .ok (.iconst 0, 1) := by decide +kernel
theorem dX12_aheadOfAll_27 : decode cX12_aheadOfAll 27 = .ok (.istore_n 3, 1) := by decide +kernel
theorem dX12_aheadOfAll_28 : decode cX12_aheadOfAll 28 = .ok (.iload_n 3, 1) := by decide +kernel
theorem dX12_aheadOfAll_29 : decode cX12_aheadOfAll 29 = .ok (.aload_n 0, 1) := by decide +kernel
theorem dX12_aheadOfAll_30 : decode cX12_aheadOfAll 30 = .ok (.getfield 135, 3) := by decide +kernel
theorem dX12_aheadOfAll_33 : decode cX12_aheadOfAll 33 = .ok (.if_icmp .ge 50, 3) := by decide +kernel
theorem dX12_aheadOfAll_36 : decode cX12_aheadOfAll 36 = .ok (.iload_n 2, 1) := by decide +kernel
theorem dX12_aheadOfAll_37 : decode cX12_aheadOfAll 37 = .ok (.ifCond .eq 38, 3) := by decide +kernel
theorem dX12_aheadOfAll_40 : decode cX12_aheadOfAll 40 = .ok (.iload_n 3, 1) := by decide +kernel
theorem dX12_aheadOfAll_41 : decode cX12_aheadOfAll 41 = .ok (.iload_n 1, 1) := by decide +kernel
theorem dX12_aheadOfAll_42 : decode cX12_aheadOfAll 42 = .ok (.if_icmp .eq 29, 3) := by decide +kernel
theorem dX12_aheadOfAll_45 : decode cX12_aheadOfAll 45 = .ok (.aload_n 0, 1) := by decide +kernel
theorem dX12_aheadOfAll_46 : decode cX12_aheadOfAll 46 = .ok (.getfield 146, 3) := by decide +kernel
theorem dX12_aheadOfAll_49 : decode cX12_aheadOfAll 49 = .ok (.iload_n 3, 1) := by decide +kernel
theorem dX12_aheadOfAll_50 : decode cX12_aheadOfAll 50 = .ok (.invokestatic 149, 3) := by decide +kernel
theorem dX12_aheadOfAll_53 : decode cX12_aheadOfAll 53 = .ok (.ifCond .eq 18, 3) := by decide +kernel
theorem dX12_aheadOfAll_56 : decode cX12_aheadOfAll 56 = .ok (.iconst 2, 1) := by decide +kernel
theorem dX12_aheadOfAll_57 : decode cX12_aheadOfAll 57 = .ok (.aload_n 0, 1) := by decide +kernel
theorem dX12_aheadOfAll_58 : decode cX12_aheadOfAll 58 = .ok (.iload_n 1, 1) := by decide +kernel
theorem dX12_aheadOfAll_59 : decode cX12_aheadOfAll 59 = .ok (.iload_n 3, 1) := by decide +kernel
theorem dX12_aheadOfAll_60 : decode cX12_aheadOfAll 60 = .ok (.invokevirtual 406, 3) := by decide +kernel
theorem dX12_aheadOfAll_63 : decode cX12_aheadOfAll 63 = .ok (.imul, 1) := by decide +kernel
theorem dX12_aheadOfAll_64 : decode cX12_aheadOfAll 64 = .ok (.aload_n 0, 1) := by decide +kernel
theorem dX12_aheadOfAll_65 : decode cX12_aheadOfAll 65 = .ok (.invokevirtual 409, 3) := by decide +kernel
theorem dX12_aheadOfAll_68 : decode cX12_aheadOfAll 68 = .ok (.if_icmp .le 7, 3) := by decide +kernel
theorem dX12_aheadOfAll_71 : decode cX12_aheadOfAll 71 = .ok (.iconst 1, 1) := by decide +kernel
theorem dX12_aheadOfAll_72 : decode cX12_aheadOfAll 72 = .ok (.goto 4, 3) := by decide +kernel
theorem dX12_aheadOfAll_75 : decode cX12_aheadOfAll 75 = .ok (.iconst 0, 1) := by decide +kernel
theorem dX12_aheadOfAll_76 : decode cX12_aheadOfAll 76 = .ok (.istore_n 2, 1) := by decide +kernel
theorem dX12_aheadOfAll_77 : decode cX12_aheadOfAll 77 = .ok (.iinc 3 1, 3) := by decide +kernel
theorem dX12_aheadOfAll_80 : decode cX12_aheadOfAll 80 = .ok (.goto (-52), 3) := by decide +kernel
theorem dX12_aheadOfAll_83 : decode cX12_aheadOfAll 83 = .ok (.iload_n 2, 1) := by decide +kernel
theorem dX12_aheadOfAll_84 : decode cX12_aheadOfAll 84 = .ok (.ifCond .eq 5, 3) := by decide +kernel
theorem dX12_aheadOfAll_87 : decode cX12_aheadOfAll 87 = .ok (.iload_n 1, 1) := by decide +kernel
theorem dX12_aheadOfAll_88 : decode cX12_aheadOfAll 88 = .ok (.ireturn, 1) := by decide +kernel
theorem dX12_aheadOfAll_89 : decode cX12_aheadOfAll 89 = .ok (.iinc 1 1, 3) := by decide +kernel
theorem dX12_aheadOfAll_92 : decode cX12_aheadOfAll 92 = .ok (.goto (-90), 3) := by decide +kernel
theorem dX12_aheadOfAll_95 : decode cX12_aheadOfAll 95 = .ok (.iconst (-1), 1) := by decide +kernel
theorem dX12_aheadOfAll_96 : decode cX12_aheadOfAll 96 = .ok (.ireturn, 1) := by decide +kernel
theorem dX12_vote_0 : decode cX12_vote 0 = .ok (.iload_n 1, 1) := by decide +kernel
theorem dX12_vote_1 : decode cX12_vote 1 = .ok (.i2l, 1) := by decide +kernel
theorem dX12_vote_2 : decode cX12_vote 2 = .ok (.lconst 0, 1) := by decide +kernel
theorem dX12_vote_3 : decode cX12_vote 3 = .ok (.ldc2_w 144, 3) := by decide +kernel
theorem dX12_vote_6 : decode cX12_vote 6 = .ok (.invokestatic 138, 3) := by decide +kernel
theorem dX12_vote_9 : decode cX12_vote 9 = .ok (.ifCond .eq 17, 3) := by decide +kernel
theorem dX12_vote_12 : decode cX12_vote 12 = .ok (.aload_n 0, 1) := by decide +kernel
theorem dX12_vote_13 : decode cX12_vote 13 = .ok (.getfield 146, 3) := by decide +kernel
theorem dX12_vote_16 : decode cX12_vote 16 = .ok (.ifCond .eq 10, 3) := by decide +kernel
theorem dX12_vote_19 : decode cX12_vote 19 = .ok (.aload_n 0, 1) := by decide +kernel
theorem dX12_vote_20 : decode cX12_vote 20 = .ok (.invokevirtual 409, 3) := by decide +kernel
theorem dX12_vote_23 : decode cX12_vote 23 = .ok (.ifCond .ne 5, 3) := by decide +kernel
theorem dX12_vote_26 : decode cX12_vote 26 = .ok (.iconst (-1), 1) := by decide +kernel
theorem dX12_vote_27 : decode cX12_vote 27 = .ok (.ireturn, 1) := by decide +kernel
theorem dX12_vote_28 : decode cX12_vote 28 = .ok (.aload_n 0, 1) := by decide +kernel
theorem dX12_vote_29 : decode cX12_vote 29 = .ok (.iconst (-1), 1) := by decide +kernel
theorem dX12_vote_30 : decode cX12_vote 30 = .ok (.invokevirtual 412, 3) := by decide +kernel
theorem dX12_vote_33 : decode cX12_vote 33 = .ok (.istore_n 2, 1) := by decide +kernel
theorem dX12_vote_34 : decode cX12_vote 34 = .ok (.iload_n 1, 1) := by decide +kernel
theorem dX12_vote_35 : decode cX12_vote 35 = .ok (.ifCond .ne 5, 3) := by decide +kernel
theorem dX12_vote_38 : decode cX12_vote 38 = .ok (.iload_n 2, 1) := by decide +kernel
theorem dX12_vote_39 : decode cX12_vote 39 = .ok (.ireturn, 1) := by decide +kernel
theorem dX12_vote_40 : decode cX12_vote 40 = .ok (.iload_n 1, 1) := by decide +kernel
theorem dX12_vote_41 : decode cX12_vote 41 = .ok (.iconst 2, 1) := by decide +kernel
theorem dX12_vote_42 : decode cX12_vote 42 = .ok (.if_icmp .ne 8, 3) := by decide +kernel
theorem dX12_vote_45 : decode cX12_vote 45 = .ok (.aload_n 0, 1) := by decide +kernel
theorem dX12_vote_46 : decode cX12_vote 46 = .ok (.invokevirtual 415, 3) := by decide +kernel
theorem dX12_vote_49 : decode cX12_vote 49 = .ok (.ireturn, 1) := by decide +kernel
theorem dX12_vote_50 : decode cX12_vote 50 = .ok (.iload_n 1, 1) := by decide +kernel
theorem dX12_vote_51 : decode cX12_vote 51 = .ok (.iconst 3, 1) := by decide +kernel
theorem dX12_vote_52 : decode cX12_vote 52 = .ok (.if_icmp .ne 8, 3) := by decide +kernel
theorem dX12_vote_55 : decode cX12_vote 55 = .ok (.aload_n 0, 1) := by decide +kernel
theorem dX12_vote_56 : decode cX12_vote 56 = .ok (.invokevirtual 418, 3) := by decide +kernel
theorem dX12_vote_59 : decode cX12_vote 59 = .ok (.ireturn, 1) := by decide +kernel
theorem dX12_vote_60 : decode cX12_vote 60 = .ok (.aload_n 0, 1) := by decide +kernel
theorem dX12_vote_61 : decode cX12_vote 61 = .ok (.iload_n 2, 1) := by decide +kernel
theorem dX12_vote_62 : decode cX12_vote 62 = .ok (.invokevirtual 412, 3) := by decide +kernel
theorem dX12_vote_65 : decode cX12_vote 65 = .ok (.istore_n 3, 1) := by decide +kernel
theorem dX12_vote_66 : decode cX12_vote 66 = .ok (.iload_n 3, 1) := by decide +kernel
theorem dX12_vote_67 : decode cX12_vote 67 = .ok (.iconst (-1), 1) := by decide +kernel
theorem dX12_vote_68 : decode cX12_vote 68 = .ok (.if_icmp .eq 22, 3) := by decide +kernel
theorem dX12_vote_71 : decode cX12_vote 71 = .ok (.aload_n 0, 1) := by decide +kernel
theorem dX12_vote_72 : decode cX12_vote 72 = .ok (.iload_n 3, 1) := by decide +kernel
theorem dX12_vote_73 : decode cX12_vote 73 = .ok (.iload_n 2, 1) := by decide +kernel
theorem dX12_vote_74 : decode cX12_vote 74 = .ok (.invokevirtual 406, 3) := by decide +kernel
theorem dX12_vote_77 : decode cX12_vote 77 = .ok (.aload_n 0, 1) := by decide +kernel
theorem dX12_vote_78 : decode cX12_vote 78 = .ok (.iload_n 2, 1) := by decide +kernel
theorem dX12_vote_79 : decode cX12_vote 79 = .ok (.iload_n 3, 1) := by decide +kernel
theorem dX12_vote_80 : decode cX12_vote 80 = .ok (.invokevirtual 406, 3) := by decide +kernel
theorem dX12_vote_83 : decode cX12_vote 83 = .ok (.if_icmp .le 7, 3) := by decide +kernel
theorem dX12_vote_86 : decode cX12_vote 86 = .ok (.iload_n 3, 1) := by decide +kernel
theorem dX12_vote_87 : decode cX12_vote 87 = .ok (.goto 4, 3) := by decide +kernel
theorem dX12_vote_90 : decode cX12_vote 90 = .ok (.iload_n 2, 1) := by decide +kernel
theorem dX12_vote_91 : decode cX12_vote 91 = .ok (.ireturn, 1) := by decide +kernel
theorem dX12_laysOrder_0 : decode cX12_laysOrder 0 = .ok (.aload_n 0, 1) := by decide +kernel
theorem dX12_laysOrder_1 : decode cX12_laysOrder 1 = .ok (.getfield 146, 3) := by decide +kernel
theorem dX12_laysOrder_4 : decode cX12_laysOrder 4 = .ok (.invokestatic 297, 3) := by decide +kernel
theorem dX12_laysOrder_7 : decode cX12_laysOrder 7 = .ok (.iload_n 1, 1) := by decide +kernel
theorem dX12_laysOrder_8 : decode cX12_laysOrder 8 = .ok (.isub, 1) := by decide +kernel
theorem dX12_laysOrder_9 : decode cX12_laysOrder 9 = .ok (.istore_n 2, 1) := by decide +kernel
theorem dX12_laysOrder_10 : decode cX12_laysOrder 10 = .ok (.iconst 0, 1) := by decide +kernel
theorem dX12_laysOrder_11 : decode cX12_laysOrder 11 = .ok (.istore_n 3, 1) := by decide +kernel
theorem dX12_laysOrder_12 : decode cX12_laysOrder 12 = .ok (.iload_n 3, 1) := by decide +kernel
theorem dX12_laysOrder_13 : decode cX12_laysOrder 13 = .ok (.aload_n 0, 1) := by decide +kernel
theorem dX12_laysOrder_14 : decode cX12_laysOrder 14 = .ok (.getfield 146, 3) := by decide +kernel
theorem dX12_laysOrder_17 : decode cX12_laysOrder 17 = .ok (.if_icmp .gt 141, 3) := by decide +kernel
theorem dX12_laysOrder_20 : decode cX12_laysOrder 20 = .ok (.iload_n 3, 1) := by decide +kernel
theorem dX12_laysOrder_21 : decode cX12_laysOrder 21 = .ok (.invokestatic 297, 3) := by decide +kernel
theorem dX12_laysOrder_24 : decode cX12_laysOrder 24 = .ok (.istore 4, 2) := by decide +kernel
theorem dX12_laysOrder_26 : decode cX12_laysOrder 26 = .ok (.iload_n 3, 1) := by decide +kernel
theorem dX12_laysOrder_27 : decode cX12_laysOrder 27 = .ok (.aload_n 0, 1) := by decide +kernel
theorem dX12_laysOrder_28 : decode cX12_laysOrder 28 = .ok (.getfield 146, 3) := by decide +kernel
theorem dX12_laysOrder_31 : decode cX12_laysOrder 31 = .ok (.iconst (-1), 1) := by decide +kernel
theorem dX12_laysOrder_32 : decode cX12_laysOrder 32 = .ok (.ixor, 1) := by decide +kernel
theorem dX12_laysOrder_33 : decode cX12_laysOrder 33 = .ok (.iand, 1) := by decide +kernel
theorem dX12_laysOrder_34 : decode cX12_laysOrder 34 = .ok (.ifCond .ne 118, 3) := by decide +kernel
theorem dX12_laysOrder_37 : decode cX12_laysOrder 37 = .ok (.iload 4, 2) := by decide +kernel
theorem dX12_laysOrder_39 : decode cX12_laysOrder 39 = .ok (.iload_n 2, 1) := by decide +kernel
theorem dX12_laysOrder_40 : decode cX12_laysOrder 40 = .ok (.if_icmp .ge 6, 3) := by decide +kernel
theorem dX12_laysOrder_43 : decode cX12_laysOrder 43 = .ok (.goto 109, 3) := by decide +kernel
theorem dX12_laysOrder_46 : decode cX12_laysOrder 46 = .ok (.aload_n 0, 1) := by decide +kernel
theorem dX12_laysOrder_47 : decode cX12_laysOrder 47 = .ok (.getfield 102, 3) := by decide +kernel
theorem dX12_laysOrder_50 : decode cX12_laysOrder 50 = .ok (.iload_n 3, 1) := by decide +kernel
theorem dX12_laysOrder_51 : decode cX12_laysOrder 51 = .ok (.iload 4, 2) := by decide +kernel
theorem dX12_laysOrder_53 : decode cX12_laysOrder 53 = .ok (.iload_n 2, 1) := by decide +kernel
theorem dX12_laysOrder_54 : decode cX12_laysOrder 54 = .ok (.if_icmp .ne 7, 3) := by decide +kernel
theorem dX12_laysOrder_57 : decode cX12_laysOrder 57 = .ok (.lconst 0, 1) := by decide +kernel
theorem dX12_laysOrder_58 : decode cX12_laysOrder 58 = .ok (.goto 6, 3) := by decide +kernel
theorem dX12_laysOrder_61 : decode cX12_laysOrder 61 = .ok (.ldc2_w 421, 3) := by decide +kernel
theorem dX12_laysOrder_64 : decode cX12_laysOrder 64 = .ok (.lastore, 1) := by decide +kernel
theorem dX12_laysOrder_65 : decode cX12_laysOrder 65 = .ok (.iconst 0, 1) := by decide +kernel
theorem dX12_laysOrder_66 : decode cX12_laysOrder 66 = .ok (.istore 5, 2) := by decide +kernel
theorem dX12_laysOrder_68 : decode cX12_laysOrder 68 = .ok (.iload 5, 2) := by decide +kernel
theorem dX12_laysOrder_70 : decode cX12_laysOrder 70 = .ok (.aload_n 0, 1) := by decide +kernel
theorem dX12_laysOrder_71 : decode cX12_laysOrder 71 = .ok (.getfield 135, 3) := by decide +kernel
theorem dX12_laysOrder_74 : decode cX12_laysOrder 74 = .ok (.if_icmp .ge 78, 3) := by decide +kernel
theorem dX12_laysOrder_77 : decode cX12_laysOrder 77 = .ok (.iload 4, 2) := by decide +kernel
theorem dX12_laysOrder_79 : decode cX12_laysOrder 79 = .ok (.iload_n 2, 1) := by decide +kernel
theorem dX12_laysOrder_80 : decode cX12_laysOrder 80 = .ok (.if_icmp .le 72, 3) := by decide +kernel
theorem dX12_laysOrder_83 : decode cX12_laysOrder 83 = .ok (.iload_n 3, 1) := by decide +kernel
theorem dX12_laysOrder_84 : decode cX12_laysOrder 84 = .ok (.iconst 1, 1) := by decide +kernel
theorem dX12_laysOrder_85 : decode cX12_laysOrder 85 = .ok (.iload 5, 2) := by decide +kernel
theorem dX12_laysOrder_87 : decode cX12_laysOrder 87 = .ok (.ishl, 1) := by decide +kernel
theorem dX12_laysOrder_88 : decode cX12_laysOrder 88 = .ok (.iconst (-1), 1) := by decide +kernel
theorem dX12_laysOrder_89 : decode cX12_laysOrder 89 = .ok (.ixor, 1) := by decide +kernel
theorem dX12_laysOrder_90 : decode cX12_laysOrder 90 = .ok (.iand, 1) := by decide +kernel
theorem dX12_laysOrder_91 : decode cX12_laysOrder 91 = .ok (.istore 6, 2) := by decide +kernel
theorem dX12_laysOrder_93 : decode cX12_laysOrder 93 = .ok (.iload_n 3, 1) := by decide +kernel
theorem dX12_laysOrder_94 : decode cX12_laysOrder 94 = .ok (.iload 5, 2) := by decide +kernel
theorem dX12_laysOrder_96 : decode cX12_laysOrder 96 = .ok (.invokestatic 149, 3) := by decide +kernel
theorem dX12_laysOrder_99 : decode cX12_laysOrder 99 = .ok (.ifCond .eq 47, 3) := by decide +kernel
theorem dX12_laysOrder_102 : decode cX12_laysOrder 102 = .ok (.aload_n 0, 1) := by decide +kernel
theorem dX12_laysOrder_103 : decode cX12_laysOrder 103 = .ok (.iload 6, 2) := by decide +kernel
theorem dX12_laysOrder_105 : decode cX12_laysOrder 105 = .ok (.invokevirtual 376, 3) := by decide +kernel
theorem dX12_laysOrder_108 : decode cX12_laysOrder 108 = .ok (.aload_n 0, 1) := by decide +kernel
theorem dX12_laysOrder_109 : decode cX12_laysOrder 109 = .ok (.getfield 102, 3) := by decide +kernel
theorem dX12_laysOrder_112 : decode cX12_laysOrder 112 = .ok (.iload 6, 2) := by decide +kernel
theorem dX12_laysOrder_114 : decode cX12_laysOrder 114 = .ok (.laload, 1) := by decide +kernel
theorem dX12_laysOrder_115 : decode cX12_laysOrder 115 = .ok (.ladd, 1) := by decide +kernel
theorem dX12_laysOrder_116 : decode cX12_laysOrder 116 = .ok (.aload_n 0, 1) := by decide +kernel
theorem dX12_laysOrder_117 : decode cX12_laysOrder 117 = .ok (.getfield 102, 3) := by decide +kernel
theorem dX12_laysOrder_120 : decode cX12_laysOrder 120 = .ok (.iload_n 3, 1) := by decide +kernel
theorem dX12_laysOrder_121 : decode cX12_laysOrder 121 = .ok (.laload, 1) := by decide +kernel
theorem dX12_laysOrder_122 : decode cX12_laysOrder 122 = .ok (.lcmp, 1) := by decide +kernel
theorem dX12_laysOrder_123 : decode cX12_laysOrder 123 = .ok (.ifCond .ge 23, 3) := by decide +kernel
theorem dX12_laysOrder_126 : decode cX12_laysOrder 126 = .ok (.aload_n 0, 1) := by decide +kernel
theorem dX12_laysOrder_127 : decode cX12_laysOrder 127 = .ok (.getfield 102, 3) := by decide +kernel
theorem dX12_laysOrder_130 : decode cX12_laysOrder 130 = .ok (.iload_n 3, 1) := by decide +kernel
theorem dX12_laysOrder_131 : decode cX12_laysOrder 131 = .ok (.aload_n 0, 1) := by decide +kernel
theorem dX12_laysOrder_132 : decode cX12_laysOrder 132 = .ok (.iload 6, 2) := by decide +kernel
theorem dX12_laysOrder_134 : decode cX12_laysOrder 134 = .ok (.invokevirtual 376, 3) := by decide +kernel
theorem dX12_laysOrder_137 : decode cX12_laysOrder 137 = .ok (.aload_n 0, 1) := by decide +kernel
theorem dX12_laysOrder_138 : decode cX12_laysOrder 138 = .ok (.getfield 102, 3) := by decide +kernel
theorem dX12_laysOrder_141 : decode cX12_laysOrder 141 = .ok (.iload 6, 2) := by decide +kernel
theorem dX12_laysOrder_143 : decode cX12_laysOrder 143 = .ok (.laload, 1) := by decide +kernel
theorem dX12_laysOrder_144 : decode cX12_laysOrder 144 = .ok (.ladd, 1) := by decide +kernel
theorem dX12_laysOrder_145 : decode cX12_laysOrder 145 = .ok (.lastore, 1) := by decide +kernel
theorem dX12_laysOrder_146 : decode cX12_laysOrder 146 = .ok (.iinc 5 1, 3) := by decide +kernel
theorem dX12_laysOrder_149 : decode cX12_laysOrder 149 = .ok (.goto (-81), 3) := by decide +kernel
theorem dX12_laysOrder_152 : decode cX12_laysOrder 152 = .ok (.iinc 3 1, 3) := by decide +kernel
theorem dX12_laysOrder_155 : decode cX12_laysOrder 155 = .ok (.goto (-143), 3) := by decide +kernel
theorem dX12_laysOrder_158 : decode cX12_laysOrder 158 = .ok (.return_, 1) := by decide +kernel
theorem dX12_isOrder_0 : decode cX12_isOrder 0 = .ok (.iload_n 1, 1) := by decide +kernel
theorem dX12_isOrder_1 : decode cX12_isOrder 1 = .ok (.i2l, 1) := by decide +kernel
theorem dX12_isOrder_2 : decode cX12_isOrder 2 = .ok (.lconst 1, 1) := by decide +kernel
theorem dX12_isOrder_3 : decode cX12_isOrder 3 = .ok (.ldc2_w 423, 3) := by decide +kernel
theorem dX12_isOrder_6 : decode cX12_isOrder 6 = .ok (.invokestatic 138, 3) := by decide +kernel
theorem dX12_isOrder_9 : decode cX12_isOrder 9 = .ok (.ifCond .eq 18, 3) := by decide +kernel
theorem dX12_isOrder_12 : decode cX12_isOrder 12 = .ok (.iload_n 1, 1) := by decide +kernel
theorem dX12_isOrder_13 : decode cX12_isOrder 13 = .ok (.aload_n 0, 1) := by decide +kernel
theorem dX12_isOrder_14 : decode cX12_isOrder 14 = .ok (.getfield 146, 3) := by decide +kernel
theorem dX12_isOrder_17 : decode cX12_isOrder 17 = .ok (.invokestatic 297, 3) := by decide +kernel
theorem dX12_isOrder_20 : decode cX12_isOrder 20 = .ok (.if_icmp .gt 7, 3) := by decide +kernel
theorem dX12_isOrder_23 : decode cX12_isOrder 23 = .ok (.iconst 1, 1) := by decide +kernel
theorem dX12_isOrder_24 : decode cX12_isOrder 24 = .ok (.goto 4, 3) := by decide +kernel
theorem dX12_isOrder_27 : decode cX12_isOrder 27 = .ok (.iconst 0, 1) := by decide +kernel
theorem dX12_isOrder_28 : decode cX12_isOrder 28 = .ok (.ireturn, 1) := by decide +kernel
theorem dX12_order_0 : decode cX12_order 0 = .ok (.aload_n 0, 1) := by decide +kernel
theorem dX12_order_1 : decode cX12_order 1 = .ok (.iload_n 1, 1) := by decide +kernel
theorem dX12_order_2 : decode cX12_order 2 = .ok (.invokevirtual 425, 3) := by decide +kernel
theorem dX12_order_5 : decode cX12_order 5 = .ok (.ifCond .eq 18, 3) := by decide +kernel
theorem dX12_order_8 : decode cX12_order 8 = .ok (.iload_n 2, 1) := by decide +kernel
theorem dX12_order_9 : decode cX12_order 9 = .ok (.i2l, 1) := by decide +kernel
theorem dX12_order_10 : decode cX12_order 10 = .ok (.ldc2_w 374, 3) := by decide +kernel
theorem dX12_order_13 : decode cX12_order 13 = .ok (.iload_n 1, 1) := by decide +kernel
theorem dX12_order_14 : decode cX12_order 14 = .ok (.iconst 1, 1) := by decide +kernel
theorem dX12_order_15 : decode cX12_order 15 = .ok (.isub, 1) := by decide +kernel
theorem dX12_order_16 : decode cX12_order 16 = .ok (.i2l, 1) := by decide +kernel
theorem dX12_order_17 : decode cX12_order 17 = .ok (.invokestatic 138, 3) := by decide +kernel
theorem dX12_order_20 : decode cX12_order 20 = .ok (.ifCond .ne 7, 3) := by decide +kernel
theorem dX12_order_23 : decode cX12_order 23 = .ok (.ldc2_w 374, 3) := by decide +kernel
theorem dX12_order_26 : decode cX12_order 26 = .ok (.lreturn, 1) := by decide +kernel
theorem dX12_order_27 : decode cX12_order 27 = .ok (.aload_n 0, 1) := by decide +kernel
theorem dX12_order_28 : decode cX12_order 28 = .ok (.iload_n 1, 1) := by decide +kernel
theorem dX12_order_29 : decode cX12_order 29 = .ok (.invokevirtual 428, 3) := by decide +kernel
theorem dX12_order_32 : decode cX12_order 32 = .ok (.iload_n 2, 1) := by decide +kernel
theorem dX12_order_33 : decode cX12_order 33 = .ok (.iconst (-1), 1) := by decide +kernel
theorem dX12_order_34 : decode cX12_order 34 = .ok (.if_icmp .ne 13, 3) := by decide +kernel
theorem dX12_order_37 : decode cX12_order 37 = .ok (.aload_n 0, 1) := by decide +kernel
theorem dX12_order_38 : decode cX12_order 38 = .ok (.getfield 102, 3) := by decide +kernel
theorem dX12_order_41 : decode cX12_order 41 = .ok (.aload_n 0, 1) := by decide +kernel
theorem dX12_order_42 : decode cX12_order 42 = .ok (.getfield 146, 3) := by decide +kernel
theorem dX12_order_45 : decode cX12_order 45 = .ok (.laload, 1) := by decide +kernel
theorem dX12_order_46 : decode cX12_order 46 = .ok (.lreturn, 1) := by decide +kernel
theorem dX12_order_47 : decode cX12_order 47 = .ok (.aload_n 0, 1) := by decide +kernel
theorem dX12_order_48 : decode cX12_order 48 = .ok (.getfield 146, 3) := by decide +kernel
theorem dX12_order_51 : decode cX12_order 51 = .ok (.istore_n 3, 1) := by decide +kernel
theorem dX12_order_52 : decode cX12_order 52 = .ok (.iconst 0, 1) := by decide +kernel
theorem dX12_order_53 : decode cX12_order 53 = .ok (.istore 4, 2) := by decide +kernel
theorem dX12_order_55 : decode cX12_order 55 = .ok (.iconst 0, 1) := by decide +kernel
theorem dX12_order_56 : decode cX12_order 56 = .ok (.istore 5, 2) := by decide +kernel
theorem dX12_order_58 : decode cX12_order 58 = .ok (.iload 5, 2) := by decide +kernel
theorem dX12_order_60 : decode cX12_order 60 = .ok (.iload_n 2, 1) := by decide +kernel
theorem dX12_order_61 : decode cX12_order 61 = .ok (.if_icmp .gt 72, 3) := by decide +kernel
theorem dX12_order_64 : decode cX12_order 64 = .ok (.iconst 0, 1) := by decide +kernel
theorem dX12_order_65 : decode cX12_order 65 = .ok (.istore 4, 2) := by decide +kernel
theorem dX12_order_67 : decode cX12_order 67 = .ok (.iload_n 3, 1) := by decide +kernel
theorem dX12_order_68 : decode cX12_order 68 = .ok (.iload 4, 2) := by decide +kernel
theorem dX12_order_70 : decode cX12_order 70 = .ok (.invokestatic 149, 3) := by decide +kernel
theorem dX12_order_73 : decode cX12_order 73 = .ok (.ifCond .eq 39, 3) := by decide +kernel
theorem dX12_order_76 : decode cX12_order 76 = .ok (.aload_n 0, 1) := by decide +kernel
theorem dX12_order_77 : decode cX12_order 77 = .ok (.iload_n 3, 1) := by decide +kernel
theorem dX12_order_78 : decode cX12_order 78 = .ok (.iconst 1, 1) := by decide +kernel
theorem dX12_order_79 : decode cX12_order 79 = .ok (.iload 4, 2) := by decide +kernel
theorem dX12_order_81 : decode cX12_order 81 = .ok (.ishl, 1) := by decide +kernel
theorem dX12_order_82 : decode cX12_order 82 = .ok (.iconst (-1), 1) := by decide +kernel
theorem dX12_order_83 : decode cX12_order 83 = .ok (.ixor, 1) := by decide +kernel
theorem dX12_order_84 : decode cX12_order 84 = .ok (.iand, 1) := by decide +kernel
theorem dX12_order_85 : decode cX12_order 85 = .ok (.invokevirtual 376, 3) := by decide +kernel
theorem dX12_order_88 : decode cX12_order 88 = .ok (.aload_n 0, 1) := by decide +kernel
theorem dX12_order_89 : decode cX12_order 89 = .ok (.getfield 102, 3) := by decide +kernel
theorem dX12_order_92 : decode cX12_order 92 = .ok (.iload_n 3, 1) := by decide +kernel
theorem dX12_order_93 : decode cX12_order 93 = .ok (.iconst 1, 1) := by decide +kernel
theorem dX12_order_94 : decode cX12_order 94 = .ok (.iload 4, 2) := by decide +kernel
theorem dX12_order_96 : decode cX12_order 96 = .ok (.ishl, 1) := by decide +kernel
theorem dX12_order_97 : decode cX12_order 97 = .ok (.iconst (-1), 1) := by decide +kernel
theorem dX12_order_98 : decode cX12_order 98 = .ok (.ixor, 1) := by decide +kernel
theorem dX12_order_99 : decode cX12_order 99 = .ok (.iand, 1) := by decide +kernel
theorem dX12_order_100 : decode cX12_order 100 = .ok (.laload, 1) := by decide +kernel
theorem dX12_order_101 : decode cX12_order 101 = .ok (.ladd, 1) := by decide +kernel
theorem dX12_order_102 : decode cX12_order 102 = .ok (.aload_n 0, 1) := by decide +kernel
theorem dX12_order_103 : decode cX12_order 103 = .ok (.getfield 102, 3) := by decide +kernel
theorem dX12_order_106 : decode cX12_order 106 = .ok (.iload_n 3, 1) := by decide +kernel
theorem dX12_order_107 : decode cX12_order 107 = .ok (.laload, 1) := by decide +kernel
theorem dX12_order_108 : decode cX12_order 108 = .ok (.lcmp, 1) := by decide +kernel
theorem dX12_order_109 : decode cX12_order 109 = .ok (.ifCond .eq 9, 3) := by decide +kernel
