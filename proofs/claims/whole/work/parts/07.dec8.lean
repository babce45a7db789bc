theorem dX12_lawIs_107 : decode cX12_lawIs 107 = .ok (.istore 4, 2) := by decide +kernel
theorem dX12_lawIs_109 : decode cX12_lawIs 109 = .ok (.iload_n 2, 1) := by decide +kernel
theorem dX12_lawIs_110 : decode cX12_lawIs 110 = .ok (.ifCond .ne 12, 3) := by decide +kernel
theorem dX12_lawIs_113 : decode cX12_lawIs 113 = .ok (.aload_n 0, 1) := by decide +kernel
theorem dX12_lawIs_114 : decode cX12_lawIs 114 = .ok (.getfield 114, 3) := by decide +kernel
theorem dX12_lawIs_117 : decode cX12_lawIs 117 = .ok (.iload_n 1, 1) := by decide +kernel
theorem dX12_lawIs_118 : decode cX12_lawIs 118 = .ok (.iaload, 1) := by decide +kernel
theorem dX12_lawIs_119 : decode cX12_lawIs 119 = .ok (.goto 40, 3) := by decide +kernel
theorem dX12_lawIs_122 : decode cX12_lawIs 122 = .ok (.iload_n 2, 1) := by decide +kernel
theorem dX12_lawIs_123 : decode cX12_lawIs 123 = .ok (.iconst 1, 1) := by decide +kernel
theorem dX12_lawIs_124 : decode cX12_lawIs 124 = .ok (.if_icmp .ne 11, 3) := by decide +kernel
theorem dX12_lawIs_127 : decode cX12_lawIs 127 = .ok (.aload_n 0, 1) := by decide +kernel
theorem dX12_lawIs_128 : decode cX12_lawIs 128 = .ok (.iload_n 1, 1) := by decide +kernel
theorem dX12_lawIs_129 : decode cX12_lawIs 129 = .ok (.invokevirtual 467, 3) := by decide +kernel
theorem dX12_lawIs_132 : decode cX12_lawIs 132 = .ok (.goto 27, 3) := by decide +kernel
theorem dX12_lawIs_135 : decode cX12_lawIs 135 = .ok (.iload_n 2, 1) := by decide +kernel
theorem dX12_lawIs_136 : decode cX12_lawIs 136 = .ok (.iconst 2, 1) := by decide +kernel
theorem dX12_lawIs_137 : decode cX12_lawIs 137 = .ok (.if_icmp .ne 7, 3) := by decide +kernel
theorem dX12_lawIs_140 : decode cX12_lawIs 140 = .ok (.iload_n 3, 1) := by decide +kernel
theorem dX12_lawIs_141 : decode cX12_lawIs 141 = .ok (.goto 18, 3) := by decide +kernel
theorem dX12_lawIs_144 : decode cX12_lawIs 144 = .ok (.iload 4, 2) := by decide +kernel
theorem dX12_lawIs_146 : decode cX12_lawIs 146 = .ok (.ldc_w 324, 3) := by decide +kernel
theorem dX12_lawIs_149 : decode cX12_lawIs 149 = .ok (.if_icmp .lt 8, 3) := by decide +kernel
theorem dX12_lawIs_152 : decode cX12_lawIs 152 = .ok (.bipush (-2), 2) := by decide +kernel
theorem dX12_lawIs_154 : decode cX12_lawIs 154 = .ok (.goto 5, 3) := by decide +kernel
theorem dX12_lawIs_157 : decode cX12_lawIs 157 = .ok (.iload 4, 2) := by decide +kernel
theorem dX12_lawIs_159 : decode cX12_lawIs 159 = .ok (.ireturn, 1) := by decide +kernel
theorem dX12_talkWith_0 : decode cX12_talkWith 0 = .ok (.bipush 64, 2) := by decide +kernel
theorem dX12_talkWith_2 : decode cX12_talkWith 2 = .ok (.aload_n 0, 1) := by decide +kernel
theorem dX12_talkWith_3 : decode cX12_talkWith 3 = .ok (.getfield 146, 3) := by decide +kernel
theorem dX12_talkWith_6 : decode cX12_talkWith 6 = .ok (.imul, 1) := by decide +kernel
theorem dX12_talkWith_7 : decode cX12_talkWith 7 = .ok (.istore_n 3, 1) := by decide +kernel
theorem dX12_talkWith_8 : decode cX12_talkWith 8 = .ok (.iconst 0, 1) := by decide +kernel
theorem dX12_talkWith_9 : decode cX12_talkWith 9 = .ok (.istore 4, 2) := by decide +kernel
theorem dX12_talkWith_11 : decode cX12_talkWith 11 = .ok (.iload 4, 2) := by decide +kernel
theorem dX12_talkWith_13 : decode cX12_talkWith 13 = .ok (.bipush 64, 2) := by decide +kernel
theorem dX12_talkWith_15 : decode cX12_talkWith 15 = .ok (.if_icmp .ge 25, 3) := by decide +kernel
theorem dX12_talkWith_18 : decode cX12_talkWith 18 = .ok (.aload_n 0, 1) := by decide +kernel
theorem dX12_talkWith_19 : decode cX12_talkWith 19 = .ok (.getfield 89, 3) := by decide +kernel
theorem dX12_talkWith_22 : decode cX12_talkWith 22 = .ok (.iload_n 3, 1) := by decide +kernel
theorem dX12_talkWith_23 : decode cX12_talkWith 23 = .ok (.iload 4, 2) := by decide +kernel
theorem dX12_talkWith_25 : decode cX12_talkWith 25 = .ok (.iadd, 1) := by decide +kernel
theorem dX12_talkWith_26 : decode cX12_talkWith 26 = .ok (.aload_n 0, 1) := by decide +kernel
theorem dX12_talkWith_27 : decode cX12_talkWith 27 = .ok (.getfield 132, 3) := by decide +kernel
theorem dX12_talkWith_30 : decode cX12_talkWith 30 = .ok (.iload 4, 2) := by decide +kernel
theorem dX12_talkWith_32 : decode cX12_talkWith 32 = .ok (.iaload, 1) := by decide +kernel
theorem dX12_talkWith_33 : decode cX12_talkWith 33 = .ok (.iastore, 1) := by decide +kernel
theorem dX12_talkWith_34 : decode cX12_talkWith 34 = .ok (.iinc 4 1, 3) := by decide +kernel
theorem dX12_talkWith_37 : decode cX12_talkWith 37 = .ok (.goto (-26), 3) := by decide +kernel
theorem dX12_talkWith_40 : decode cX12_talkWith 40 = .ok (.iload_n 2, 1) := by decide +kernel
theorem dX12_talkWith_41 : decode cX12_talkWith 41 = .ok (.aload_n 0, 1) := by decide +kernel
theorem dX12_talkWith_42 : decode cX12_talkWith 42 = .ok (.getfield 89, 3) := by decide +kernel
theorem dX12_talkWith_45 : decode cX12_talkWith 45 = .ok (.iload_n 3, 1) := by decide +kernel
theorem dX12_talkWith_46 : decode cX12_talkWith 46 = .ok (.iload_n 1, 1) := by decide +kernel
theorem dX12_talkWith_47 : decode cX12_talkWith 47 = .ok (.iadd, 1) := by decide +kernel
theorem dX12_talkWith_48 : decode cX12_talkWith 48 = .ok (.iaload, 1) := by decide +kernel
theorem dX12_talkWith_49 : decode cX12_talkWith 49 = .ok (.if_icmp .lt 12, 3) := by decide +kernel
theorem dX12_talkWith_52 : decode cX12_talkWith 52 = .ok (.aload_n 0, 1) := by decide +kernel
theorem dX12_talkWith_53 : decode cX12_talkWith 53 = .ok (.aload_n 0, 1) := by decide +kernel
theorem dX12_talkWith_54 : decode cX12_talkWith 54 = .ok (.getfield 146, 3) := by decide +kernel
theorem dX12_talkWith_57 : decode cX12_talkWith 57 = .ok (.invokevirtual 376, 3) := by decide +kernel
theorem dX12_talkWith_60 : decode cX12_talkWith 60 = .ok (.lreturn, 1) := by decide +kernel
theorem dX12_talkWith_61 : decode cX12_talkWith 61 = .ok (.aload_n 0, 1) := by decide +kernel
theorem dX12_talkWith_62 : decode cX12_talkWith 62 = .ok (.getfield 89, 3) := by decide +kernel
theorem dX12_talkWith_65 : decode cX12_talkWith 65 = .ok (.iload_n 3, 1) := by decide +kernel
theorem dX12_talkWith_66 : decode cX12_talkWith 66 = .ok (.iload_n 1, 1) := by decide +kernel
theorem dX12_talkWith_67 : decode cX12_talkWith 67 = .ok (.iadd, 1) := by decide +kernel
theorem dX12_talkWith_68 : decode cX12_talkWith 68 = .ok (.iload_n 2, 1) := by decide +kernel
theorem dX12_talkWith_69 : decode cX12_talkWith 69 = .ok (.iastore, 1) := by decide +kernel
theorem dX12_talkWith_70 : decode cX12_talkWith 70 = .ok (.aload_n 0, 1) := by decide +kernel
theorem dX12_talkWith_71 : decode cX12_talkWith 71 = .ok (.aload_n 0, 1) := by decide +kernel
theorem dX12_talkWith_72 : decode cX12_talkWith 72 = .ok (.getfield 146, 3) := by decide +kernel
theorem dX12_talkWith_75 : decode cX12_talkWith 75 = .ok (.iconst 1, 1) := by decide +kernel
theorem dX12_talkWith_76 : decode cX12_talkWith 76 = .ok (.invokevirtual 325, 3) := by decide +kernel
theorem dX12_talkWith_79 : decode cX12_talkWith 79 = .ok (.istore 4, 2) := by decide +kernel
theorem dX12_talkWith_81 : decode cX12_talkWith 81 = .ok (.aload_n 0, 1) := by decide +kernel
theorem dX12_talkWith_82 : decode cX12_talkWith 82 = .ok (.aload_n 0, 1) := by decide +kernel
theorem dX12_talkWith_83 : decode cX12_talkWith 83 = .ok (.getfield 146, 3) := by decide +kernel
theorem dX12_talkWith_86 : decode cX12_talkWith 86 = .ok (.iconst 2, 1) := by decide +kernel
theorem dX12_talkWith_87 : decode cX12_talkWith 87 = .ok (.invokevirtual 325, 3) := by decide +kernel
theorem dX12_talkWith_90 : decode cX12_talkWith 90 = .ok (.istore 5, 2) := by decide +kernel
theorem dX12_talkWith_92 : decode cX12_talkWith 92 = .ok (.aload_n 0, 1) := by decide +kernel
theorem dX12_talkWith_93 : decode cX12_talkWith 93 = .ok (.aload_n 0, 1) := by decide +kernel
theorem dX12_talkWith_94 : decode cX12_talkWith 94 = .ok (.getfield 146, 3) := by decide +kernel
theorem dX12_talkWith_97 : decode cX12_talkWith 97 = .ok (.iconst 3, 1) := by decide +kernel
theorem dX12_talkWith_98 : decode cX12_talkWith 98 = .ok (.invokevirtual 325, 3) := by decide +kernel
theorem dX12_talkWith_101 : decode cX12_talkWith 101 = .ok (.istore 6, 2) := by decide +kernel
theorem dX12_talkWith_103 : decode cX12_talkWith 103 = .ok (.iconst 1, 1) := by decide +kernel
theorem dX12_talkWith_104 : decode cX12_talkWith 104 = .ok (.istore 7, 2) := by decide +kernel
theorem dX12_talkWith_106 : decode cX12_talkWith 106 = .ok (.iload 7, 2) := by decide +kernel
theorem dX12_talkWith_108 : decode cX12_talkWith 108 = .ok (.ifCond .eq 188, 3) := by decide +kernel
theorem dX12_talkWith_111 : decode cX12_talkWith 111 = .ok (.iconst 0, 1) := by decide +kernel
theorem dX12_talkWith_112 : decode cX12_talkWith 112 = .ok (.istore 7, 2) := by decide +kernel
theorem dX12_talkWith_114 : decode cX12_talkWith 114 = .ok (.iconst 0, 1) := by decide +kernel
theorem dX12_talkWith_115 : decode cX12_talkWith 115 = .ok (.istore 8, 2) := by decide +kernel
theorem dX12_talkWith_117 : decode cX12_talkWith 117 = .ok (.iload 8, 2) := by decide +kernel
theorem dX12_talkWith_119 : decode cX12_talkWith 119 = .ok (.bipush 64, 2) := by decide +kernel
theorem dX12_talkWith_121 : decode cX12_talkWith 121 = .ok (.if_icmp .ge 172, 3) := by decide +kernel
theorem dX12_talkWith_124 : decode cX12_talkWith 124 = .ok (.aload_n 0, 1) := by decide +kernel
theorem dX12_talkWith_125 : decode cX12_talkWith 125 = .ok (.getfield 89, 3) := by decide +kernel
theorem dX12_talkWith_128 : decode cX12_talkWith 128 = .ok (.iload_n 3, 1) := by decide +kernel
theorem dX12_talkWith_129 : decode cX12_talkWith 129 = .ok (.iload 8, 2) := by decide +kernel
theorem dX12_talkWith_131 : decode cX12_talkWith 131 = .ok (.iadd, 1) := by decide +kernel
theorem dX12_talkWith_132 : decode cX12_talkWith 132 = .ok (.iaload, 1) := by decide +kernel
theorem dX12_talkWith_133 : decode cX12_talkWith 133 = .ok (.ldc_w 324, 3) := by decide +kernel
theorem dX12_talkWith_136 : decode cX12_talkWith 136 = .ok (.if_icmp .lt 6, 3) := by decide +kernel
theorem dX12_talkWith_139 : decode cX12_talkWith 139 = .ok (.goto 148, 3) := by decide +kernel
theorem dX12_talkWith_142 : decode cX12_talkWith 142 = .ok (.aload_n 0, 1) := by decide +kernel
theorem dX12_talkWith_143 : decode cX12_talkWith 143 = .ok (.iload_n 3, 1) := by decide +kernel
theorem dX12_talkWith_144 : decode cX12_talkWith 144 = .ok (.bipush 63, 2) := by decide +kernel
theorem dX12_talkWith_146 : decode cX12_talkWith 146 = .ok (.iload 8, 2) := by decide +kernel
theorem dX12_talkWith_148 : decode cX12_talkWith 148 = .ok (.ixor, 1) := by decide +kernel
theorem dX12_talkWith_149 : decode cX12_talkWith 149 = .ok (.aload_n 0, 1) := by decide +kernel
theorem dX12_talkWith_150 : decode cX12_talkWith 150 = .ok (.getfield 89, 3) := by decide +kernel
theorem dX12_talkWith_153 : decode cX12_talkWith 153 = .ok (.iload_n 3, 1) := by decide +kernel
theorem dX12_talkWith_154 : decode cX12_talkWith 154 = .ok (.iload 8, 2) := by decide +kernel
theorem dX12_talkWith_156 : decode cX12_talkWith 156 = .ok (.iadd, 1) := by decide +kernel
theorem dX12_talkWith_157 : decode cX12_talkWith 157 = .ok (.iaload, 1) := by decide +kernel
theorem dX12_talkWith_158 : decode cX12_talkWith 158 = .ok (.iload 4, 2) := by decide +kernel
theorem dX12_talkWith_160 : decode cX12_talkWith 160 = .ok (.iadd, 1) := by decide +kernel
theorem dX12_talkWith_161 : decode cX12_talkWith 161 = .ok (.invokevirtual 328, 3) := by decide +kernel
theorem dX12_talkWith_164 : decode cX12_talkWith 164 = .ok (.ifCond .ne 8, 3) := by decide +kernel
theorem dX12_talkWith_167 : decode cX12_talkWith 167 = .ok (.iload 7, 2) := by decide +kernel
theorem dX12_talkWith_169 : decode cX12_talkWith 169 = .ok (.ifCond .eq 7, 3) := by decide +kernel
theorem dX12_talkWith_172 : decode cX12_talkWith 172 = .ok (.iconst 1, 1) := by decide +kernel
theorem dX12_talkWith_173 : decode cX12_talkWith 173 = .ok (.goto 4, 3) := by decide +kernel
theorem dX12_talkWith_176 : decode cX12_talkWith 176 = .ok (.iconst 0, 1) := by decide +kernel
theorem dX12_talkWith_177 : decode cX12_talkWith 177 = .ok (.istore 7, 2) := by decide +kernel
theorem dX12_talkWith_179 : decode cX12_talkWith 179 = .ok (.iconst 0, 1) := by decide +kernel
theorem dX12_talkWith_180 : decode cX12_talkWith 180 = .ok (.istore 9, 2) := by decide +kernel
theorem dX12_talkWith_182 : decode cX12_talkWith 182 = .ok (.iload 9, 2) := by decide +kernel
theorem dX12_talkWith_184 : decode cX12_talkWith 184 = .ok (.iload 8, 2) := by decide +kernel
theorem dX12_talkWith_186 : decode cX12_talkWith 186 = .ok (.if_icmp .ge 101, 3) := by decide +kernel
theorem dX12_talkWith_189 : decode cX12_talkWith 189 = .ok (.aload_n 0, 1) := by decide +kernel
theorem dX12_talkWith_190 : decode cX12_talkWith 190 = .ok (.getfield 89, 3) := by decide +kernel
theorem dX12_talkWith_193 : decode cX12_talkWith 193 = .ok (.iload_n 3, 1) := by decide +kernel
theorem dX12_talkWith_194 : decode cX12_talkWith 194 = .ok (.iload 8, 2) := by decide +kernel
theorem dX12_talkWith_196 : decode cX12_talkWith 196 = .ok (.iadd, 1) := by decide +kernel
theorem dX12_talkWith_197 : decode cX12_talkWith 197 = .ok (.iaload, 1) := by decide +kernel
theorem dX12_talkWith_198 : decode cX12_talkWith 198 = .ok (.aload_n 0, 1) := by decide +kernel
theorem dX12_talkWith_199 : decode cX12_talkWith 199 = .ok (.getfield 89, 3) := by decide +kernel
theorem dX12_talkWith_202 : decode cX12_talkWith 202 = .ok (.iload_n 3, 1) := by decide +kernel
theorem dX12_talkWith_203 : decode cX12_talkWith 203 = .ok (.iload 9, 2) := by decide +kernel
theorem dX12_talkWith_205 : decode cX12_talkWith 205 = .ok (.iadd, 1) := by decide +kernel
theorem dX12_talkWith_206 : decode cX12_talkWith 206 = .ok (.iaload, 1) := by decide +kernel
theorem dX12_talkWith_207 : decode cX12_talkWith 207 = .ok (.iadd, 1) := by decide +kernel
theorem dX12_talkWith_208 : decode cX12_talkWith 208 = .ok (.istore 10, 2) := by decide +kernel
theorem dX12_talkWith_210 : decode cX12_talkWith 210 = .ok (.iload 10, 2) := by decide +kernel
theorem dX12_talkWith_212 : decode cX12_talkWith 212 = .ok (.ldc_w 324, 3) := by decide +kernel
theorem dX12_talkWith_215 : decode cX12_talkWith 215 = .ok (.if_icmp .lt 6, 3) := by decide +kernel
theorem dX12_talkWith_218 : decode cX12_talkWith 218 = .ok (.goto 63, 3) := by decide +kernel
theorem dX12_talkWith_221 : decode cX12_talkWith 221 = .ok (.aload_n 0, 1) := by decide +kernel
theorem dX12_talkWith_222 : decode cX12_talkWith 222 = .ok (.iload_n 3, 1) := by decide +kernel
theorem dX12_talkWith_223 : decode cX12_talkWith 223 = .ok (.iload 8, 2) := by decide +kernel
theorem dX12_talkWith_225 : decode cX12_talkWith 225 = .ok (.iload 9, 2) := by decide +kernel
theorem dX12_talkWith_227 : decode cX12_talkWith 227 = .ok (.iand, 1) := by decide +kernel
theorem dX12_talkWith_228 : decode cX12_talkWith 228 = .ok (.iload 10, 2) := by decide +kernel
theorem dX12_talkWith_230 : decode cX12_talkWith 230 = .ok (.iload 5, 2) := by decide +kernel
theorem dX12_talkWith_232 : decode cX12_talkWith 232 = .ok (.iadd, 1) := by decide +kernel
theorem dX12_talkWith_233 : decode cX12_talkWith 233 = .ok (.invokevirtual 328, 3) := by decide +kernel
theorem dX12_talkWith_236 : decode cX12_talkWith 236 = .ok (.ifCond .ne 8, 3) := by decide +kernel
theorem dX12_talkWith_239 : decode cX12_talkWith 239 = .ok (.iload 7, 2) := by decide +kernel
theorem dX12_talkWith_241 : decode cX12_talkWith 241 = .ok (.ifCond .eq 7, 3) := by decide +kernel
theorem dX12_talkWith_244 : decode cX12_talkWith 244 = .ok (.iconst 1, 1) := by decide +kernel
theorem dX12_talkWith_245 : decode cX12_talkWith 245 = .ok (.goto 4, 3) := by decide +kernel
theorem dX12_talkWith_248 : decode cX12_talkWith 248 = .ok (.iconst 0, 1) := by decide +kernel
theorem dX12_talkWith_249 : decode cX12_talkWith 249 = .ok (.istore 7, 2) := by decide +kernel
theorem dX12_talkWith_251 : decode cX12_talkWith 251 = .ok (.aload_n 0, 1) := by decide +kernel
theorem dX12_talkWith_252 : decode cX12_talkWith 252 = .ok (.iload_n 3, 1) := by decide +kernel
theorem dX12_talkWith_253 : decode cX12_talkWith 253 = .ok (.iload 8, 2) := by decide +kernel
theorem dX12_talkWith_255 : decode cX12_talkWith 255 = .ok (.iload 9, 2) := by decide +kernel
theorem dX12_talkWith_257 : decode cX12_talkWith 257 = .ok (.ior, 1) := by decide +kernel
theorem dX12_talkWith_258 : decode cX12_talkWith 258 = .ok (.iload 10, 2) := by decide +kernel
theorem dX12_talkWith_260 : decode cX12_talkWith 260 = .ok (.iload 6, 2) := by decide +kernel
theorem dX12_talkWith_262 : decode cX12_talkWith 262 = .ok (.iadd, 1) := by decide +kernel
theorem dX12_talkWith_263 : decode cX12_talkWith 263 = .ok (.invokevirtual 328, 3) := by decide +kernel
theorem dX12_talkWith_266 : decode cX12_talkWith 266 = .ok (.ifCond .ne 8, 3) := by decide +kernel
theorem dX12_talkWith_269 : decode cX12_talkWith 269 = .ok (.iload 7, 2) := by decide +kernel
theorem dX12_talkWith_271 : decode cX12_talkWith 271 = .ok (.ifCond .eq 7, 3) := by decide +kernel
theorem dX12_talkWith_274 : decode cX12_talkWith 274 = .ok (.iconst 1, 1) := by decide +kernel
theorem dX12_talkWith_275 : decode cX12_talkWith 275 = .ok (.goto 4, 3) := by decide +kernel
theorem dX12_talkWith_278 : decode cX12_talkWith 278 = .ok (.iconst 0, 1) := by decide +kernel
theorem dX12_talkWith_279 : decode cX12_talkWith 279 = .ok (.istore 7, 2) := by decide +kernel
theorem dX12_talkWith_281 : decode cX12_talkWith 281 = .ok (.iinc 9 1, 3) := by decide +kernel
theorem dX12_talkWith_284 : decode cX12_talkWith 284 = .ok (.goto (-102), 3) := by decide +kernel
theorem dX12_talkWith_287 : decode cX12_talkWith 287 = .ok (.iinc 8 1, 3) := by decide +kernel
theorem dX12_talkWith_290 : decode cX12_talkWith 290 = .ok (.goto (-173), 3) := by decide +kernel
theorem dX12_talkWith_293 : decode cX12_talkWith 293 = .ok (.goto (-187), 3) := by decide +kernel
theorem dX12_talkWith_296 : decode cX12_talkWith 296 = .ok (.lconst 0, 1) := by decide +kernel
theorem dX12_talkWith_297 : decode cX12_talkWith 297 = .ok (.lstore 8, 2) := by decide +kernel
theorem dX12_talkWith_299 : decode cX12_talkWith 299 = .ok (.iconst 0, 1) := by decide +kernel
theorem dX12_talkWith_300 : decode cX12_talkWith 300 = .ok (.istore 10, 2) := by decide +kernel
theorem dX12_talkWith_302 : decode cX12_talkWith 302 = .ok (.iload 10, 2) := by decide +kernel
theorem dX12_talkWith_304 : decode cX12_talkWith 304 = .ok (.aload_n 0, 1) := by decide +kernel
theorem dX12_talkWith_305 : decode cX12_talkWith 305 = .ok (.getfield 167, 3) := by decide +kernel
theorem dX12_talkWith_308 : decode cX12_talkWith 308 = .ok (.if_icmp .ge 59, 3) := by decide +kernel
theorem dX12_talkWith_311 : decode cX12_talkWith 311 = .ok (.aload_n 0, 1) := by decide +kernel
theorem dX12_talkWith_312 : decode cX12_talkWith 312 = .ok (.aload_n 0, 1) := by decide +kernel
theorem dX12_talkWith_313 : decode cX12_talkWith 313 = .ok (.getfield 146, 3) := by decide +kernel
theorem dX12_talkWith_316 : decode cX12_talkWith 316 = .ok (.aload_n 0, 1) := by decide +kernel
theorem dX12_talkWith_317 : decode cX12_talkWith 317 = .ok (.getfield 36, 3) := by decide +kernel
theorem dX12_talkWith_320 : decode cX12_talkWith 320 = .ok (.iload 10, 2) := by decide +kernel
theorem dX12_talkWith_322 : decode cX12_talkWith 322 = .ok (.iaload, 1) := by decide +kernel
theorem dX12_talkWith_323 : decode cX12_talkWith 323 = .ok (.invokevirtual 364, 3) := by decide +kernel
theorem dX12_talkWith_326 : decode cX12_talkWith 326 = .ok (.istore 11, 2) := by decide +kernel
theorem dX12_talkWith_328 : decode cX12_talkWith 328 = .ok (.lload 8, 2) := by decide +kernel
theorem dX12_talkWith_330 : decode cX12_talkWith 330 = .ok (.aload_n 0, 1) := by decide +kernel
theorem dX12_talkWith_331 : decode cX12_talkWith 331 = .ok (.getfield 39, 3) := by decide +kernel
theorem dX12_talkWith_334 : decode cX12_talkWith 334 = .ok (.iload 10, 2) := by decide +kernel
theorem dX12_talkWith_336 : decode cX12_talkWith 336 = .ok (.iaload, 1) := by decide +kernel
theorem dX12_talkWith_337 : decode cX12_talkWith 337 = .ok (.i2l, 1) := by decide +kernel
theorem dX12_talkWith_338 : decode cX12_talkWith 338 = .ok (.iload 11, 2) := by decide +kernel
theorem dX12_talkWith_340 : decode cX12_talkWith 340 = .ok (.aload_n 0, 1) := by decide +kernel
theorem dX12_talkWith_341 : decode cX12_talkWith 341 = .ok (.getfield 13, 3) := by decide +kernel
theorem dX12_talkWith_344 : decode cX12_talkWith 344 = .ok (.if_icmp .ge 8, 3) := by decide +kernel
theorem dX12_talkWith_347 : decode cX12_talkWith 347 = .ok (.iload 11, 2) := by decide +kernel
theorem dX12_talkWith_349 : decode cX12_talkWith 349 = .ok (.goto 7, 3) := by decide +kernel
theorem dX12_talkWith_352 : decode cX12_talkWith 352 = .ok (.aload_n 0, 1) := by decide +kernel
theorem dX12_talkWith_353 : decode cX12_talkWith 353 = .ok (.getfield 13, 3) := by decide +kernel
theorem dX12_talkWith_356 : decode cX12_talkWith 356 = .ok (.i2l, 1) := by decide +kernel
theorem dX12_talkWith_357 : decode cX12_talkWith 357 = .ok (.lmul, 1) := by decide +kernel
theorem dX12_talkWith_358 : decode cX12_talkWith 358 = .ok (.ladd, 1) := by decide +kernel
theorem dX12_talkWith_359 : decode cX12_talkWith 359 = .ok (.lstore 8, 2) := by decide +kernel
theorem dX12_talkWith_361 : decode cX12_talkWith 361 = .ok (.iinc 10 1, 3) := by decide +kernel
theorem dX12_talkWith_364 : decode cX12_talkWith 364 = .ok (.goto (-62), 3) := by decide +kernel
theorem dX12_talkWith_367 : decode cX12_talkWith 367 = .ok (.lload 8, 2) := by decide +kernel
theorem dX12_talkWith_369 : decode cX12_talkWith 369 = .ok (.lreturn, 1) := by decide +kernel
theorem dX12_madeUp_0 : decode cX12_madeUp 0 = .ok (.iload_n 1, 1) := by decide +kernel
theorem dX12_madeUp_1 : decode cX12_madeUp 1 = .ok (.i2l, 1) := by decide +kernel
theorem dX12_madeUp_2 : decode cX12_madeUp 2 = .ok (.lconst 1, 1) := by decide +kernel
theorem dX12_madeUp_3 : decode cX12_madeUp 3 = .ok (.ldc2_w 157, 3) := by decide +kernel
theorem dX12_madeUp_6 : decode cX12_madeUp 6 = .ok (.invokestatic 138, 3) := by decide +kernel
theorem dX12_madeUp_9 : decode cX12_madeUp 9 = .ok (.ifCond .eq 13, 3) := by decide +kernel
theorem dX12_madeUp_12 : decode cX12_madeUp 12 = .ok (.iload_n 2, 1) := by decide +kernel
theorem dX12_madeUp_13 : decode cX12_madeUp 13 = .ok (.i2l, 1) := by decide +kernel
theorem dX12_madeUp_14 : decode cX12_madeUp 14 = .ok (.lconst 0, 1) := by decide +kernel
theorem dX12_madeUp_15 : decode cX12_madeUp 15 = .ok (.lconst 1, 1) := by decide +kernel
theorem dX12_madeUp_16 : decode cX12_madeUp 16 = .ok (.invokestatic 138, 3) := by decide +kernel
theorem dX12_madeUp_19 : decode cX12_madeUp 19 = .ok (.ifCond .ne 7, 3) := by decide +kernel
theorem dX12_madeUp_22 : decode cX12_madeUp 22 = .ok (.ldc2_w 374, 3) := by decide +kernel
theorem dX12_madeUp_25 : decode cX12_madeUp 25 = .ok (.lreturn, 1) := by decide +kernel
theorem dX12_madeUp_26 : decode cX12_madeUp 26 = .ok (.aload_n 0, 1) := by decide +kernel
theorem dX12_madeUp_27 : decode cX12_madeUp 27 = .ok (.aload_n 0, 1) := by decide +kernel
theorem dX12_madeUp_28 : decode cX12_madeUp 28 = .ok (.getfield 146, 3) := by decide +kernel
theorem dX12_madeUp_31 : decode cX12_madeUp 31 = .ok (.invokevirtual 376, 3) := by decide +kernel
theorem dX12_madeUp_34 : decode cX12_madeUp 34 = .ok (.lstore_n 3, 1) := by decide +kernel
theorem dX12_madeUp_35 : decode cX12_madeUp 35 = .ok (.aload_n 0, 1) := by decide +kernel
theorem dX12_madeUp_36 : decode cX12_madeUp 36 = .ok (.aload_n 0, 1) := by decide +kernel
theorem dX12_madeUp_37 : decode cX12_madeUp 37 = .ok (.getfield 146, 3) := by decide +kernel
theorem dX12_madeUp_40 : decode cX12_madeUp 40 = .ok (.invokevirtual 332, 3) := by decide +kernel
theorem dX12_madeUp_43 : decode cX12_madeUp 43 = .ok (.iconst 0, 1) := by decide +kernel
theorem dX12_madeUp_44 : decode cX12_madeUp 44 = .ok (.istore 5, 2) := by decide +kernel
theorem dX12_madeUp_46 : decode cX12_madeUp 46 = .ok (.iload 5, 2) := by decide +kernel
theorem dX12_madeUp_48 : decode cX12_madeUp 48 = .ok (.bipush 64, 2) := by decide +kernel
theorem dX12_madeUp_50 : decode cX12_madeUp 50 = .ok (.if_icmp .ge 31, 3) := by decide +kernel
theorem dX12_madeUp_53 : decode cX12_madeUp 53 = .ok (.aload_n 0, 1) := by decide +kernel
theorem dX12_madeUp_54 : decode cX12_madeUp 54 = .ok (.getfield 132, 3) := by decide +kernel
theorem dX12_madeUp_57 : decode cX12_madeUp 57 = .ok (.iload 5, 2) := by decide +kernel
theorem dX12_madeUp_59 : decode cX12_madeUp 59 = .ok (.aload_n 0, 1) := by decide +kernel
theorem dX12_madeUp_60 : decode cX12_madeUp 60 = .ok (.getfield 89, 3) := by decide +kernel
theorem dX12_madeUp_63 : decode cX12_madeUp 63 = .ok (.bipush 64, 2) := by decide +kernel
theorem dX12_madeUp_65 : decode cX12_madeUp 65 = .ok (.aload_n 0, 1) := by decide +kernel
theorem dX12_madeUp_66 : decode cX12_madeUp 66 = .ok (.getfield 146, 3) := by decide +kernel
theorem dX12_madeUp_69 : decode cX12_madeUp 69 = .ok (.imul, 1) := by decide +kernel
theorem dX12_madeUp_70 : decode cX12_madeUp 70 = .ok (.iload 5, 2) := by decide +kernel
theorem dX12_madeUp_72 : decode cX12_madeUp 72 = .ok (.iadd, 1) := by decide +kernel
theorem dX12_madeUp_73 : decode cX12_madeUp 73 = .ok (.iaload, 1) := by decide +kernel
theorem dX12_madeUp_74 : decode cX12_madeUp 74 = .ok (.iastore, 1) := by decide +kernel
theorem dX12_madeUp_75 : decode cX12_madeUp 75 = .ok (.iinc 5 1, 3) := by decide +kernel
theorem dX12_madeUp_78 : decode cX12_madeUp 78 = .ok (.goto (-32), 3) := by decide +kernel
theorem dX12_madeUp_81 : decode cX12_madeUp 81 = .ok (.iconst 0, 1) := by decide +kernel
theorem dX12_madeUp_82 : decode cX12_madeUp 82 = .ok (.istore 5, 2) := by decide +kernel
theorem dX12_madeUp_84 : decode cX12_madeUp 84 = .ok (.ldc2_w 421, 3) := by decide +kernel
theorem dX12_madeUp_87 : decode cX12_madeUp 87 = .ok (.lstore 6, 2) := by decide +kernel
theorem dX12_madeUp_89 : decode cX12_madeUp 89 = .ok (.iconst 0, 1) := by decide +kernel
theorem dX12_madeUp_90 : decode cX12_madeUp 90 = .ok (.istore 8, 2) := by decide +kernel
theorem dX12_madeUp_92 : decode cX12_madeUp 92 = .ok (.iload 8, 2) := by decide +kernel
theorem dX12_madeUp_94 : decode cX12_madeUp 94 = .ok (.bipush 64, 2) := by decide +kernel
theorem dX12_madeUp_96 : decode cX12_madeUp 96 = .ok (.if_icmp .ge 37, 3) := by decide +kernel
theorem dX12_madeUp_99 : decode cX12_madeUp 99 = .ok (.aload_n 0, 1) := by decide +kernel
theorem dX12_madeUp_100 : decode cX12_madeUp 100 = .ok (.iload 8, 2) := by decide +kernel
theorem dX12_madeUp_102 : decode cX12_madeUp 102 = .ok (.iload_n 1, 1) := by decide +kernel
theorem dX12_madeUp_103 : decode cX12_madeUp 103 = .ok (.invokevirtual 470, 3) := by decide +kernel
theorem dX12_madeUp_106 : decode cX12_madeUp 106 = .ok (.lstore 9, 2) := by decide +kernel
theorem dX12_madeUp_108 : decode cX12_madeUp 108 = .ok (.lload 9, 2) := by decide +kernel
theorem dX12_madeUp_110 : decode cX12_madeUp 110 = .ok (.lload 6, 2) := by decide +kernel
theorem dX12_madeUp_112 : decode cX12_madeUp 112 = .ok (.lcmp, 1) := by decide +kernel
theorem dX12_madeUp_113 : decode cX12_madeUp 113 = .ok (.ifCond .lt 6, 3) := by decide +kernel
theorem dX12_madeUp_116 : decode cX12_madeUp 116 = .ok (.goto 11, 3) := by decide +kernel
theorem dX12_madeUp_119 : decode cX12_madeUp 119 = .ok (.iload 8, 2) := by decide +kernel
theorem dX12_madeUp_121 : decode cX12_madeUp 121 = .ok (.istore 5, 2) := by decide +kernel
theorem dX12_madeUp_123 : decode cX12_madeUp 123 = .ok (.lload 9, 2) := by decide +kernel
theorem dX12_madeUp_125 : decode cX12_madeUp 125 = .ok (.lstore 6, 2) := by decide +kernel
theorem dX12_madeUp_127 : decode cX12_madeUp 127 = .ok (.iinc 8 1, 3) := by decide +kernel
theorem dX12_madeUp_130 : decode cX12_madeUp 130 = .ok (.goto (-38), 3) := by decide +kernel
theorem dX12_madeUp_133 : decode cX12_madeUp 133 = .ok (.iconst 0, 1) := by decide +kernel
theorem dX12_madeUp_134 : decode cX12_madeUp 134 = .ok (.istore 8, 2) := by decide +kernel
theorem dX12_madeUp_136 : decode cX12_madeUp 136 = .ok (.iload 8, 2) := by decide +kernel
theorem dX12_madeUp_138 : decode cX12_madeUp 138 = .ok (.bipush 64, 2) := by decide +kernel
theorem dX12_madeUp_140 : decode cX12_madeUp 140 = .ok (.if_icmp .ge 31, 3) := by decide +kernel
theorem dX12_madeUp_143 : decode cX12_madeUp 143 = .ok (.aload_n 0, 1) := by decide +kernel
theorem dX12_madeUp_144 : decode cX12_madeUp 144 = .ok (.getfield 89, 3) := by decide +kernel
theorem dX12_madeUp_147 : decode cX12_madeUp 147 = .ok (.bipush 64, 2) := by decide +kernel
theorem dX12_madeUp_149 : decode cX12_madeUp 149 = .ok (.aload_n 0, 1) := by decide +kernel
theorem dX12_madeUp_150 : decode cX12_madeUp 150 = .ok (.getfield 146, 3) := by decide +kernel
theorem dX12_madeUp_153 : decode cX12_madeUp 153 = .ok (.imul, 1) := by decide +kernel
theorem dX12_madeUp_154 : decode cX12_madeUp 154 = .ok (.iload 8, 2) := by decide +kernel
theorem dX12_madeUp_156 : decode cX12_madeUp 156 = .ok (.iadd, 1) := by decide +kernel
theorem dX12_madeUp_157 : decode cX12_madeUp 157 = .ok (.aload_n 0, 1) := by decide +kernel
theorem dX12_madeUp_158 : decode cX12_madeUp 158 = .ok (.getfield 132, 3) := by decide +kernel
theorem dX12_madeUp_161 : decode cX12_madeUp 161 = .ok (.iload 8, 2) := by decide +kernel
theorem dX12_madeUp_163 : decode cX12_madeUp 163 = .ok (.iaload, 1) := by decide +kernel
theorem dX12_madeUp_164 : decode cX12_madeUp 164 = .ok (.iastore, 1) := by decide +kernel
theorem dX12_madeUp_165 : decode cX12_madeUp 165 = .ok (.iinc 8 1, 3) := by decide +kernel
theorem dX12_madeUp_168 : decode cX12_madeUp 168 = .ok (.goto (-32), 3) := by decide +kernel
theorem dX12_madeUp_171 : decode cX12_madeUp 171 = .ok (.iload_n 2, 1) := by decide +kernel
theorem dX12_madeUp_172 : decode cX12_madeUp 172 = .ok (.ifCond .ne 9, 3) := by decide +kernel
theorem dX12_madeUp_175 : decode cX12_madeUp 175 = .ok (.iload 5, 2) := by decide +kernel
theorem dX12_madeUp_177 : decode cX12_madeUp 177 = .ok (.i2l, 1) := by decide +kernel
theorem dX12_madeUp_178 : decode cX12_madeUp 178 = .ok (.goto 7, 3) := by decide +kernel
theorem dX12_madeUp_181 : decode cX12_madeUp 181 = .ok (.lload_n 3, 1) := by decide +kernel
theorem dX12_madeUp_182 : decode cX12_madeUp 182 = .ok (.lload 6, 2) := by decide +kernel
theorem dX12_madeUp_184 : decode cX12_madeUp 184 = .ok (.lsub, 1) := by decide +kernel
theorem dX12_madeUp_185 : decode cX12_madeUp 185 = .ok (.lreturn, 1) := by decide +kernel
theorem dX12_numberAt_0 : decode cX12_numberAt 0 = .ok (.iconst 0, 1) := by decide +kernel
theorem dX12_numberAt_1 : decode cX12_numberAt 1 = .ok (.istore_n 2, 1) := by decide +kernel
theorem dX12_numberAt_2 : decode cX12_numberAt 2 = .ok (.iconst 0, 1) := by decide +kernel
theorem dX12_numberAt_3 : decode cX12_numberAt 3 = .ok (.istore_n 3, 1) := by decide +kernel
theorem dX12_numberAt_4 : decode cX12_numberAt 4 = .ok (.iload_n 3, 1) := by decide +kernel
theorem dX12_numberAt_5 : decode cX12_numberAt 5 = .ok (.iconst 4, 1) := by decide +kernel
theorem dX12_numberAt_6 : decode cX12_numberAt 6 = .ok (.if_icmp .ge 29, 3) := by decide +kernel
theorem dX12_numberAt_9 : decode cX12_numberAt 9 = .ok (.iload_n 2, 1) := by decide +kernel
theorem dX12_numberAt_10 : decode cX12_numberAt 10 = .ok (.bipush 8, 2) := by decide +kernel
theorem dX12_numberAt_12 : decode cX12_numberAt 12 = .ok (.ishl, 1) := by decide +kernel
theorem dX12_numberAt_13 : decode cX12_numberAt 13 = .ok (.aload_n 0, 1) := by decide +kernel
theorem dX12_numberAt_14 : decode cX12_numberAt 14 = .ok (.getfield 7, 3) := by decide +kernel
theorem dX12_numberAt_17 : decode cX12_numberAt 17 = .ok (.iconst 4, 1) := by decide +kernel
theorem dX12_numberAt_18 : decode cX12_numberAt 18 = .ok (.iload_n 1, 1) := by decide +kernel
theorem dX12_numberAt_19 : decode cX12_numberAt 19 = .ok (.imul, 1) := by decide +kernel
theorem dX12_numberAt_20 : decode cX12_numberAt 20 = .ok (.iload_n 3, 1) := by decide +kernel
theorem dX12_numberAt_21 : decode cX12_numberAt 21 = .ok (.iadd, 1) := by decide +kernel
theorem dX12_numberAt_22 : decode cX12_numberAt 22 = .ok (.baload, 1) := by decide +kernel
theorem dX12_numberAt_23 : decode cX12_numberAt 23 = .ok (.sipush 255, 3) := by decide +kernel
theorem dX12_numberAt_26 : decode cX12_numberAt 26 = .ok (.iand, 1) := by decide +kernel
theorem dX12_numberAt_27 : decode cX12_numberAt 27 = .ok (.ior, 1) := by decide +kernel
theorem dX12_numberAt_28 : decode cX12_numberAt 28 = .ok (.istore_n 2, 1) := by decide +kernel
theorem dX12_numberAt_29 : decode cX12_numberAt 29 = .ok (.iinc 3 1, 3) := by decide +kernel
theorem dX12_numberAt_32 : decode cX12_numberAt 32 = .ok (.goto (-28), 3) := by decide +kernel
theorem dX12_numberAt_35 : decode cX12_numberAt 35 = .ok (.iload_n 2, 1) := by decide +kernel
theorem dX12_numberAt_36 : decode cX12_numberAt 36 = .ok (.ireturn, 1) := by decide +kernel
theorem dX12_check_0 : decode cX12_check 0 = .ok (.aload_n 0, 1) := by decide +kernel
theorem dX12_check_1 : decode cX12_check 1 = .ok (.iload_n 1, 1) := by decide +kernel
theorem dX12_check_2 : decode cX12_check 2 = .ok (.invokevirtual 335, 3) := by decide +kernel
theorem dX12_check_5 : decode cX12_check 5 = .ok (.ifCond .eq 25, 3) := by decide +kernel
theorem dX12_check_8 : decode cX12_check 8 = .ok (.iload_n 2, 1) := by decide +kernel
theorem dX12_check_9 : decode cX12_check 9 = .ok (.i2l, 1) := by decide +kernel
theorem dX12_check_10 : decode cX12_check 10 = .ok (.lconst 0, 1) := by decide +kernel
theorem dX12_check_11 : decode cX12_check 11 = .ok (.ldc2_w 473, 3) := by decide +kernel
theorem dX12_check_14 : decode cX12_check 14 = .ok (.invokestatic 138, 3) := by decide +kernel
theorem dX12_check_17 : decode cX12_check 17 = .ok (.ifCond .eq 13, 3) := by decide +kernel
theorem dX12_check_20 : decode cX12_check 20 = .ok (.iload_n 2, 1) := by decide +kernel
theorem dX12_check_21 : decode cX12_check 21 = .ok (.aload_n 0, 1) := by decide +kernel
theorem dX12_check_22 : decode cX12_check 22 = .ok (.getfield 174, 3) := by decide +kernel
theorem dX12_check_25 : decode cX12_check 25 = .ok (.iconst 4, 1) := by decide +kernel
theorem dX12_check_26 : decode cX12_check 26 = .ok (.idiv, 1) := by decide +kernel
theorem dX12_check_27 : decode cX12_check 27 = .ok (.if_icmp .le 6, 3) := by decide +kernel
theorem dX12_check_30 : decode cX12_check 30 = .ok (.bipush (-2), 2) := by decide +kernel
theorem dX12_check_32 : decode cX12_check 32 = .ok (.ireturn, 1) := by decide +kernel
theorem dX12_check_33 : decode cX12_check 33 = .ok (.aload_n 0, 1) := by decide +kernel
theorem dX12_check_34 : decode cX12_check 34 = .ok (.iconst 0, 1) := by decide +kernel
theorem dX12_check_35 : decode cX12_check 35 = .ok (.putfield 174, 3) := by decide +kernel
theorem dX12_check_38 : decode cX12_check 38 = .ok (.iconst 0, 1) := by decide +kernel
theorem dX12_check_39 : decode cX12_check 39 = .ok (.istore_n 3, 1) := by decide +kernel
theorem dX12_check_40 : decode cX12_check 40 = .ok (.iload_n 3, 1) := by decide +kernel
theorem dX12_check_41 : decode cX12_check 41 = .ok (.iload_n 2, 1) := by decide +kernel
theorem dX12_check_42 : decode cX12_check 42 = .ok (.if_icmp .ge 25, 3) := by decide +kernel
theorem dX12_check_45 : decode cX12_check 45 = .ok (.aload_n 0, 1) := by decide +kernel
theorem dX12_check_46 : decode cX12_check 46 = .ok (.iload_n 3, 1) := by decide +kernel
theorem dX12_check_47 : decode cX12_check 47 = .ok (.invokevirtual 475, 3) := by decide +kernel
theorem dX12_check_50 : decode cX12_check 50 = .ok (.aload_n 0, 1) := by decide +kernel
theorem dX12_check_51 : decode cX12_check 51 = .ok (.iload_n 1, 1) := by decide +kernel
theorem dX12_check_52 : decode cX12_check 52 = .ok (.iload_n 3, 1) := by decide +kernel
theorem dX12_check_53 : decode cX12_check 53 = .ok (.invokevirtual 478, 3) := by decide +kernel
theorem dX12_check_56 : decode cX12_check 56 = .ok (.if_icmp .eq 5, 3) := by decide +kernel
theorem dX12_check_59 : decode cX12_check 59 = .ok (.iload_n 3, 1) := by decide +kernel
theorem dX12_check_60 : decode cX12_check 60 = .ok (.ireturn, 1) := by decide +kernel
theorem dX12_check_61 : decode cX12_check 61 = .ok (.iinc 3 1, 3) := by decide +kernel
theorem dX12_check_64 : decode cX12_check 64 = .ok (.goto (-24), 3) := by decide +kernel
theorem dX12_check_67 : decode cX12_check 67 = .ok (.iconst (-1), 1) := by decide +kernel
theorem dX12_check_68 : decode cX12_check 68 = .ok (.ireturn, 1) := by decide +kernel
theorem dX12_lawsTold_0 : decode cX12_lawsTold 0 = .ok (.iconst 0, 1) := by decide +kernel
theorem dX12_lawsTold_1 : decode cX12_lawsTold 1 = .ok (.istore_n 1, 1) := by decide +kernel
theorem dX12_lawsTold_2 : decode cX12_lawsTold 2 = .ok (.iconst 0, 1) := by decide +kernel
theorem dX12_lawsTold_3 : decode cX12_lawsTold 3 = .ok (.istore_n 2, 1) := by decide +kernel
theorem dX12_lawsTold_4 : decode cX12_lawsTold 4 = .ok (.iload_n 2, 1) := by decide +kernel
theorem dX12_lawsTold_5 : decode cX12_lawsTold 5 = .ok (.iconst 4, 1) := by decide +kernel
theorem dX12_lawsTold_6 : decode cX12_lawsTold 6 = .ok (.if_icmp .ge 28, 3) := by decide +kernel
theorem dX12_lawsTold_9 : decode cX12_lawsTold 9 = .ok (.iload_n 1, 1) := by decide +kernel
theorem dX12_lawsTold_10 : decode cX12_lawsTold 10 = .ok (.aload_n 0, 1) := by decide +kernel
theorem dX12_lawsTold_11 : decode cX12_lawsTold 11 = .ok (.getfield 111, 3) := by decide +kernel
theorem dX12_lawsTold_14 : decode cX12_lawsTold 14 = .ok (.iload_n 2, 1) := by decide +kernel
theorem dX12_lawsTold_15 : decode cX12_lawsTold 15 = .ok (.baload, 1) := by decide +kernel
theorem dX12_lawsTold_16 : decode cX12_lawsTold 16 = .ok (.ifCond .eq 9, 3) := by decide +kernel
theorem dX12_lawsTold_19 : decode cX12_lawsTold 19 = .ok (.iconst 1, 1) := by decide +kernel
theorem dX12_lawsTold_20 : decode cX12_lawsTold 20 = .ok (.iload_n 2, 1) := by decide +kernel
theorem dX12_lawsTold_21 : decode cX12_lawsTold 21 = .ok (.ishl, 1) := by decide +kernel
theorem dX12_lawsTold_22 : decode cX12_lawsTold 22 = .ok (.goto 4, 3) := by decide +kernel
theorem dX12_lawsTold_25 : decode cX12_lawsTold 25 = .ok (.iconst 0, 1) := by decide +kernel
theorem dX12_lawsTold_26 : decode cX12_lawsTold 26 = .ok (.ior, 1) := by decide +kernel
theorem dX12_lawsTold_27 : decode cX12_lawsTold 27 = .ok (.istore_n 1, 1) := by decide +kernel
theorem dX12_lawsTold_28 : decode cX12_lawsTold 28 = .ok (.iinc 2 1, 3) := by decide +kernel
theorem dX12_lawsTold_31 : decode cX12_lawsTold 31 = .ok (.goto (-27), 3) := by decide +kernel
theorem dX12_lawsTold_34 : decode cX12_lawsTold 34 = .ok (.iload_n 1, 1) := by decide +kernel
theorem dX12_lawsTold_35 : decode cX12_lawsTold 35 = .ok (.ireturn, 1) := by decide +kernel
theorem dX12_count_0 : decode cX12_count 0 = .ok (.iload_n 1, 1) := by decide +kernel
theorem dX12_count_1 : decode cX12_count 1 = .ok (.bipush 10, 2) := by decide +kernel
theorem dX12_count_3 : decode cX12_count 3 = .ok (.isub, 1) := by decide +kernel
theorem dX12_count_4 : decode cX12_count 4 = .ok (.i2l, 1) := by decide +kernel
theorem dX12_count_5 : decode cX12_count 5 = .ok (.lconst 0, 1) := by decide +kernel
theorem dX12_count_6 : decode cX12_count 6 = .ok (.aload_n 0, 1) := by decide +kernel
theorem dX12_count_7 : decode cX12_count 7 = .ok (.getfield 135, 3) := by decide +kernel
theorem dX12_count_10 : decode cX12_count 10 = .ok (.iconst 1, 1) := by decide +kernel
theorem dX12_count_11 : decode cX12_count 11 = .ok (.isub, 1) := by decide +kernel
theorem dX12_count_12 : decode cX12_count 12 = .ok (.i2l, 1) := by decide +kernel
theorem dX12_count_13 : decode cX12_count 13 = .ok (.invokestatic 138, 3) := by decide +kernel
theorem dX12_count_16 : decode cX12_count 16 = .ok (.ifCond .eq 13, 3) := by decide +kernel
theorem dX12_count_19 : decode cX12_count 19 = .ok (.aload_n 0, 1) := by decide +kernel
theorem dX12_count_20 : decode cX12_count 20 = .ok (.getfield 27, 3) := by decide +kernel
theorem dX12_count_23 : decode cX12_count 23 = .ok (.iload_n 1, 1) := by decide +kernel
theorem dX12_count_24 : decode cX12_count 24 = .ok (.bipush 10, 2) := by decide +kernel
theorem dX12_count_26 : decode cX12_count 26 = .ok (.isub, 1) := by decide +kernel
theorem dX12_count_27 : decode cX12_count 27 = .ok (.iaload, 1) := by decide +kernel
theorem dX12_count_28 : decode cX12_count 28 = .ok (.ireturn, 1) := by decide +kernel
theorem dX12_count_29 : decode cX12_count 29 = .ok (.iload_n 1, 1) := by decide +kernel
theorem dX12_count_30 : decode cX12_count 30 = .ok (.bipush 20, 2) := by decide +kernel
theorem dX12_count_32 : decode cX12_count 32 = .ok (.isub, 1) := by decide +kernel
theorem dX12_count_33 : decode cX12_count 33 = .ok (.invokestatic 162, 3) := by decide +kernel
theorem dX12_count_36 : decode cX12_count 36 = .ok (.ifCond .eq 13, 3) := by decide +kernel
theorem dX12_count_39 : decode cX12_count 39 = .ok (.aload_n 0, 1) := by decide +kernel
theorem dX12_count_40 : decode cX12_count 40 = .ok (.getfield 30, 3) := by decide +kernel
theorem dX12_count_43 : decode cX12_count 43 = .ok (.iload_n 1, 1) := by decide +kernel
theorem dX12_count_44 : decode cX12_count 44 = .ok (.bipush 20, 2) := by decide +kernel
theorem dX12_count_46 : decode cX12_count 46 = .ok (.isub, 1) := by decide +kernel
theorem dX12_count_47 : decode cX12_count 47 = .ok (.iaload, 1) := by decide +kernel
theorem dX12_count_48 : decode cX12_count 48 = .ok (.ireturn, 1) := by decide +kernel
theorem dX12_count_49 : decode cX12_count 49 = .ok (.iload_n 1, 1) := by decide +kernel
theorem dX12_count_50 : decode cX12_count 50 = .ok (.tableswitch 86 0 7 #[46, 51, 56, 61, 66, 71, 76, 81], 46) := by decide +kernel
theorem dX12_count_96 : decode cX12_count 96 = .ok (.aload_n 0, 1) := by decide +kernel
theorem dX12_count_97 : decode cX12_count 97 = .ok (.getfield 135, 3) := by decide +kernel
theorem dX12_count_100 : decode cX12_count 100 = .ok (.ireturn, 1) := by decide +kernel
theorem dX12_count_101 : decode cX12_count 101 = .ok (.aload_n 0, 1) := by decide +kernel
theorem dX12_count_102 : decode cX12_count 102 = .ok (.getfield 146, 3) := by decide +kernel
theorem dX12_count_105 : decode cX12_count 105 = .ok (.ireturn, 1) := by decide +kernel
theorem dX12_count_106 : decode cX12_count 106 = .ok (.aload_n 0, 1) := by decide +kernel
theorem dX12_count_107 : decode cX12_count 107 = .ok (.getfield 386, 3) := by decide +kernel
theorem dX12_count_110 : decode cX12_count 110 = .ok (.ireturn, 1) := by decide +kernel
theorem dX12_count_111 : decode cX12_count 111 = .ok (.aload_n 0, 1) := by decide +kernel
theorem dX12_count_112 : decode cX12_count 112 = .ok (.getfield 167, 3) := by decide +kernel
theorem dX12_count_115 : decode cX12_count 115 = .ok (.ireturn, 1) := by decide +kernel
theorem dX12_count_116 : decode cX12_count 116 = .ok (.aload_n 0, 1) := by decide +kernel
theorem dX12_count_117 : decode cX12_count 117 = .ok (.getfield 291, 3) := by decide +kernel
theorem dX12_count_120 : decode cX12_count 120 = .ok (.ireturn, 1) := by decide +kernel
theorem dX12_count_121 : decode cX12_count 121 = .ok (.aload_n 0, 1) := by decide +kernel
theorem dX12_count_122 : decode cX12_count 122 = .ok (.getfield 174, 3) := by decide +kernel
theorem dX12_count_125 : decode cX12_count 125 = .ok (.ireturn, 1) := by decide +kernel
theorem dX12_count_126 : decode cX12_count 126 = .ok (.aload_n 0, 1) := by decide +kernel
theorem dX12_count_127 : decode cX12_count 127 = .ok (.getfield 13, 3) := by decide +kernel
theorem dX12_count_130 : decode cX12_count 130 = .ok (.ireturn, 1) := by decide +kernel
theorem dX12_count_131 : decode cX12_count 131 = .ok (.aload_n 0, 1) := by decide +kernel
theorem dX12_count_132 : decode cX12_count 132 = .ok (.invokevirtual 481, 3) := by decide +kernel
theorem dX12_count_135 : decode cX12_count 135 = .ok (.ireturn, 1) := by decide +kernel
theorem dX12_count_136 : decode cX12_count 136 = .ok (.iconst (-1), 1) := by decide +kernel
theorem dX12_count_137 : decode cX12_count 137 = .ok (.ireturn, 1) := by decide +kernel
theorem dJ6_bitCount_0f7a4_0 : decode cJ6_bitCount_0f7a4 0 = .ok (.iload_n 0, 1) := by decide +kernel
theorem dJ6_bitCount_0f7a4_1 : decode cJ6_bitCount_0f7a4 1 = .ok (.iload_n 0, 1) := by decide +kernel
theorem dJ6_bitCount_0f7a4_2 : decode cJ6_bitCount_0f7a4 2 = .ok (.iconst 1, 1) := by decide +kernel
theorem dJ6_bitCount_0f7a4_3 : decode cJ6_bitCount_0f7a4 3 = .ok (.iushr, 1) := by decide +kernel
theorem dJ6_bitCount_0f7a4_4 : decode cJ6_bitCount_0f7a4 4 = .ok (.ldc_w 265, 3) := by decide +kernel
theorem dJ6_bitCount_0f7a4_7 : decode cJ6_bitCount_0f7a4 7 = .ok (.iand, 1) := by decide +kernel
theorem dJ6_bitCount_0f7a4_8 : decode cJ6_bitCount_0f7a4 8 = .ok (.isub, 1) := by decide +kernel
theorem dJ6_bitCount_0f7a4_9 : decode cJ6_bitCount_0f7a4 9 = .ok (.istore_n 0, 1) := by decide +kernel
theorem dJ6_bitCount_0f7a4_10 : decode cJ6_bitCount_0f7a4 10 = .ok (.iload_n 0, 1) := by decide +kernel
theorem dJ6_bitCount_0f7a4_11 : decode cJ6_bitCount_0f7a4 11 = .ok (.ldc_w 266, 3) := by decide +kernel
theorem dJ6_bitCount_0f7a4_14 : decode cJ6_bitCount_0f7a4 14 = .ok (.iand, 1) := by decide +kernel
theorem dJ6_bitCount_0f7a4_15 : decode cJ6_bitCount_0f7a4 15 = .ok (.iload_n 0, 1) := by decide +kernel
theorem dJ6_bitCount_0f7a4_16 : decode cJ6_bitCount_0f7a4 16 = .ok (.iconst 2, 1) := by decide +kernel
theorem dJ6_bitCount_0f7a4_17 : decode cJ6_bitCount_0f7a4 17 = .ok (.iushr, 1) := by decide +kernel
theorem dJ6_bitCount_0f7a4_18 : decode cJ6_bitCount_0f7a4 18 = .ok (.ldc_w 266, 3) := by decide +kernel
theorem dJ6_bitCount_0f7a4_21 : decode cJ6_bitCount_0f7a4 21 = .ok (.iand, 1) := by decide +kernel
theorem dJ6_bitCount_0f7a4_22 : decode cJ6_bitCount_0f7a4 22 = .ok (.iadd, 1) := by decide +kernel
theorem dJ6_bitCount_0f7a4_23 : decode cJ6_bitCount_0f7a4 23 = .ok (.istore_n 0, 1) := by decide +kernel
theorem dJ6_bitCount_0f7a4_24 : decode cJ6_bitCount_0f7a4 24 = .ok (.iload_n 0, 1) := by decide +kernel
theorem dJ6_bitCount_0f7a4_25 : decode cJ6_bitCount_0f7a4 25 = .ok (.iload_n 0, 1) := by decide +kernel
theorem dJ6_bitCount_0f7a4_26 : decode cJ6_bitCount_0f7a4 26 = .ok (.iconst 4, 1) := by decide +kernel
theorem dJ6_bitCount_0f7a4_27 : decode cJ6_bitCount_0f7a4 27 = .ok (.iushr, 1) := by decide +kernel
theorem dJ6_bitCount_0f7a4_28 : decode cJ6_bitCount_0f7a4 28 = .ok (.iadd, 1) := by decide +kernel
theorem dJ6_bitCount_0f7a4_29 : decode cJ6_bitCount_0f7a4 29 = .ok (.ldc_w 267, 3) := by decide +kernel
theorem dJ6_bitCount_0f7a4_32 : decode cJ6_bitCount_0f7a4 32 = .ok (.iand, 1) := by decide +kernel
theorem dJ6_bitCount_0f7a4_33 : decode cJ6_bitCount_0f7a4 33 = .ok (.istore_n 0, 1) := by decide +kernel
theorem dJ6_bitCount_0f7a4_34 : decode cJ6_bitCount_0f7a4 34 = .ok (.iload_n 0, 1) := by decide +kernel
theorem dJ6_bitCount_0f7a4_35 : decode cJ6_bitCount_0f7a4 35 = .ok (.iload_n 0, 1) := by decide +kernel
theorem dJ6_bitCount_0f7a4_36 : decode cJ6_bitCount_0f7a4 36 = .ok (.bipush 8, 2) := by decide +kernel
theorem dJ6_bitCount_0f7a4_38 : decode cJ6_bitCount_0f7a4 38 = .ok (.iushr, 1) := by decide +kernel
theorem dJ6_bitCount_0f7a4_39 : decode cJ6_bitCount_0f7a4 39 = .ok (.iadd, 1) := by decide +kernel
theorem dJ6_bitCount_0f7a4_40 : decode cJ6_bitCount_0f7a4 40 = .ok (.istore_n 0, 1) := by decide +kernel
theorem dJ6_bitCount_0f7a4_41 : decode cJ6_bitCount_0f7a4 41 = .ok (.iload_n 0, 1) := by decide +kernel
theorem dJ6_bitCount_0f7a4_42 : decode cJ6_bitCount_0f7a4 42 = .ok (.iload_n 0, 1) := by decide +kernel
theorem dJ6_bitCount_0f7a4_43 : decode cJ6_bitCount_0f7a4 43 = .ok (.bipush 16, 2) := by decide +kernel
theorem dJ6_bitCount_0f7a4_45 : decode cJ6_bitCount_0f7a4 45 = .ok (.iushr, 1) := by decide +kernel
theorem dJ6_bitCount_0f7a4_46 : decode cJ6_bitCount_0f7a4 46 = .ok (.iadd, 1) := by decide +kernel
theorem dJ6_bitCount_0f7a4_47 : decode cJ6_bitCount_0f7a4 47 = .ok (.istore_n 0, 1) := by decide +kernel
theorem dJ6_bitCount_0f7a4_48 : decode cJ6_bitCount_0f7a4 48 = .ok (.iload_n 0, 1) := by decide +kernel
theorem dJ6_bitCount_0f7a4_49 : decode cJ6_bitCount_0f7a4 49 = .ok (.bipush 63, 2) := by decide +kernel
theorem dJ6_bitCount_0f7a4_51 : decode cJ6_bitCount_0f7a4 51 = .ok (.iand, 1) := by decide +kernel
theorem dJ6_bitCount_0f7a4_52 : decode cJ6_bitCount_0f7a4 52 = .ok (.ireturn, 1) := by decide +kernel
theorem dJ9_min_7cf53_0 : decode cJ9_min_7cf53 0 = .ok (.iload_n 0, 1) := by decide +kernel
theorem dJ9_min_7cf53_1 : decode cJ9_min_7cf53 1 = .ok (.iload_n 1, 1) := by decide +kernel
theorem dJ9_min_7cf53_2 : decode cJ9_min_7cf53 2 = .ok (.if_icmp .gt 7, 3) := by decide +kernel
theorem dJ9_min_7cf53_5 : decode cJ9_min_7cf53 5 = .ok (.iload_n 0, 1) := by decide +kernel
theorem dJ9_min_7cf53_6 : decode cJ9_min_7cf53 6 = .ok (.goto 4, 3) := by decide +kernel
theorem dJ9_min_7cf53_9 : decode cJ9_min_7cf53 9 = .ok (.iload_n 1, 1) := by decide +kernel
theorem dJ9_min_7cf53_10 : decode cJ9_min_7cf53 10 = .ok (.ireturn, 1) := by decide +kernel
theorem dL_law_0 : decode cL_law 0 = .ok (.new 7, 3) := by decide +kernel
theorem dL_law_3 : decode cL_law 3 = .ok (.dup, 1) := by decide +kernel
theorem dL_law_4 : decode cL_law 4 = .ok (.invokespecial 9, 3) := by decide +kernel
theorem dL_law_7 : decode cL_law 7 = .ok (.astore_n 1, 1) := by decide +kernel
theorem dL_law_8 : decode cL_law 8 = .ok (.new 10, 3) := by decide +kernel
theorem dL_law_11 : decode cL_law 11 = .ok (.dup, 1) := by decide +kernel
theorem dL_law_12 : decode cL_law 12 = .ok (.invokespecial 12, 3) := by decide +kernel
theorem dL_law_15 : decode cL_law 15 = .ok (.astore_n 2, 1) := by decide +kernel
theorem dL_law_16 : decode cL_law 16 = .ok (.iconst 0, 1) := by decide +kernel
theorem dL_law_17 : decode cL_law 17 = .ok (.istore_n 3, 1) := by decide +kernel
theorem dL_law_18 : decode cL_law 18 = .ok (.iload_n 3, 1) := by decide +kernel
theorem dL_law_19 : decode cL_law 19 = .ok (.aload_n 0, 1) := by decide +kernel
theorem dL_law_20 : decode cL_law 20 = .ok (.arraylength, 1) := by decide +kernel
theorem dL_law_21 : decode cL_law 21 = .ok (.bipush 6, 2) := by decide +kernel
theorem dL_law_23 : decode cL_law 23 = .ok (.isub, 1) := by decide +kernel
theorem dL_law_24 : decode cL_law 24 = .ok (.if_icmp .gt 1102, 3) := by decide +kernel
theorem dL_law_27 : decode cL_law 27 = .ok (.aload_n 0, 1) := by decide +kernel
theorem dL_law_28 : decode cL_law 28 = .ok (.iload_n 3, 1) := by decide +kernel
theorem dL_law_29 : decode cL_law 29 = .ok (.iaload, 1) := by decide +kernel
theorem dL_law_30 : decode cL_law 30 = .ok (.bipush 31, 2) := by decide +kernel
theorem dL_law_32 : decode cL_law 32 = .ok (.iand, 1) := by decide +kernel
theorem dL_law_33 : decode cL_law 33 = .ok (.tableswitch 1087 0 31 #[143, 186, 219, 272, 305, 328, 391, 414, 447, 490, 533, 567, 590, 613, 637, 650, 673, 696, 730, 754, 788, 801, 835, 859, 882, 905, 918, 931, 964, 997, 1031, 1064], 143) := by decide +kernel
theorem dL_law_176 : decode cL_law 176 = .ok (.aload_n 1, 1) := by decide +kernel
theorem dL_law_177 : decode cL_law 177 = .ok (.aload_n 0, 1) := by decide +kernel
theorem dL_law_178 : decode cL_law 178 = .ok (.iload_n 3, 1) := by decide +kernel
theorem dL_law_179 : decode cL_law 179 = .ok (.iconst 1, 1) := by decide +kernel
theorem dL_law_180 : decode cL_law 180 = .ok (.iadd, 1) := by decide +kernel
theorem dL_law_181 : decode cL_law 181 = .ok (.iaload, 1) := by decide +kernel
theorem dL_law_182 : decode cL_law 182 = .ok (.aload_n 0, 1) := by decide +kernel
theorem dL_law_183 : decode cL_law 183 = .ok (.iload_n 3, 1) := by decide +kernel
theorem dL_law_184 : decode cL_law 184 = .ok (.iconst 2, 1) := by decide +kernel
theorem dL_law_185 : decode cL_law 185 = .ok (.iadd, 1) := by decide +kernel
theorem dL_law_186 : decode cL_law 186 = .ok (.iaload, 1) := by decide +kernel
theorem dL_law_187 : decode cL_law 187 = .ok (.aload_n 0, 1) := by decide +kernel
theorem dL_law_188 : decode cL_law 188 = .ok (.iload_n 3, 1) := by decide +kernel
theorem dL_law_189 : decode cL_law 189 = .ok (.iconst 3, 1) := by decide +kernel
theorem dL_law_190 : decode cL_law 190 = .ok (.iadd, 1) := by decide +kernel
theorem dL_law_191 : decode cL_law 191 = .ok (.iaload, 1) := by decide +kernel
theorem dL_law_192 : decode cL_law 192 = .ok (.invokevirtual 13, 3) := by decide +kernel
theorem dL_law_195 : decode cL_law 195 = .ok (.aload_n 2, 1) := by decide +kernel
theorem dL_law_196 : decode cL_law 196 = .ok (.aload_n 0, 1) := by decide +kernel
theorem dL_law_197 : decode cL_law 197 = .ok (.iload_n 3, 1) := by decide +kernel
theorem dL_law_198 : decode cL_law 198 = .ok (.iconst 1, 1) := by decide +kernel
theorem dL_law_199 : decode cL_law 199 = .ok (.iadd, 1) := by decide +kernel
theorem dL_law_200 : decode cL_law 200 = .ok (.iaload, 1) := by decide +kernel
theorem dL_law_201 : decode cL_law 201 = .ok (.aload_n 0, 1) := by decide +kernel
theorem dL_law_202 : decode cL_law 202 = .ok (.iload_n 3, 1) := by decide +kernel
theorem dL_law_203 : decode cL_law 203 = .ok (.iconst 2, 1) := by decide +kernel
theorem dL_law_204 : decode cL_law 204 = .ok (.iadd, 1) := by decide +kernel
theorem dL_law_205 : decode cL_law 205 = .ok (.iaload, 1) := by decide +kernel
theorem dL_law_206 : decode cL_law 206 = .ok (.aload_n 0, 1) := by decide +kernel
theorem dL_law_207 : decode cL_law 207 = .ok (.iload_n 3, 1) := by decide +kernel
theorem dL_law_208 : decode cL_law 208 = .ok (.iconst 3, 1) := by decide +kernel
theorem dL_law_209 : decode cL_law 209 = .ok (.iadd, 1) := by decide +kernel
theorem dL_law_210 : decode cL_law 210 = .ok (.iaload, 1) := by decide +kernel
theorem dL_law_211 : decode cL_law 211 = .ok (.invokevirtual 17, 3) := by decide +kernel
theorem dL_law_214 : decode cL_law 214 = .ok (.if_icmp .eq 906, 3) := by decide +kernel
theorem dL_law_217 : decode cL_law 217 = .ok (.iconst 0, 1) := by decide +kernel
theorem dL_law_218 : decode cL_law 218 = .ok (.ireturn, 1) := by decide +kernel
theorem dL_law_219 : decode cL_law 219 = .ok (.aload_n 1, 1) := by decide +kernel
theorem dL_law_220 : decode cL_law 220 = .ok (.aload_n 0, 1) := by decide +kernel
theorem dL_law_221 : decode cL_law 221 = .ok (.iload_n 3, 1) := by decide +kernel
theorem dL_law_222 : decode cL_law 222 = .ok (.iconst 1, 1) := by decide +kernel
theorem dL_law_223 : decode cL_law 223 = .ok (.iadd, 1) := by decide +kernel
theorem dL_law_224 : decode cL_law 224 = .ok (.iaload, 1) := by decide +kernel
theorem dL_law_225 : decode cL_law 225 = .ok (.aload_n 0, 1) := by decide +kernel
theorem dL_law_226 : decode cL_law 226 = .ok (.iload_n 3, 1) := by decide +kernel
theorem dL_law_227 : decode cL_law 227 = .ok (.iconst 2, 1) := by decide +kernel
theorem dL_law_228 : decode cL_law 228 = .ok (.iadd, 1) := by decide +kernel
theorem dL_law_229 : decode cL_law 229 = .ok (.iaload, 1) := by decide +kernel
theorem dL_law_230 : decode cL_law 230 = .ok (.invokevirtual 18, 3) := by decide +kernel
theorem dL_law_233 : decode cL_law 233 = .ok (.aload_n 2, 1) := by decide +kernel
theorem dL_law_234 : decode cL_law 234 = .ok (.aload_n 0, 1) := by decide +kernel
theorem dL_law_235 : decode cL_law 235 = .ok (.iload_n 3, 1) := by decide +kernel
theorem dL_law_236 : decode cL_law 236 = .ok (.iconst 1, 1) := by decide +kernel
theorem dL_law_237 : decode cL_law 237 = .ok (.iadd, 1) := by decide +kernel
theorem dL_law_238 : decode cL_law 238 = .ok (.iaload, 1) := by decide +kernel
theorem dL_law_239 : decode cL_law 239 = .ok (.aload_n 0, 1) := by decide +kernel
theorem dL_law_240 : decode cL_law 240 = .ok (.iload_n 3, 1) := by decide +kernel
theorem dL_law_241 : decode cL_law 241 = .ok (.iconst 2, 1) := by decide +kernel
theorem dL_law_242 : decode cL_law 242 = .ok (.iadd, 1) := by decide +kernel
theorem dL_law_243 : decode cL_law 243 = .ok (.iaload, 1) := by decide +kernel
theorem dL_law_244 : decode cL_law 244 = .ok (.invokevirtual 22, 3) := by decide +kernel
theorem dL_law_247 : decode cL_law 247 = .ok (.if_icmp .eq 873, 3) := by decide +kernel
theorem dL_law_250 : decode cL_law 250 = .ok (.iconst 0, 1) := by decide +kernel
theorem dL_law_251 : decode cL_law 251 = .ok (.ireturn, 1) := by decide +kernel
theorem dL_law_252 : decode cL_law 252 = .ok (.aload_n 1, 1) := by decide +kernel
theorem dL_law_253 : decode cL_law 253 = .ok (.aload_n 0, 1) := by decide +kernel
theorem dL_law_254 : decode cL_law 254 = .ok (.iload_n 3, 1) := by decide +kernel
theorem dL_law_255 : decode cL_law 255 = .ok (.iconst 1, 1) := by decide +kernel
theorem dL_law_256 : decode cL_law 256 = .ok (.iadd, 1) := by decide +kernel
theorem dL_law_257 : decode cL_law 257 = .ok (.iaload, 1) := by decide +kernel
theorem dL_law_258 : decode cL_law 258 = .ok (.aload_n 0, 1) := by decide +kernel
theorem dL_law_259 : decode cL_law 259 = .ok (.iload_n 3, 1) := by decide +kernel
theorem dL_law_260 : decode cL_law 260 = .ok (.iconst 2, 1) := by decide +kernel
theorem dL_law_261 : decode cL_law 261 = .ok (.iadd, 1) := by decide +kernel
theorem dL_law_262 : decode cL_law 262 = .ok (.iaload, 1) := by decide +kernel
theorem dL_law_263 : decode cL_law 263 = .ok (.aload_n 0, 1) := by decide +kernel
theorem dL_law_264 : decode cL_law 264 = .ok (.iload_n 3, 1) := by decide +kernel
theorem dL_law_265 : decode cL_law 265 = .ok (.iconst 3, 1) := by decide +kernel
theorem dL_law_266 : decode cL_law 266 = .ok (.iadd, 1) := by decide +kernel
theorem dL_law_267 : decode cL_law 267 = .ok (.iaload, 1) := by decide +kernel
theorem dL_law_268 : decode cL_law 268 = .ok (.aload_n 0, 1) := by decide +kernel
theorem dL_law_269 : decode cL_law 269 = .ok (.iload_n 3, 1) := by decide +kernel
theorem dL_law_270 : decode cL_law 270 = .ok (.iconst 4, 1) := by decide +kernel
theorem dL_law_271 : decode cL_law 271 = .ok (.iadd, 1) := by decide +kernel
theorem dL_law_272 : decode cL_law 272 = .ok (.iaload, 1) := by decide +kernel
theorem dL_law_273 : decode cL_law 273 = .ok (.invokevirtual 23, 3) := by decide +kernel
theorem dL_law_276 : decode cL_law 276 = .ok (.aload_n 2, 1) := by decide +kernel
theorem dL_law_277 : decode cL_law 277 = .ok (.aload_n 0, 1) := by decide +kernel
theorem dL_law_278 : decode cL_law 278 = .ok (.iload_n 3, 1) := by decide +kernel
theorem dL_law_279 : decode cL_law 279 = .ok (.iconst 1, 1) := by decide +kernel
theorem dL_law_280 : decode cL_law 280 = .ok (.iadd, 1) := by decide +kernel
theorem dL_law_281 : decode cL_law 281 = .ok (.iaload, 1) := by decide +kernel
theorem dL_law_282 : decode cL_law 282 = .ok (.aload_n 0, 1) := by decide +kernel
theorem dL_law_283 : decode cL_law 283 = .ok (.iload_n 3, 1) := by decide +kernel
theorem dL_law_284 : decode cL_law 284 = .ok (.iconst 2, 1) := by decide +kernel
theorem dL_law_285 : decode cL_law 285 = .ok (.iadd, 1) := by decide +kernel
theorem dL_law_286 : decode cL_law 286 = .ok (.iaload, 1) := by decide +kernel
theorem dL_law_287 : decode cL_law 287 = .ok (.aload_n 0, 1) := by decide +kernel
theorem dL_law_288 : decode cL_law 288 = .ok (.iload_n 3, 1) := by decide +kernel
theorem dL_law_289 : decode cL_law 289 = .ok (.iconst 3, 1) := by decide +kernel
theorem dL_law_290 : decode cL_law 290 = .ok (.iadd, 1) := by decide +kernel
theorem dL_law_291 : decode cL_law 291 = .ok (.iaload, 1) := by decide +kernel
theorem dL_law_292 : decode cL_law 292 = .ok (.aload_n 0, 1) := by decide +kernel
theorem dL_law_293 : decode cL_law 293 = .ok (.iload_n 3, 1) := by decide +kernel
theorem dL_law_294 : decode cL_law 294 = .ok (.iconst 4, 1) := by decide +kernel
theorem dL_law_295 : decode cL_law 295 = .ok (.iadd, 1) := by decide +kernel
theorem dL_law_296 : decode cL_law 296 = .ok (.iaload, 1) := by decide +kernel
theorem dL_law_297 : decode cL_law 297 = .ok (.invokevirtual 27, 3) := by decide +kernel
theorem dL_law_300 : decode cL_law 300 = .ok (.if_icmp .eq 820, 3) := by decide +kernel
theorem dL_law_303 : decode cL_law 303 = .ok (.iconst 0, 1) := by decide +kernel
theorem dL_law_304 : decode cL_law 304 = .ok (.ireturn, 1) := by decide +kernel
theorem dL_law_305 : decode cL_law 305 = .ok (.aload_n 1, 1) := by decide +kernel
theorem dL_law_306 : decode cL_law 306 = .ok (.aload_n 0, 1) := by decide +kernel
theorem dL_law_307 : decode cL_law 307 = .ok (.iload_n 3, 1) := by decide +kernel
theorem dL_law_308 : decode cL_law 308 = .ok (.iconst 1, 1) := by decide +kernel
theorem dL_law_309 : decode cL_law 309 = .ok (.iadd, 1) := by decide +kernel
theorem dL_law_310 : decode cL_law 310 = .ok (.iaload, 1) := by decide +kernel
theorem dL_law_311 : decode cL_law 311 = .ok (.aload_n 0, 1) := by decide +kernel
theorem dL_law_312 : decode cL_law 312 = .ok (.iload_n 3, 1) := by decide +kernel
theorem dL_law_313 : decode cL_law 313 = .ok (.iconst 2, 1) := by decide +kernel
theorem dL_law_314 : decode cL_law 314 = .ok (.iadd, 1) := by decide +kernel
theorem dL_law_315 : decode cL_law 315 = .ok (.iaload, 1) := by decide +kernel
theorem dL_law_316 : decode cL_law 316 = .ok (.invokevirtual 28, 3) := by decide +kernel
theorem dL_law_319 : decode cL_law 319 = .ok (.aload_n 2, 1) := by decide +kernel
theorem dL_law_320 : decode cL_law 320 = .ok (.aload_n 0, 1) := by decide +kernel
theorem dL_law_321 : decode cL_law 321 = .ok (.iload_n 3, 1) := by decide +kernel
theorem dL_law_322 : decode cL_law 322 = .ok (.iconst 1, 1) := by decide +kernel
theorem dL_law_323 : decode cL_law 323 = .ok (.iadd, 1) := by decide +kernel
theorem dL_law_324 : decode cL_law 324 = .ok (.iaload, 1) := by decide +kernel
theorem dL_law_325 : decode cL_law 325 = .ok (.aload_n 0, 1) := by decide +kernel
theorem dL_law_326 : decode cL_law 326 = .ok (.iload_n 3, 1) := by decide +kernel
theorem dL_law_327 : decode cL_law 327 = .ok (.iconst 2, 1) := by decide +kernel
theorem dL_law_328 : decode cL_law 328 = .ok (.iadd, 1) := by decide +kernel
theorem dL_law_329 : decode cL_law 329 = .ok (.iaload, 1) := by decide +kernel
theorem dL_law_330 : decode cL_law 330 = .ok (.invokevirtual 31, 3) := by decide +kernel
theorem dL_law_333 : decode cL_law 333 = .ok (.if_icmp .eq 787, 3) := by decide +kernel
theorem dL_law_336 : decode cL_law 336 = .ok (.iconst 0, 1) := by decide +kernel
theorem dL_law_337 : decode cL_law 337 = .ok (.ireturn, 1) := by decide +kernel
theorem dL_law_338 : decode cL_law 338 = .ok (.aload_n 1, 1) := by decide +kernel
theorem dL_law_339 : decode cL_law 339 = .ok (.aload_n 0, 1) := by decide +kernel
theorem dL_law_340 : decode cL_law 340 = .ok (.iload_n 3, 1) := by decide +kernel
theorem dL_law_341 : decode cL_law 341 = .ok (.iconst 1, 1) := by decide +kernel
theorem dL_law_342 : decode cL_law 342 = .ok (.iadd, 1) := by decide +kernel
theorem dL_law_343 : decode cL_law 343 = .ok (.iaload, 1) := by decide +kernel
theorem dL_law_344 : decode cL_law 344 = .ok (.invokevirtual 32, 3) := by decide +kernel
theorem dL_law_347 : decode cL_law 347 = .ok (.aload_n 2, 1) := by decide +kernel
theorem dL_law_348 : decode cL_law 348 = .ok (.aload_n 0, 1) := by decide +kernel
theorem dL_law_349 : decode cL_law 349 = .ok (.iload_n 3, 1) := by decide +kernel
theorem dL_law_350 : decode cL_law 350 = .ok (.iconst 1, 1) := by decide +kernel
theorem dL_law_351 : decode cL_law 351 = .ok (.iadd, 1) := by decide +kernel
theorem dL_law_352 : decode cL_law 352 = .ok (.iaload, 1) := by decide +kernel
theorem dL_law_353 : decode cL_law 353 = .ok (.invokevirtual 36, 3) := by decide +kernel
theorem dL_law_356 : decode cL_law 356 = .ok (.if_icmp .eq 764, 3) := by decide +kernel
theorem dL_law_359 : decode cL_law 359 = .ok (.iconst 0, 1) := by decide +kernel
theorem dL_law_360 : decode cL_law 360 = .ok (.ireturn, 1) := by decide +kernel
theorem dL_law_361 : decode cL_law 361 = .ok (.aload_n 1, 1) := by decide +kernel
theorem dL_law_362 : decode cL_law 362 = .ok (.aload_n 0, 1) := by decide +kernel
theorem dL_law_363 : decode cL_law 363 = .ok (.iload_n 3, 1) := by decide +kernel
theorem dL_law_364 : decode cL_law 364 = .ok (.iconst 1, 1) := by decide +kernel
theorem dL_law_365 : decode cL_law 365 = .ok (.iadd, 1) := by decide +kernel
theorem dL_law_366 : decode cL_law 366 = .ok (.iaload, 1) := by decide +kernel
theorem dL_law_367 : decode cL_law 367 = .ok (.aload_n 0, 1) := by decide +kernel
theorem dL_law_368 : decode cL_law 368 = .ok (.iload_n 3, 1) := by decide +kernel
theorem dL_law_369 : decode cL_law 369 = .ok (.iconst 2, 1) := by decide +kernel
theorem dL_law_370 : decode cL_law 370 = .ok (.iadd, 1) := by decide +kernel
theorem dL_law_371 : decode cL_law 371 = .ok (.iaload, 1) := by decide +kernel
theorem dL_law_372 : decode cL_law 372 = .ok (.aload_n 0, 1) := by decide +kernel
theorem dL_law_373 : decode cL_law 373 = .ok (.iload_n 3, 1) := by decide +kernel
theorem dL_law_374 : decode cL_law 374 = .ok (.iconst 3, 1) := by decide +kernel
theorem dL_law_375 : decode cL_law 375 = .ok (.iadd, 1) := by decide +kernel
theorem dL_law_376 : decode cL_law 376 = .ok (.iaload, 1) := by decide +kernel
theorem dL_law_377 : decode cL_law 377 = .ok (.aload_n 0, 1) := by decide +kernel
theorem dL_law_378 : decode cL_law 378 = .ok (.iload_n 3, 1) := by decide +kernel
theorem dL_law_379 : decode cL_law 379 = .ok (.iconst 4, 1) := by decide +kernel
theorem dL_law_380 : decode cL_law 380 = .ok (.iadd, 1) := by decide +kernel
theorem dL_law_381 : decode cL_law 381 = .ok (.iaload, 1) := by decide +kernel
theorem dL_law_382 : decode cL_law 382 = .ok (.aload_n 0, 1) := by decide +kernel
theorem dL_law_383 : decode cL_law 383 = .ok (.iload_n 3, 1) := by decide +kernel
theorem dL_law_384 : decode cL_law 384 = .ok (.iconst 5, 1) := by decide +kernel
theorem dL_law_385 : decode cL_law 385 = .ok (.iadd, 1) := by decide +kernel
theorem dL_law_386 : decode cL_law 386 = .ok (.iaload, 1) := by decide +kernel
theorem dL_law_387 : decode cL_law 387 = .ok (.invokevirtual 37, 3) := by decide +kernel
theorem dL_law_390 : decode cL_law 390 = .ok (.aload_n 2, 1) := by decide +kernel
theorem dL_law_391 : decode cL_law 391 = .ok (.aload_n 0, 1) := by decide +kernel
theorem dL_law_392 : decode cL_law 392 = .ok (.iload_n 3, 1) := by decide +kernel
theorem dL_law_393 : decode cL_law 393 = .ok (.iconst 1, 1) := by decide +kernel
theorem dL_law_394 : decode cL_law 394 = .ok (.iadd, 1) := by decide +kernel
theorem dL_law_395 : decode cL_law 395 = .ok (.iaload, 1) := by decide +kernel
theorem dL_law_396 : decode cL_law 396 = .ok (.aload_n 0, 1) := by decide +kernel
theorem dL_law_397 : decode cL_law 397 = .ok (.iload_n 3, 1) := by decide +kernel
theorem dL_law_398 : decode cL_law 398 = .ok (.iconst 2, 1) := by decide +kernel
theorem dL_law_399 : decode cL_law 399 = .ok (.iadd, 1) := by decide +kernel
theorem dL_law_400 : decode cL_law 400 = .ok (.iaload, 1) := by decide +kernel
theorem dL_law_401 : decode cL_law 401 = .ok (.aload_n 0, 1) := by decide +kernel
theorem dL_law_402 : decode cL_law 402 = .ok (.iload_n 3, 1) := by decide +kernel
theorem dL_law_403 : decode cL_law 403 = .ok (.iconst 3, 1) := by decide +kernel
theorem dL_law_404 : decode cL_law 404 = .ok (.iadd, 1) := by decide +kernel
theorem dL_law_405 : decode cL_law 405 = .ok (.iaload, 1) := by decide +kernel
theorem dL_law_406 : decode cL_law 406 = .ok (.aload_n 0, 1) := by decide +kernel
theorem dL_law_407 : decode cL_law 407 = .ok (.iload_n 3, 1) := by decide +kernel
theorem dL_law_408 : decode cL_law 408 = .ok (.iconst 4, 1) := by decide +kernel
theorem dL_law_409 : decode cL_law 409 = .ok (.iadd, 1) := by decide +kernel
theorem dL_law_410 : decode cL_law 410 = .ok (.iaload, 1) := by decide +kernel
theorem dL_law_411 : decode cL_law 411 = .ok (.aload_n 0, 1) := by decide +kernel
theorem dL_law_412 : decode cL_law 412 = .ok (.iload_n 3, 1) := by decide +kernel
theorem dL_law_413 : decode cL_law 413 = .ok (.iconst 5, 1) := by decide +kernel
theorem dL_law_414 : decode cL_law 414 = .ok (.iadd, 1) := by decide +kernel
theorem dL_law_415 : decode cL_law 415 = .ok (.iaload, 1) := by decide +kernel
theorem dL_law_416 : decode cL_law 416 = .ok (.invokevirtual 41, 3) := by decide +kernel
theorem dL_law_419 : decode cL_law 419 = .ok (.if_icmp .eq 701, 3) := by decide +kernel
theorem dL_law_422 : decode cL_law 422 = .ok (.iconst 0, 1) := by decide +kernel
theorem dL_law_423 : decode cL_law 423 = .ok (.ireturn, 1) := by decide +kernel
theorem dL_law_424 : decode cL_law 424 = .ok (.aload_n 1, 1) := by decide +kernel
theorem dL_law_425 : decode cL_law 425 = .ok (.aload_n 0, 1) := by decide +kernel
theorem dL_law_426 : decode cL_law 426 = .ok (.iload_n 3, 1) := by decide +kernel
theorem dL_law_427 : decode cL_law 427 = .ok (.iconst 1, 1) := by decide +kernel
theorem dL_law_428 : decode cL_law 428 = .ok (.iadd, 1) := by decide +kernel
theorem dL_law_429 : decode cL_law 429 = .ok (.iaload, 1) := by decide +kernel
theorem dL_law_430 : decode cL_law 430 = .ok (.invokevirtual 42, 3) := by decide +kernel
theorem dL_law_433 : decode cL_law 433 = .ok (.aload_n 2, 1) := by decide +kernel
theorem dL_law_434 : decode cL_law 434 = .ok (.aload_n 0, 1) := by decide +kernel
theorem dL_law_435 : decode cL_law 435 = .ok (.iload_n 3, 1) := by decide +kernel
theorem dL_law_436 : decode cL_law 436 = .ok (.iconst 1, 1) := by decide +kernel
theorem dL_law_437 : decode cL_law 437 = .ok (.iadd, 1) := by decide +kernel
theorem dL_law_438 : decode cL_law 438 = .ok (.iaload, 1) := by decide +kernel
theorem dL_law_439 : decode cL_law 439 = .ok (.invokevirtual 46, 3) := by decide +kernel
theorem dL_law_442 : decode cL_law 442 = .ok (.if_icmp .eq 678, 3) := by decide +kernel
theorem dL_law_445 : decode cL_law 445 = .ok (.iconst 0, 1) := by decide +kernel
theorem dL_law_446 : decode cL_law 446 = .ok (.ireturn, 1) := by decide +kernel
theorem dL_law_447 : decode cL_law 447 = .ok (.aload_n 1, 1) := by decide +kernel
theorem dL_law_448 : decode cL_law 448 = .ok (.aload_n 0, 1) := by decide +kernel
theorem dL_law_449 : decode cL_law 449 = .ok (.iload_n 3, 1) := by decide +kernel
theorem dL_law_450 : decode cL_law 450 = .ok (.iconst 1, 1) := by decide +kernel
theorem dL_law_451 : decode cL_law 451 = .ok (.iadd, 1) := by decide +kernel
theorem dL_law_452 : decode cL_law 452 = .ok (.iaload, 1) := by decide +kernel
theorem dL_law_453 : decode cL_law 453 = .ok (.aload_n 0, 1) := by decide +kernel
theorem dL_law_454 : decode cL_law 454 = .ok (.iload_n 3, 1) := by decide +kernel
theorem dL_law_455 : decode cL_law 455 = .ok (.iconst 2, 1) := by decide +kernel
theorem dL_law_456 : decode cL_law 456 = .ok (.iadd, 1) := by decide +kernel
theorem dL_law_457 : decode cL_law 457 = .ok (.iaload, 1) := by decide +kernel
theorem dL_law_458 : decode cL_law 458 = .ok (.invokevirtual 47, 3) := by decide +kernel
theorem dL_law_461 : decode cL_law 461 = .ok (.aload_n 2, 1) := by decide +kernel
theorem dL_law_462 : decode cL_law 462 = .ok (.aload_n 0, 1) := by decide +kernel
theorem dL_law_463 : decode cL_law 463 = .ok (.iload_n 3, 1) := by decide +kernel
theorem dL_law_464 : decode cL_law 464 = .ok (.iconst 1, 1) := by decide +kernel
theorem dL_law_465 : decode cL_law 465 = .ok (.iadd, 1) := by decide +kernel
theorem dL_law_466 : decode cL_law 466 = .ok (.iaload, 1) := by decide +kernel
theorem dL_law_467 : decode cL_law 467 = .ok (.aload_n 0, 1) := by decide +kernel
theorem dL_law_468 : decode cL_law 468 = .ok (.iload_n 3, 1) := by decide +kernel
theorem dL_law_469 : decode cL_law 469 = .ok (.iconst 2, 1) := by decide +kernel
theorem dL_law_470 : decode cL_law 470 = .ok (.iadd, 1) := by decide +kernel
theorem dL_law_471 : decode cL_law 471 = .ok (.iaload, 1) := by decide +kernel
theorem dL_law_472 : decode cL_law 472 = .ok (.invokevirtual 51, 3) := by decide +kernel
theorem dL_law_475 : decode cL_law 475 = .ok (.if_icmp .eq 645, 3) := by decide +kernel
theorem dL_law_478 : decode cL_law 478 = .ok (.iconst 0, 1) := by decide +kernel
theorem dL_law_479 : decode cL_law 479 = .ok (.ireturn, 1) := by decide +kernel
theorem dL_law_480 : decode cL_law 480 = .ok (.aload_n 1, 1) := by decide +kernel
theorem dL_law_481 : decode cL_law 481 = .ok (.aload_n 0, 1) := by decide +kernel
theorem dL_law_482 : decode cL_law 482 = .ok (.iload_n 3, 1) := by decide +kernel
theorem dL_law_483 : decode cL_law 483 = .ok (.iconst 1, 1) := by decide +kernel
theorem dL_law_484 : decode cL_law 484 = .ok (.iadd, 1) := by decide +kernel
theorem dL_law_485 : decode cL_law 485 = .ok (.iaload, 1) := by decide +kernel
theorem dL_law_486 : decode cL_law 486 = .ok (.aload_n 0, 1) := by decide +kernel
theorem dL_law_487 : decode cL_law 487 = .ok (.iload_n 3, 1) := by decide +kernel
theorem dL_law_488 : decode cL_law 488 = .ok (.iconst 2, 1) := by decide +kernel
theorem dL_law_489 : decode cL_law 489 = .ok (.iadd, 1) := by decide +kernel
theorem dL_law_490 : decode cL_law 490 = .ok (.iaload, 1) := by decide +kernel
theorem dL_law_491 : decode cL_law 491 = .ok (.aload_n 0, 1) := by decide +kernel
theorem dL_law_492 : decode cL_law 492 = .ok (.iload_n 3, 1) := by decide +kernel
theorem dL_law_493 : decode cL_law 493 = .ok (.iconst 3, 1) := by decide +kernel
theorem dL_law_494 : decode cL_law 494 = .ok (.iadd, 1) := by decide +kernel
theorem dL_law_495 : decode cL_law 495 = .ok (.iaload, 1) := by decide +kernel
theorem dL_law_496 : decode cL_law 496 = .ok (.invokevirtual 52, 3) := by decide +kernel
theorem dL_law_499 : decode cL_law 499 = .ok (.aload_n 2, 1) := by decide +kernel
theorem dL_law_500 : decode cL_law 500 = .ok (.aload_n 0, 1) := by decide +kernel
theorem dL_law_501 : decode cL_law 501 = .ok (.iload_n 3, 1) := by decide +kernel
theorem dL_law_502 : decode cL_law 502 = .ok (.iconst 1, 1) := by decide +kernel
theorem dL_law_503 : decode cL_law 503 = .ok (.iadd, 1) := by decide +kernel
theorem dL_law_504 : decode cL_law 504 = .ok (.iaload, 1) := by decide +kernel
theorem dL_law_505 : decode cL_law 505 = .ok (.aload_n 0, 1) := by decide +kernel
theorem dL_law_506 : decode cL_law 506 = .ok (.iload_n 3, 1) := by decide +kernel
theorem dL_law_507 : decode cL_law 507 = .ok (.iconst 2, 1) := by decide +kernel
theorem dL_law_508 : decode cL_law 508 = .ok (.iadd, 1) := by decide +kernel
theorem dL_law_509 : decode cL_law 509 = .ok (.iaload, 1) := by decide +kernel
theorem dL_law_510 : decode cL_law 510 = .ok (.aload_n 0, 1) := by decide +kernel
theorem dL_law_511 : decode cL_law 511 = .ok (.iload_n 3, 1) := by decide +kernel
theorem dL_law_512 : decode cL_law 512 = .ok (.iconst 3, 1) := by decide +kernel
theorem dL_law_513 : decode cL_law 513 = .ok (.iadd, 1) := by decide +kernel
theorem dL_law_514 : decode cL_law 514 = .ok (.iaload, 1) := by decide +kernel
theorem dL_law_515 : decode cL_law 515 = .ok (.invokevirtual 55, 3) := by decide +kernel
theorem dL_law_518 : decode cL_law 518 = .ok (.if_icmp .eq 602, 3) := by decide +kernel
theorem dL_law_521 : decode cL_law 521 = .ok (.iconst 0, 1) := by decide +kernel
theorem dL_law_522 : decode cL_law 522 = .ok (.ireturn, 1) := by decide +kernel
theorem dL_law_523 : decode cL_law 523 = .ok (.aload_n 1, 1) := by decide +kernel
theorem dL_law_524 : decode cL_law 524 = .ok (.aload_n 0, 1) := by decide +kernel
theorem dL_law_525 : decode cL_law 525 = .ok (.iload_n 3, 1) := by decide +kernel
theorem dL_law_526 : decode cL_law 526 = .ok (.iconst 1, 1) := by decide +kernel
theorem dL_law_527 : decode cL_law 527 = .ok (.iadd, 1) := by decide +kernel
theorem dL_law_528 : decode cL_law 528 = .ok (.iaload, 1) := by decide +kernel
theorem dL_law_529 : decode cL_law 529 = .ok (.aload_n 0, 1) := by decide +kernel
theorem dL_law_530 : decode cL_law 530 = .ok (.iload_n 3, 1) := by decide +kernel
theorem dL_law_531 : decode cL_law 531 = .ok (.iconst 2, 1) := by decide +kernel
theorem dL_law_532 : decode cL_law 532 = .ok (.iadd, 1) := by decide +kernel
theorem dL_law_533 : decode cL_law 533 = .ok (.iaload, 1) := by decide +kernel
theorem dL_law_534 : decode cL_law 534 = .ok (.aload_n 0, 1) := by decide +kernel
theorem dL_law_535 : decode cL_law 535 = .ok (.iload_n 3, 1) := by decide +kernel
theorem dL_law_536 : decode cL_law 536 = .ok (.iconst 3, 1) := by decide +kernel
theorem dL_law_537 : decode cL_law 537 = .ok (.iadd, 1) := by decide +kernel
theorem dL_law_538 : decode cL_law 538 = .ok (.iaload, 1) := by decide +kernel
theorem dL_law_539 : decode cL_law 539 = .ok (.invokevirtual 56, 3) := by decide +kernel
theorem dL_law_542 : decode cL_law 542 = .ok (.aload_n 2, 1) := by decide +kernel
theorem dL_law_543 : decode cL_law 543 = .ok (.aload_n 0, 1) := by decide +kernel
theorem dL_law_544 : decode cL_law 544 = .ok (.iload_n 3, 1) := by decide +kernel
theorem dL_law_545 : decode cL_law 545 = .ok (.iconst 1, 1) := by decide +kernel
theorem dL_law_546 : decode cL_law 546 = .ok (.iadd, 1) := by decide +kernel
theorem dL_law_547 : decode cL_law 547 = .ok (.iaload, 1) := by decide +kernel
theorem dL_law_548 : decode cL_law 548 = .ok (.aload_n 0, 1) := by decide +kernel
theorem dL_law_549 : decode cL_law 549 = .ok (.iload_n 3, 1) := by decide +kernel
theorem dL_law_550 : decode cL_law 550 = .ok (.iconst 2, 1) := by decide +kernel
theorem dL_law_551 : decode cL_law 551 = .ok (.iadd, 1) := by decide +kernel
theorem dL_law_552 : decode cL_law 552 = .ok (.iaload, 1) := by decide +kernel
theorem dL_law_553 : decode cL_law 553 = .ok (.aload_n 0, 1) := by decide +kernel
theorem dL_law_554 : decode cL_law 554 = .ok (.iload_n 3, 1) := by decide +kernel
theorem dL_law_555 : decode cL_law 555 = .ok (.iconst 3, 1) := by decide +kernel
theorem dL_law_556 : decode cL_law 556 = .ok (.iadd, 1) := by decide +kernel
theorem dL_law_557 : decode cL_law 557 = .ok (.iaload, 1) := by decide +kernel
theorem dL_law_558 : decode cL_law 558 = .ok (.invokevirtual 59, 3) := by decide +kernel
theorem dL_law_561 : decode cL_law 561 = .ok (.if_icmp .eq 559, 3) := by decide +kernel
theorem dL_law_564 : decode cL_law 564 = .ok (.iconst 0, 1) := by decide +kernel
theorem dL_law_565 : decode cL_law 565 = .ok (.ireturn, 1) := by decide +kernel
theorem dL_law_566 : decode cL_law 566 = .ok (.aload_n 1, 1) := by decide +kernel
theorem dL_law_567 : decode cL_law 567 = .ok (.aload_n 0, 1) := by decide +kernel
theorem dL_law_568 : decode cL_law 568 = .ok (.iload_n 3, 1) := by decide +kernel
theorem dL_law_569 : decode cL_law 569 = .ok (.iconst 1, 1) := by decide +kernel
theorem dL_law_570 : decode cL_law 570 = .ok (.iadd, 1) := by decide +kernel
theorem dL_law_571 : decode cL_law 571 = .ok (.iaload, 1) := by decide +kernel
theorem dL_law_572 : decode cL_law 572 = .ok (.aload_n 0, 1) := by decide +kernel
theorem dL_law_573 : decode cL_law 573 = .ok (.iload_n 3, 1) := by decide +kernel
theorem dL_law_574 : decode cL_law 574 = .ok (.iconst 2, 1) := by decide +kernel
theorem dL_law_575 : decode cL_law 575 = .ok (.iadd, 1) := by decide +kernel
theorem dL_law_576 : decode cL_law 576 = .ok (.iaload, 1) := by decide +kernel
theorem dL_law_577 : decode cL_law 577 = .ok (.invokevirtual 60, 3) := by decide +kernel
theorem dL_law_580 : decode cL_law 580 = .ok (.aload_n 2, 1) := by decide +kernel
theorem dL_law_581 : decode cL_law 581 = .ok (.aload_n 0, 1) := by decide +kernel
theorem dL_law_582 : decode cL_law 582 = .ok (.iload_n 3, 1) := by decide +kernel
theorem dL_law_583 : decode cL_law 583 = .ok (.iconst 1, 1) := by decide +kernel
theorem dL_law_584 : decode cL_law 584 = .ok (.iadd, 1) := by decide +kernel
theorem dL_law_585 : decode cL_law 585 = .ok (.iaload, 1) := by decide +kernel
theorem dL_law_586 : decode cL_law 586 = .ok (.aload_n 0, 1) := by decide +kernel
theorem dL_law_587 : decode cL_law 587 = .ok (.iload_n 3, 1) := by decide +kernel
theorem dL_law_588 : decode cL_law 588 = .ok (.iconst 2, 1) := by decide +kernel
theorem dL_law_589 : decode cL_law 589 = .ok (.iadd, 1) := by decide +kernel
theorem dL_law_590 : decode cL_law 590 = .ok (.iaload, 1) := by decide +kernel
theorem dL_law_591 : decode cL_law 591 = .ok (.invokevirtual 64, 3) := by decide +kernel
theorem dL_law_594 : decode cL_law 594 = .ok (.lcmp, 1) := by decide +kernel
theorem dL_law_595 : decode cL_law 595 = .ok (.ifCond .eq 525, 3) := by decide +kernel
theorem dL_law_598 : decode cL_law 598 = .ok (.iconst 0, 1) := by decide +kernel
theorem dL_law_599 : decode cL_law 599 = .ok (.ireturn, 1) := by decide +kernel
theorem dL_law_600 : decode cL_law 600 = .ok (.aload_n 1, 1) := by decide +kernel
theorem dL_law_601 : decode cL_law 601 = .ok (.aload_n 0, 1) := by decide +kernel
theorem dL_law_602 : decode cL_law 602 = .ok (.iload_n 3, 1) := by decide +kernel
theorem dL_law_603 : decode cL_law 603 = .ok (.iconst 1, 1) := by decide +kernel
theorem dL_law_604 : decode cL_law 604 = .ok (.iadd, 1) := by decide +kernel
theorem dL_law_605 : decode cL_law 605 = .ok (.iaload, 1) := by decide +kernel
theorem dL_law_606 : decode cL_law 606 = .ok (.invokevirtual 65, 3) := by decide +kernel
theorem dL_law_609 : decode cL_law 609 = .ok (.aload_n 2, 1) := by decide +kernel
theorem dL_law_610 : decode cL_law 610 = .ok (.aload_n 0, 1) := by decide +kernel
theorem dL_law_611 : decode cL_law 611 = .ok (.iload_n 3, 1) := by decide +kernel
theorem dL_law_612 : decode cL_law 612 = .ok (.iconst 1, 1) := by decide +kernel
theorem dL_law_613 : decode cL_law 613 = .ok (.iadd, 1) := by decide +kernel
theorem dL_law_614 : decode cL_law 614 = .ok (.iaload, 1) := by decide +kernel
theorem dL_law_615 : decode cL_law 615 = .ok (.invokevirtual 68, 3) := by decide +kernel
theorem dL_law_618 : decode cL_law 618 = .ok (.if_icmp .eq 502, 3) := by decide +kernel
theorem dL_law_621 : decode cL_law 621 = .ok (.iconst 0, 1) := by decide +kernel
theorem dL_law_622 : decode cL_law 622 = .ok (.ireturn, 1) := by decide +kernel
theorem dL_law_623 : decode cL_law 623 = .ok (.aload_n 1, 1) := by decide +kernel
theorem dL_law_624 : decode cL_law 624 = .ok (.aload_n 0, 1) := by decide +kernel
theorem dL_law_625 : decode cL_law 625 = .ok (.iload_n 3, 1) := by decide +kernel
theorem dL_law_626 : decode cL_law 626 = .ok (.iconst 1, 1) := by decide +kernel
theorem dL_law_627 : decode cL_law 627 = .ok (.iadd, 1) := by decide +kernel
theorem dL_law_628 : decode cL_law 628 = .ok (.iaload, 1) := by decide +kernel
theorem dL_law_629 : decode cL_law 629 = .ok (.invokevirtual 69, 3) := by decide +kernel
theorem dL_law_632 : decode cL_law 632 = .ok (.aload_n 2, 1) := by decide +kernel
theorem dL_law_633 : decode cL_law 633 = .ok (.aload_n 0, 1) := by decide +kernel
theorem dL_law_634 : decode cL_law 634 = .ok (.iload_n 3, 1) := by decide +kernel
theorem dL_law_635 : decode cL_law 635 = .ok (.iconst 1, 1) := by decide +kernel
theorem dL_law_636 : decode cL_law 636 = .ok (.iadd, 1) := by decide +kernel
theorem dL_law_637 : decode cL_law 637 = .ok (.iaload, 1) := by decide +kernel
theorem dL_law_638 : decode cL_law 638 = .ok (.invokevirtual 72, 3) := by decide +kernel
theorem dL_law_641 : decode cL_law 641 = .ok (.if_icmp .eq 479, 3) := by decide +kernel
theorem dL_law_644 : decode cL_law 644 = .ok (.iconst 0, 1) := by decide +kernel
theorem dL_law_645 : decode cL_law 645 = .ok (.ireturn, 1) := by decide +kernel
theorem dL_law_646 : decode cL_law 646 = .ok (.aload_n 1, 1) := by decide +kernel
theorem dL_law_647 : decode cL_law 647 = .ok (.aload_n 0, 1) := by decide +kernel
theorem dL_law_648 : decode cL_law 648 = .ok (.iload_n 3, 1) := by decide +kernel
theorem dL_law_649 : decode cL_law 649 = .ok (.iconst 1, 1) := by decide +kernel
theorem dL_law_650 : decode cL_law 650 = .ok (.iadd, 1) := by decide +kernel
theorem dL_law_651 : decode cL_law 651 = .ok (.iaload, 1) := by decide +kernel
theorem dL_law_652 : decode cL_law 652 = .ok (.invokevirtual 73, 3) := by decide +kernel
theorem dL_law_655 : decode cL_law 655 = .ok (.aload_n 2, 1) := by decide +kernel
theorem dL_law_656 : decode cL_law 656 = .ok (.aload_n 0, 1) := by decide +kernel
theorem dL_law_657 : decode cL_law 657 = .ok (.iload_n 3, 1) := by decide +kernel
theorem dL_law_658 : decode cL_law 658 = .ok (.iconst 1, 1) := by decide +kernel
theorem dL_law_659 : decode cL_law 659 = .ok (.iadd, 1) := by decide +kernel
theorem dL_law_660 : decode cL_law 660 = .ok (.iaload, 1) := by decide +kernel
theorem dL_law_661 : decode cL_law 661 = .ok (.invokevirtual 77, 3) := by decide +kernel
theorem dL_law_664 : decode cL_law 664 = .ok (.lcmp, 1) := by decide +kernel
theorem dL_law_665 : decode cL_law 665 = .ok (.ifCond .eq 455, 3) := by decide +kernel
theorem dL_law_668 : decode cL_law 668 = .ok (.iconst 0, 1) := by decide +kernel
theorem dL_law_669 : decode cL_law 669 = .ok (.ireturn, 1) := by decide +kernel
theorem dL_law_670 : decode cL_law 670 = .ok (.aload_n 1, 1) := by decide +kernel
theorem dL_law_671 : decode cL_law 671 = .ok (.invokevirtual 78, 3) := by decide +kernel
theorem dL_law_674 : decode cL_law 674 = .ok (.aload_n 2, 1) := by decide +kernel
theorem dL_law_675 : decode cL_law 675 = .ok (.invokevirtual 82, 3) := by decide +kernel
theorem dL_law_678 : decode cL_law 678 = .ok (.if_icmp .eq 442, 3) := by decide +kernel
theorem dL_law_681 : decode cL_law 681 = .ok (.iconst 0, 1) := by decide +kernel
theorem dL_law_682 : decode cL_law 682 = .ok (.ireturn, 1) := by decide +kernel
theorem dL_law_683 : decode cL_law 683 = .ok (.aload_n 1, 1) := by decide +kernel
theorem dL_law_684 : decode cL_law 684 = .ok (.aload_n 0, 1) := by decide +kernel
theorem dL_law_685 : decode cL_law 685 = .ok (.iload_n 3, 1) := by decide +kernel
theorem dL_law_686 : decode cL_law 686 = .ok (.iconst 1, 1) := by decide +kernel
theorem dL_law_687 : decode cL_law 687 = .ok (.iadd, 1) := by decide +kernel
theorem dL_law_688 : decode cL_law 688 = .ok (.iaload, 1) := by decide +kernel
theorem dL_law_689 : decode cL_law 689 = .ok (.invokevirtual 83, 3) := by decide +kernel
theorem dL_law_692 : decode cL_law 692 = .ok (.aload_n 2, 1) := by decide +kernel
theorem dL_law_693 : decode cL_law 693 = .ok (.aload_n 0, 1) := by decide +kernel
theorem dL_law_694 : decode cL_law 694 = .ok (.iload_n 3, 1) := by decide +kernel
theorem dL_law_695 : decode cL_law 695 = .ok (.iconst 1, 1) := by decide +kernel
theorem dL_law_696 : decode cL_law 696 = .ok (.iadd, 1) := by decide +kernel
theorem dL_law_697 : decode cL_law 697 = .ok (.iaload, 1) := by decide +kernel
theorem dL_law_698 : decode cL_law 698 = .ok (.invokevirtual 86, 3) := by decide +kernel
theorem dL_law_701 : decode cL_law 701 = .ok (.if_icmp .eq 419, 3) := by decide +kernel
theorem dL_law_704 : decode cL_law 704 = .ok (.iconst 0, 1) := by decide +kernel
theorem dL_law_705 : decode cL_law 705 = .ok (.ireturn, 1) := by decide +kernel
theorem dL_law_706 : decode cL_law 706 = .ok (.aload_n 1, 1) := by decide +kernel
theorem dL_law_707 : decode cL_law 707 = .ok (.aload_n 0, 1) := by decide +kernel
theorem dL_law_708 : decode cL_law 708 = .ok (.iload_n 3, 1) := by decide +kernel
theorem dL_law_709 : decode cL_law 709 = .ok (.iconst 1, 1) := by decide +kernel
theorem dL_law_710 : decode cL_law 710 = .ok (.iadd, 1) := by decide +kernel
theorem dL_law_711 : decode cL_law 711 = .ok (.iaload, 1) := by decide +kernel
theorem dL_law_712 : decode cL_law 712 = .ok (.invokevirtual 87, 3) := by decide +kernel
theorem dL_law_715 : decode cL_law 715 = .ok (.aload_n 2, 1) := by decide +kernel
theorem dL_law_716 : decode cL_law 716 = .ok (.aload_n 0, 1) := by decide +kernel
theorem dL_law_717 : decode cL_law 717 = .ok (.iload_n 3, 1) := by decide +kernel
theorem dL_law_718 : decode cL_law 718 = .ok (.iconst 1, 1) := by decide +kernel
theorem dL_law_719 : decode cL_law 719 = .ok (.iadd, 1) := by decide +kernel
theorem dL_law_720 : decode cL_law 720 = .ok (.iaload, 1) := by decide +kernel
theorem dL_law_721 : decode cL_law 721 = .ok (.invokevirtual 90, 3) := by decide +kernel
theorem dL_law_724 : decode cL_law 724 = .ok (.if_icmp .eq 396, 3) := by decide +kernel
theorem dL_law_727 : decode cL_law 727 = .ok (.iconst 0, 1) := by decide +kernel
theorem dL_law_728 : decode cL_law 728 = .ok (.ireturn, 1) := by decide +kernel
theorem dL_law_729 : decode cL_law 729 = .ok (.aload_n 1, 1) := by decide +kernel
theorem dL_law_730 : decode cL_law 730 = .ok (.aload_n 0, 1) := by decide +kernel
theorem dL_law_731 : decode cL_law 731 = .ok (.iload_n 3, 1) := by decide +kernel
theorem dL_law_732 : decode cL_law 732 = .ok (.iconst 1, 1) := by decide +kernel
theorem dL_law_733 : decode cL_law 733 = .ok (.iadd, 1) := by decide +kernel
theorem dL_law_734 : decode cL_law 734 = .ok (.iaload, 1) := by decide +kernel
theorem dL_law_735 : decode cL_law 735 = .ok (.aload_n 0, 1) := by decide +kernel
theorem dL_law_736 : decode cL_law 736 = .ok (.iload_n 3, 1) := by decide +kernel
theorem dL_law_737 : decode cL_law 737 = .ok (.iconst 2, 1) := by decide +kernel
theorem dL_law_738 : decode cL_law 738 = .ok (.iadd, 1) := by decide +kernel
theorem dL_law_739 : decode cL_law 739 = .ok (.iaload, 1) := by decide +kernel
theorem dL_law_740 : decode cL_law 740 = .ok (.invokevirtual 91, 3) := by decide +kernel
theorem dL_law_743 : decode cL_law 743 = .ok (.aload_n 2, 1) := by decide +kernel
theorem dL_law_744 : decode cL_law 744 = .ok (.aload_n 0, 1) := by decide +kernel
theorem dL_law_745 : decode cL_law 745 = .ok (.iload_n 3, 1) := by decide +kernel
theorem dL_law_746 : decode cL_law 746 = .ok (.iconst 1, 1) := by decide +kernel
theorem dL_law_747 : decode cL_law 747 = .ok (.iadd, 1) := by decide +kernel
theorem dL_law_748 : decode cL_law 748 = .ok (.iaload, 1) := by decide +kernel
theorem dL_law_749 : decode cL_law 749 = .ok (.aload_n 0, 1) := by decide +kernel
theorem dL_law_750 : decode cL_law 750 = .ok (.iload_n 3, 1) := by decide +kernel
theorem dL_law_751 : decode cL_law 751 = .ok (.iconst 2, 1) := by decide +kernel
theorem dL_law_752 : decode cL_law 752 = .ok (.iadd, 1) := by decide +kernel
theorem dL_law_753 : decode cL_law 753 = .ok (.iaload, 1) := by decide +kernel
theorem dL_law_754 : decode cL_law 754 = .ok (.invokevirtual 94, 3) := by decide +kernel
theorem dL_law_757 : decode cL_law 757 = .ok (.lcmp, 1) := by decide +kernel
theorem dL_law_758 : decode cL_law 758 = .ok (.ifCond .eq 362, 3) := by decide +kernel
theorem dL_law_761 : decode cL_law 761 = .ok (.iconst 0, 1) := by decide +kernel
theorem dL_law_762 : decode cL_law 762 = .ok (.ireturn, 1) := by decide +kernel
theorem dL_law_763 : decode cL_law 763 = .ok (.aload_n 1, 1) := by decide +kernel
theorem dL_law_764 : decode cL_law 764 = .ok (.aload_n 0, 1) := by decide +kernel
theorem dL_law_765 : decode cL_law 765 = .ok (.iload_n 3, 1) := by decide +kernel
theorem dL_law_766 : decode cL_law 766 = .ok (.iconst 1, 1) := by decide +kernel
theorem dL_law_767 : decode cL_law 767 = .ok (.iadd, 1) := by decide +kernel
theorem dL_law_768 : decode cL_law 768 = .ok (.iaload, 1) := by decide +kernel
theorem dL_law_769 : decode cL_law 769 = .ok (.invokevirtual 95, 3) := by decide +kernel
theorem dL_law_772 : decode cL_law 772 = .ok (.aload_n 2, 1) := by decide +kernel
theorem dL_law_773 : decode cL_law 773 = .ok (.aload_n 0, 1) := by decide +kernel
theorem dL_law_774 : decode cL_law 774 = .ok (.iload_n 3, 1) := by decide +kernel
theorem dL_law_775 : decode cL_law 775 = .ok (.iconst 1, 1) := by decide +kernel
theorem dL_law_776 : decode cL_law 776 = .ok (.iadd, 1) := by decide +kernel
theorem dL_law_777 : decode cL_law 777 = .ok (.iaload, 1) := by decide +kernel
theorem dL_law_778 : decode cL_law 778 = .ok (.invokevirtual 98, 3) := by decide +kernel
theorem dL_law_781 : decode cL_law 781 = .ok (.lcmp, 1) := by decide +kernel
theorem dL_law_782 : decode cL_law 782 = .ok (.ifCond .eq 338, 3) := by decide +kernel
theorem dL_law_785 : decode cL_law 785 = .ok (.iconst 0, 1) := by decide +kernel
theorem dL_law_786 : decode cL_law 786 = .ok (.ireturn, 1) := by decide +kernel
theorem dL_law_787 : decode cL_law 787 = .ok (.aload_n 1, 1) := by decide +kernel
theorem dL_law_788 : decode cL_law 788 = .ok (.aload_n 0, 1) := by decide +kernel
theorem dL_law_789 : decode cL_law 789 = .ok (.iload_n 3, 1) := by decide +kernel
theorem dL_law_790 : decode cL_law 790 = .ok (.iconst 1, 1) := by decide +kernel
theorem dL_law_791 : decode cL_law 791 = .ok (.iadd, 1) := by decide +kernel
theorem dL_law_792 : decode cL_law 792 = .ok (.iaload, 1) := by decide +kernel
theorem dL_law_793 : decode cL_law 793 = .ok (.aload_n 0, 1) := by decide +kernel
theorem dL_law_794 : decode cL_law 794 = .ok (.iload_n 3, 1) := by decide +kernel
theorem dL_law_795 : decode cL_law 795 = .ok (.iconst 2, 1) := by decide +kernel
theorem dL_law_796 : decode cL_law 796 = .ok (.iadd, 1) := by decide +kernel
theorem dL_law_797 : decode cL_law 797 = .ok (.iaload, 1) := by decide +kernel
theorem dL_law_798 : decode cL_law 798 = .ok (.invokevirtual 99, 3) := by decide +kernel
theorem dL_law_801 : decode cL_law 801 = .ok (.aload_n 2, 1) := by decide +kernel
theorem dL_law_802 : decode cL_law 802 = .ok (.aload_n 0, 1) := by decide +kernel
theorem dL_law_803 : decode cL_law 803 = .ok (.iload_n 3, 1) := by decide +kernel
theorem dL_law_804 : decode cL_law 804 = .ok (.iconst 1, 1) := by decide +kernel
theorem dL_law_805 : decode cL_law 805 = .ok (.iadd, 1) := by decide +kernel
theorem dL_law_806 : decode cL_law 806 = .ok (.iaload, 1) := by decide +kernel
theorem dL_law_807 : decode cL_law 807 = .ok (.aload_n 0, 1) := by decide +kernel
theorem dL_law_808 : decode cL_law 808 = .ok (.iload_n 3, 1) := by decide +kernel
theorem dL_law_809 : decode cL_law 809 = .ok (.iconst 2, 1) := by decide +kernel
theorem dL_law_810 : decode cL_law 810 = .ok (.iadd, 1) := by decide +kernel
theorem dL_law_811 : decode cL_law 811 = .ok (.iaload, 1) := by decide +kernel
theorem dL_law_812 : decode cL_law 812 = .ok (.invokevirtual 102, 3) := by decide +kernel
theorem dL_law_815 : decode cL_law 815 = .ok (.lcmp, 1) := by decide +kernel
theorem dL_law_816 : decode cL_law 816 = .ok (.ifCond .eq 304, 3) := by decide +kernel
theorem dL_law_819 : decode cL_law 819 = .ok (.iconst 0, 1) := by decide +kernel
theorem dL_law_820 : decode cL_law 820 = .ok (.ireturn, 1) := by decide +kernel
theorem dL_law_821 : decode cL_law 821 = .ok (.aload_n 1, 1) := by decide +kernel
theorem dL_law_822 : decode cL_law 822 = .ok (.invokevirtual 103, 3) := by decide +kernel
theorem dL_law_825 : decode cL_law 825 = .ok (.aload_n 2, 1) := by decide +kernel
theorem dL_law_826 : decode cL_law 826 = .ok (.invokevirtual 106, 3) := by decide +kernel
theorem dL_law_829 : decode cL_law 829 = .ok (.if_icmp .eq 291, 3) := by decide +kernel
theorem dL_law_832 : decode cL_law 832 = .ok (.iconst 0, 1) := by decide +kernel
theorem dL_law_833 : decode cL_law 833 = .ok (.ireturn, 1) := by decide +kernel
theorem dL_law_834 : decode cL_law 834 = .ok (.aload_n 1, 1) := by decide +kernel
theorem dL_law_835 : decode cL_law 835 = .ok (.aload_n 0, 1) := by decide +kernel
theorem dL_law_836 : decode cL_law 836 = .ok (.iload_n 3, 1) := by decide +kernel
theorem dL_law_837 : decode cL_law 837 = .ok (.iconst 1, 1) := by decide +kernel
theorem dL_law_838 : decode cL_law 838 = .ok (.iadd, 1) := by decide +kernel
theorem dL_law_839 : decode cL_law 839 = .ok (.iaload, 1) := by decide +kernel
theorem dL_law_840 : decode cL_law 840 = .ok (.aload_n 0, 1) := by decide +kernel
theorem dL_law_841 : decode cL_law 841 = .ok (.iload_n 3, 1) := by decide +kernel
theorem dL_law_842 : decode cL_law 842 = .ok (.iconst 2, 1) := by decide +kernel
theorem dL_law_843 : decode cL_law 843 = .ok (.iadd, 1) := by decide +kernel
theorem dL_law_844 : decode cL_law 844 = .ok (.iaload, 1) := by decide +kernel
theorem dL_law_845 : decode cL_law 845 = .ok (.invokevirtual 107, 3) := by decide +kernel
theorem dL_law_848 : decode cL_law 848 = .ok (.aload_n 2, 1) := by decide +kernel
theorem dL_law_849 : decode cL_law 849 = .ok (.aload_n 0, 1) := by decide +kernel
theorem dL_law_850 : decode cL_law 850 = .ok (.iload_n 3, 1) := by decide +kernel
theorem dL_law_851 : decode cL_law 851 = .ok (.iconst 1, 1) := by decide +kernel
theorem dL_law_852 : decode cL_law 852 = .ok (.iadd, 1) := by decide +kernel
theorem dL_law_853 : decode cL_law 853 = .ok (.iaload, 1) := by decide +kernel
theorem dL_law_854 : decode cL_law 854 = .ok (.aload_n 0, 1) := by decide +kernel
theorem dL_law_855 : decode cL_law 855 = .ok (.iload_n 3, 1) := by decide +kernel
theorem dL_law_856 : decode cL_law 856 = .ok (.iconst 2, 1) := by decide +kernel
theorem dL_law_857 : decode cL_law 857 = .ok (.iadd, 1) := by decide +kernel
theorem dL_law_858 : decode cL_law 858 = .ok (.iaload, 1) := by decide +kernel
theorem dL_law_859 : decode cL_law 859 = .ok (.invokevirtual 110, 3) := by decide +kernel
theorem dL_law_862 : decode cL_law 862 = .ok (.lcmp, 1) := by decide +kernel
theorem dL_law_863 : decode cL_law 863 = .ok (.ifCond .eq 257, 3) := by decide +kernel
theorem dL_law_866 : decode cL_law 866 = .ok (.iconst 0, 1) := by decide +kernel
theorem dL_law_867 : decode cL_law 867 = .ok (.ireturn, 1) := by decide +kernel
theorem dL_law_868 : decode cL_law 868 = .ok (.aload_n 1, 1) := by decide +kernel
theorem dL_law_869 : decode cL_law 869 = .ok (.aload_n 0, 1) := by decide +kernel
theorem dL_law_870 : decode cL_law 870 = .ok (.iload_n 3, 1) := by decide +kernel
theorem dL_law_871 : decode cL_law 871 = .ok (.iconst 1, 1) := by decide +kernel
theorem dL_law_872 : decode cL_law 872 = .ok (.iadd, 1) := by decide +kernel
theorem dL_law_873 : decode cL_law 873 = .ok (.iaload, 1) := by decide +kernel
theorem dL_law_874 : decode cL_law 874 = .ok (.invokevirtual 111, 3) := by decide +kernel
theorem dL_law_877 : decode cL_law 877 = .ok (.aload_n 2, 1) := by decide +kernel
theorem dL_law_878 : decode cL_law 878 = .ok (.aload_n 0, 1) := by decide +kernel
theorem dL_law_879 : decode cL_law 879 = .ok (.iload_n 3, 1) := by decide +kernel
theorem dL_law_880 : decode cL_law 880 = .ok (.iconst 1, 1) := by decide +kernel
theorem dL_law_881 : decode cL_law 881 = .ok (.iadd, 1) := by decide +kernel
theorem dL_law_882 : decode cL_law 882 = .ok (.iaload, 1) := by decide +kernel
theorem dL_law_883 : decode cL_law 883 = .ok (.invokevirtual 114, 3) := by decide +kernel
theorem dL_law_886 : decode cL_law 886 = .ok (.lcmp, 1) := by decide +kernel
theorem dL_law_887 : decode cL_law 887 = .ok (.ifCond .eq 233, 3) := by decide +kernel
theorem dL_law_890 : decode cL_law 890 = .ok (.iconst 0, 1) := by decide +kernel
theorem dL_law_891 : decode cL_law 891 = .ok (.ireturn, 1) := by decide +kernel
theorem dL_law_892 : decode cL_law 892 = .ok (.aload_n 1, 1) := by decide +kernel
theorem dL_law_893 : decode cL_law 893 = .ok (.aload_n 0, 1) := by decide +kernel
theorem dL_law_894 : decode cL_law 894 = .ok (.iload_n 3, 1) := by decide +kernel
theorem dL_law_895 : decode cL_law 895 = .ok (.iconst 1, 1) := by decide +kernel
theorem dL_law_896 : decode cL_law 896 = .ok (.iadd, 1) := by decide +kernel
theorem dL_law_897 : decode cL_law 897 = .ok (.iaload, 1) := by decide +kernel
theorem dL_law_898 : decode cL_law 898 = .ok (.invokevirtual 115, 3) := by decide +kernel
theorem dL_law_901 : decode cL_law 901 = .ok (.aload_n 2, 1) := by decide +kernel
theorem dL_law_902 : decode cL_law 902 = .ok (.aload_n 0, 1) := by decide +kernel
theorem dL_law_903 : decode cL_law 903 = .ok (.iload_n 3, 1) := by decide +kernel
theorem dL_law_904 : decode cL_law 904 = .ok (.iconst 1, 1) := by decide +kernel
theorem dL_law_905 : decode cL_law 905 = .ok (.iadd, 1) := by decide +kernel
theorem dL_law_906 : decode cL_law 906 = .ok (.iaload, 1) := by decide +kernel
theorem dL_law_907 : decode cL_law 907 = .ok (.invokevirtual 118, 3) := by decide +kernel
theorem dL_law_910 : decode cL_law 910 = .ok (.if_icmp .eq 210, 3) := by decide +kernel
theorem dL_law_913 : decode cL_law 913 = .ok (.iconst 0, 1) := by decide +kernel
theorem dL_law_914 : decode cL_law 914 = .ok (.ireturn, 1) := by decide +kernel
theorem dL_law_915 : decode cL_law 915 = .ok (.aload_n 1, 1) := by decide +kernel
theorem dL_law_916 : decode cL_law 916 = .ok (.aload_n 0, 1) := by decide +kernel
theorem dL_law_917 : decode cL_law 917 = .ok (.iload_n 3, 1) := by decide +kernel
theorem dL_law_918 : decode cL_law 918 = .ok (.iconst 1, 1) := by decide +kernel
theorem dL_law_919 : decode cL_law 919 = .ok (.iadd, 1) := by decide +kernel
theorem dL_law_920 : decode cL_law 920 = .ok (.iaload, 1) := by decide +kernel
theorem dL_law_921 : decode cL_law 921 = .ok (.invokevirtual 119, 3) := by decide +kernel
theorem dL_law_924 : decode cL_law 924 = .ok (.aload_n 2, 1) := by decide +kernel
theorem dL_law_925 : decode cL_law 925 = .ok (.aload_n 0, 1) := by decide +kernel
theorem dL_law_926 : decode cL_law 926 = .ok (.iload_n 3, 1) := by decide +kernel
theorem dL_law_927 : decode cL_law 927 = .ok (.iconst 1, 1) := by decide +kernel
theorem dL_law_928 : decode cL_law 928 = .ok (.iadd, 1) := by decide +kernel
theorem dL_law_929 : decode cL_law 929 = .ok (.iaload, 1) := by decide +kernel
theorem dL_law_930 : decode cL_law 930 = .ok (.invokevirtual 122, 3) := by decide +kernel
theorem dL_law_933 : decode cL_law 933 = .ok (.if_icmp .eq 187, 3) := by decide +kernel
theorem dL_law_936 : decode cL_law 936 = .ok (.iconst 0, 1) := by decide +kernel
theorem dL_law_937 : decode cL_law 937 = .ok (.ireturn, 1) := by decide +kernel
theorem dL_law_938 : decode cL_law 938 = .ok (.aload_n 1, 1) := by decide +kernel
theorem dL_law_939 : decode cL_law 939 = .ok (.invokevirtual 123, 3) := by decide +kernel
theorem dL_law_942 : decode cL_law 942 = .ok (.aload_n 2, 1) := by decide +kernel
theorem dL_law_943 : decode cL_law 943 = .ok (.invokevirtual 126, 3) := by decide +kernel
theorem dL_law_946 : decode cL_law 946 = .ok (.if_icmp .eq 174, 3) := by decide +kernel
theorem dL_law_949 : decode cL_law 949 = .ok (.iconst 0, 1) := by decide +kernel
theorem dL_law_950 : decode cL_law 950 = .ok (.ireturn, 1) := by decide +kernel
theorem dL_law_951 : decode cL_law 951 = .ok (.aload_n 1, 1) := by decide +kernel
theorem dL_law_952 : decode cL_law 952 = .ok (.invokevirtual 127, 3) := by decide +kernel
theorem dL_law_955 : decode cL_law 955 = .ok (.aload_n 2, 1) := by decide +kernel
theorem dL_law_956 : decode cL_law 956 = .ok (.invokevirtual 130, 3) := by decide +kernel
theorem dL_law_959 : decode cL_law 959 = .ok (.if_icmp .eq 161, 3) := by decide +kernel
theorem dL_law_962 : decode cL_law 962 = .ok (.iconst 0, 1) := by decide +kernel
theorem dL_law_963 : decode cL_law 963 = .ok (.ireturn, 1) := by decide +kernel
theorem dL_law_964 : decode cL_law 964 = .ok (.aload_n 1, 1) := by decide +kernel
theorem dL_law_965 : decode cL_law 965 = .ok (.aload_n 0, 1) := by decide +kernel
theorem dL_law_966 : decode cL_law 966 = .ok (.iload_n 3, 1) := by decide +kernel
theorem dL_law_967 : decode cL_law 967 = .ok (.iconst 1, 1) := by decide +kernel
theorem dL_law_968 : decode cL_law 968 = .ok (.iadd, 1) := by decide +kernel
theorem dL_law_969 : decode cL_law 969 = .ok (.iaload, 1) := by decide +kernel
theorem dL_law_970 : decode cL_law 970 = .ok (.aload_n 0, 1) := by decide +kernel
theorem dL_law_971 : decode cL_law 971 = .ok (.iload_n 3, 1) := by decide +kernel
theorem dL_law_972 : decode cL_law 972 = .ok (.iconst 2, 1) := by decide +kernel
theorem dL_law_973 : decode cL_law 973 = .ok (.iadd, 1) := by decide +kernel
theorem dL_law_974 : decode cL_law 974 = .ok (.iaload, 1) := by decide +kernel
theorem dL_law_975 : decode cL_law 975 = .ok (.invokevirtual 131, 3) := by decide +kernel
theorem dL_law_978 : decode cL_law 978 = .ok (.aload_n 2, 1) := by decide +kernel
theorem dL_law_979 : decode cL_law 979 = .ok (.aload_n 0, 1) := by decide +kernel
theorem dL_law_980 : decode cL_law 980 = .ok (.iload_n 3, 1) := by decide +kernel
theorem dL_law_981 : decode cL_law 981 = .ok (.iconst 1, 1) := by decide +kernel
theorem dL_law_982 : decode cL_law 982 = .ok (.iadd, 1) := by decide +kernel
theorem dL_law_983 : decode cL_law 983 = .ok (.iaload, 1) := by decide +kernel
theorem dL_law_984 : decode cL_law 984 = .ok (.aload_n 0, 1) := by decide +kernel
theorem dL_law_985 : decode cL_law 985 = .ok (.iload_n 3, 1) := by decide +kernel
theorem dL_law_986 : decode cL_law 986 = .ok (.iconst 2, 1) := by decide +kernel
theorem dL_law_987 : decode cL_law 987 = .ok (.iadd, 1) := by decide +kernel
theorem dL_law_988 : decode cL_law 988 = .ok (.iaload, 1) := by decide +kernel
theorem dL_law_989 : decode cL_law 989 = .ok (.invokevirtual 134, 3) := by decide +kernel
theorem dL_law_992 : decode cL_law 992 = .ok (.if_icmp .eq 128, 3) := by decide +kernel
theorem dL_law_995 : decode cL_law 995 = .ok (.iconst 0, 1) := by decide +kernel
theorem dL_law_996 : decode cL_law 996 = .ok (.ireturn, 1) := by decide +kernel
theorem dL_law_997 : decode cL_law 997 = .ok (.aload_n 1, 1) := by decide +kernel
theorem dL_law_998 : decode cL_law 998 = .ok (.aload_n 0, 1) := by decide +kernel
theorem dL_law_999 : decode cL_law 999 = .ok (.iload_n 3, 1) := by decide +kernel
theorem dL_law_1000 : decode cL_law 1000 = .ok (.iconst 1, 1) := by decide +kernel
theorem dL_law_1001 : decode cL_law 1001 = .ok (.iadd, 1) := by decide +kernel
theorem dL_law_1002 : decode cL_law 1002 = .ok (.iaload, 1) := by decide +kernel
theorem dL_law_1003 : decode cL_law 1003 = .ok (.aload_n 0, 1) := by decide +kernel
theorem dL_law_1004 : decode cL_law 1004 = .ok (.iload_n 3, 1) := by decide +kernel
theorem dL_law_1005 : decode cL_law 1005 = .ok (.iconst 2, 1) := by decide +kernel
theorem dL_law_1006 : decode cL_law 1006 = .ok (.iadd, 1) := by decide +kernel
theorem dL_law_1007 : decode cL_law 1007 = .ok (.iaload, 1) := by decide +kernel
theorem dL_law_1008 : decode cL_law 1008 = .ok (.invokevirtual 135, 3) := by decide +kernel
theorem dL_law_1011 : decode cL_law 1011 = .ok (.aload_n 2, 1) := by decide +kernel
theorem dL_law_1012 : decode cL_law 1012 = .ok (.aload_n 0, 1) := by decide +kernel
theorem dL_law_1013 : decode cL_law 1013 = .ok (.iload_n 3, 1) := by decide +kernel
theorem dL_law_1014 : decode cL_law 1014 = .ok (.iconst 1, 1) := by decide +kernel
theorem dL_law_1015 : decode cL_law 1015 = .ok (.iadd, 1) := by decide +kernel
theorem dL_law_1016 : decode cL_law 1016 = .ok (.iaload, 1) := by decide +kernel
theorem dL_law_1017 : decode cL_law 1017 = .ok (.aload_n 0, 1) := by decide +kernel
theorem dL_law_1018 : decode cL_law 1018 = .ok (.iload_n 3, 1) := by decide +kernel
theorem dL_law_1019 : decode cL_law 1019 = .ok (.iconst 2, 1) := by decide +kernel
theorem dL_law_1020 : decode cL_law 1020 = .ok (.iadd, 1) := by decide +kernel
theorem dL_law_1021 : decode cL_law 1021 = .ok (.iaload, 1) := by decide +kernel
theorem dL_law_1022 : decode cL_law 1022 = .ok (.invokevirtual 138, 3) := by decide +kernel
theorem dL_law_1025 : decode cL_law 1025 = .ok (.if_icmp .eq 95, 3) := by decide +kernel
theorem dL_law_1028 : decode cL_law 1028 = .ok (.iconst 0, 1) := by decide +kernel
theorem dL_law_1029 : decode cL_law 1029 = .ok (.ireturn, 1) := by decide +kernel
theorem dL_law_1030 : decode cL_law 1030 = .ok (.aload_n 1, 1) := by decide +kernel
theorem dL_law_1031 : decode cL_law 1031 = .ok (.aload_n 0, 1) := by decide +kernel
theorem dL_law_1032 : decode cL_law 1032 = .ok (.iload_n 3, 1) := by decide +kernel
theorem dL_law_1033 : decode cL_law 1033 = .ok (.iconst 1, 1) := by decide +kernel
theorem dL_law_1034 : decode cL_law 1034 = .ok (.iadd, 1) := by decide +kernel
theorem dL_law_1035 : decode cL_law 1035 = .ok (.iaload, 1) := by decide +kernel
theorem dL_law_1036 : decode cL_law 1036 = .ok (.aload_n 0, 1) := by decide +kernel
theorem dL_law_1037 : decode cL_law 1037 = .ok (.iload_n 3, 1) := by decide +kernel
theorem dL_law_1038 : decode cL_law 1038 = .ok (.iconst 2, 1) := by decide +kernel
theorem dL_law_1039 : decode cL_law 1039 = .ok (.iadd, 1) := by decide +kernel
theorem dL_law_1040 : decode cL_law 1040 = .ok (.iaload, 1) := by decide +kernel
theorem dL_law_1041 : decode cL_law 1041 = .ok (.invokevirtual 139, 3) := by decide +kernel
theorem dL_law_1044 : decode cL_law 1044 = .ok (.aload_n 2, 1) := by decide +kernel
theorem dL_law_1045 : decode cL_law 1045 = .ok (.aload_n 0, 1) := by decide +kernel
theorem dL_law_1046 : decode cL_law 1046 = .ok (.iload_n 3, 1) := by decide +kernel
theorem dL_law_1047 : decode cL_law 1047 = .ok (.iconst 1, 1) := by decide +kernel
theorem dL_law_1048 : decode cL_law 1048 = .ok (.iadd, 1) := by decide +kernel
theorem dL_law_1049 : decode cL_law 1049 = .ok (.iaload, 1) := by decide +kernel
theorem dL_law_1050 : decode cL_law 1050 = .ok (.aload_n 0, 1) := by decide +kernel
theorem dL_law_1051 : decode cL_law 1051 = .ok (.iload_n 3, 1) := by decide +kernel
theorem dL_law_1052 : decode cL_law 1052 = .ok (.iconst 2, 1) := by decide +kernel
theorem dL_law_1053 : decode cL_law 1053 = .ok (.iadd, 1) := by decide +kernel
theorem dL_law_1054 : decode cL_law 1054 = .ok (.iaload, 1) := by decide +kernel
theorem dL_law_1055 : decode cL_law 1055 = .ok (.invokevirtual 142, 3) := by decide +kernel
theorem dL_law_1058 : decode cL_law 1058 = .ok (.lcmp, 1) := by decide +kernel
theorem dL_law_1059 : decode cL_law 1059 = .ok (.ifCond .eq 61, 3) := by decide +kernel
theorem dL_law_1062 : decode cL_law 1062 = .ok (.iconst 0, 1) := by decide +kernel
theorem dL_law_1063 : decode cL_law 1063 = .ok (.ireturn, 1) := by decide +kernel
theorem dL_law_1064 : decode cL_law 1064 = .ok (.aload_n 1, 1) := by decide +kernel
theorem dL_law_1065 : decode cL_law 1065 = .ok (.aload_n 0, 1) := by decide +kernel
theorem dL_law_1066 : decode cL_law 1066 = .ok (.iload_n 3, 1) := by decide +kernel
theorem dL_law_1067 : decode cL_law 1067 = .ok (.iconst 1, 1) := by decide +kernel
theorem dL_law_1068 : decode cL_law 1068 = .ok (.iadd, 1) := by decide +kernel
theorem dL_law_1069 : decode cL_law 1069 = .ok (.iaload, 1) := by decide +kernel
theorem dL_law_1070 : decode cL_law 1070 = .ok (.aload_n 0, 1) := by decide +kernel
theorem dL_law_1071 : decode cL_law 1071 = .ok (.iload_n 3, 1) := by decide +kernel
theorem dL_law_1072 : decode cL_law 1072 = .ok (.iconst 2, 1) := by decide +kernel
theorem dL_law_1073 : decode cL_law 1073 = .ok (.iadd, 1) := by decide +kernel
theorem dL_law_1074 : decode cL_law 1074 = .ok (.iaload, 1) := by decide +kernel
theorem dL_law_1075 : decode cL_law 1075 = .ok (.invokevirtual 143, 3) := by decide +kernel
theorem dL_law_1078 : decode cL_law 1078 = .ok (.aload_n 2, 1) := by decide +kernel
theorem dL_law_1079 : decode cL_law 1079 = .ok (.aload_n 0, 1) := by decide +kernel
theorem dL_law_1080 : decode cL_law 1080 = .ok (.iload_n 3, 1) := by decide +kernel
theorem dL_law_1081 : decode cL_law 1081 = .ok (.iconst 1, 1) := by decide +kernel
theorem dL_law_1082 : decode cL_law 1082 = .ok (.iadd, 1) := by decide +kernel
theorem dL_law_1083 : decode cL_law 1083 = .ok (.iaload, 1) := by decide +kernel
theorem dL_law_1084 : decode cL_law 1084 = .ok (.aload_n 0, 1) := by decide +kernel
theorem dL_law_1085 : decode cL_law 1085 = .ok (.iload_n 3, 1) := by decide +kernel
theorem dL_law_1086 : decode cL_law 1086 = .ok (.iconst 2, 1) := by decide +kernel
theorem dL_law_1087 : decode cL_law 1087 = .ok (.iadd, 1) := by decide +kernel
theorem dL_law_1088 : decode cL_law 1088 = .ok (.iaload, 1) := by decide +kernel
theorem dL_law_1089 : decode cL_law 1089 = .ok (.invokevirtual 146, 3) := by decide +kernel
theorem dL_law_1092 : decode cL_law 1092 = .ok (.if_icmp .eq 28, 3) := by decide +kernel
theorem dL_law_1095 : decode cL_law 1095 = .ok (.iconst 0, 1) := by decide +kernel
theorem dL_law_1096 : decode cL_law 1096 = .ok (.ireturn, 1) := by decide +kernel
theorem dL_law_1097 : decode cL_law 1097 = .ok (.aload_n 1, 1) := by decide +kernel
theorem dL_law_1098 : decode cL_law 1098 = .ok (.aload_n 0, 1) := by decide +kernel
theorem dL_law_1099 : decode cL_law 1099 = .ok (.iload_n 3, 1) := by decide +kernel
theorem dL_law_1100 : decode cL_law 1100 = .ok (.iconst 1, 1) := by decide +kernel
theorem dL_law_1101 : decode cL_law 1101 = .ok (.iadd, 1) := by decide +kernel
theorem dL_law_1102 : decode cL_law 1102 = .ok (.iaload, 1) := by decide +kernel
theorem dL_law_1103 : decode cL_law 1103 = .ok (.invokevirtual 147, 3) := by decide +kernel
theorem dL_law_1106 : decode cL_law 1106 = .ok (.aload_n 2, 1) := by decide +kernel
theorem dL_law_1107 : decode cL_law 1107 = .ok (.aload_n 0, 1) := by decide +kernel
theorem dL_law_1108 : decode cL_law 1108 = .ok (.iload_n 3, 1) := by decide +kernel
theorem dL_law_1109 : decode cL_law 1109 = .ok (.iconst 1, 1) := by decide +kernel
theorem dL_law_1110 : decode cL_law 1110 = .ok (.iadd, 1) := by decide +kernel
theorem dL_law_1111 : decode cL_law 1111 = .ok (.iaload, 1) := by decide +kernel
theorem dL_law_1112 : decode cL_law 1112 = .ok (.invokevirtual 150, 3) := by decide +kernel
theorem dL_law_1115 : decode cL_law 1115 = .ok (.if_icmp .eq 5, 3) := by decide +kernel
theorem dL_law_1118 : decode cL_law 1118 = .ok (.iconst 0, 1) := by decide +kernel
theorem dL_law_1119 : decode cL_law 1119 = .ok (.ireturn, 1) := by decide +kernel
theorem dL_law_1120 : decode cL_law 1120 = .ok (.iinc 3 6, 3) := by decide +kernel
theorem dL_law_1123 : decode cL_law 1123 = .ok (.goto (-1105), 3) := by decide +kernel
theorem dL_law_1126 : decode cL_law 1126 = .ok (.iconst 1, 1) := by decide +kernel
theorem dL_law_1127 : decode cL_law 1127 = .ok (.ireturn, 1) := by decide +kernel
