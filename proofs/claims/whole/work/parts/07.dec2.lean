theorem dX4_extraFor_86 : decode cX4_extraFor 86 = .ok (.iload 4, 2) := by decide +kernel
theorem dX4_extraFor_88 : decode cX4_extraFor 88 = .ok (.aload_n 0, 1) := by decide +kernel
theorem dX4_extraFor_89 : decode cX4_extraFor 89 = .ok (.getfield 37, 3) := by decide +kernel
theorem dX4_extraFor_92 : decode cX4_extraFor 92 = .ok (.if_icmp .ge 77, 3) := by decide +kernel
theorem dX4_extraFor_95 : decode cX4_extraFor 95 = .ok (.iload 4, 2) := by decide +kernel
theorem dX4_extraFor_97 : decode cX4_extraFor 97 = .ok (.bipush 12, 2) := by decide +kernel
theorem dX4_extraFor_99 : decode cX4_extraFor 99 = .ok (.if_icmp .ge 70, 3) := by decide +kernel
theorem dX4_extraFor_102 : decode cX4_extraFor 102 = .ok (.aload_n 0, 1) := by decide +kernel
theorem dX4_extraFor_103 : decode cX4_extraFor 103 = .ok (.aload_n 0, 1) := by decide +kernel
theorem dX4_extraFor_104 : decode cX4_extraFor 104 = .ok (.getfield 21, 3) := by decide +kernel
theorem dX4_extraFor_107 : decode cX4_extraFor 107 = .ok (.iload 4, 2) := by decide +kernel
theorem dX4_extraFor_109 : decode cX4_extraFor 109 = .ok (.iaload, 1) := by decide +kernel
theorem dX4_extraFor_110 : decode cX4_extraFor 110 = .ok (.aload_n 0, 1) := by decide +kernel
theorem dX4_extraFor_111 : decode cX4_extraFor 111 = .ok (.getfield 24, 3) := by decide +kernel
theorem dX4_extraFor_114 : decode cX4_extraFor 114 = .ok (.iload 4, 2) := by decide +kernel
theorem dX4_extraFor_116 : decode cX4_extraFor 116 = .ok (.iaload, 1) := by decide +kernel
theorem dX4_extraFor_117 : decode cX4_extraFor 117 = .ok (.invokevirtual 52, 3) := by decide +kernel
theorem dX4_extraFor_120 : decode cX4_extraFor 120 = .ok (.ifCond .eq 43, 3) := by decide +kernel
theorem dX4_extraFor_123 : decode cX4_extraFor 123 = .ok (.aload_n 0, 1) := by decide +kernel
theorem dX4_extraFor_124 : decode cX4_extraFor 124 = .ok (.aload_n 0, 1) := by decide +kernel
theorem dX4_extraFor_125 : decode cX4_extraFor 125 = .ok (.getfield 18, 3) := by decide +kernel
theorem dX4_extraFor_128 : decode cX4_extraFor 128 = .ok (.iload 4, 2) := by decide +kernel
theorem dX4_extraFor_130 : decode cX4_extraFor 130 = .ok (.iaload, 1) := by decide +kernel
theorem dX4_extraFor_131 : decode cX4_extraFor 131 = .ok (.aload_n 0, 1) := by decide +kernel
theorem dX4_extraFor_132 : decode cX4_extraFor 132 = .ok (.getfield 21, 3) := by decide +kernel
theorem dX4_extraFor_135 : decode cX4_extraFor 135 = .ok (.iload 4, 2) := by decide +kernel
theorem dX4_extraFor_137 : decode cX4_extraFor 137 = .ok (.iaload, 1) := by decide +kernel
theorem dX4_extraFor_138 : decode cX4_extraFor 138 = .ok (.invokevirtual 52, 3) := by decide +kernel
theorem dX4_extraFor_141 : decode cX4_extraFor 141 = .ok (.istore 5, 2) := by decide +kernel
theorem dX4_extraFor_143 : decode cX4_extraFor 143 = .ok (.iload 5, 2) := by decide +kernel
theorem dX4_extraFor_145 : decode cX4_extraFor 145 = .ok (.ifCond .lt 16, 3) := by decide +kernel
theorem dX4_extraFor_148 : decode cX4_extraFor 148 = .ok (.iload 5, 2) := by decide +kernel
theorem dX4_extraFor_150 : decode cX4_extraFor 150 = .ok (.sipush 1000, 3) := by decide +kernel
theorem dX4_extraFor_153 : decode cX4_extraFor 153 = .ok (.if_icmp .gt 8, 3) := by decide +kernel
theorem dX4_extraFor_156 : decode cX4_extraFor 156 = .ok (.iload 5, 2) := by decide +kernel
theorem dX4_extraFor_158 : decode cX4_extraFor 158 = .ok (.goto 4, 3) := by decide +kernel
theorem dX4_extraFor_161 : decode cX4_extraFor 161 = .ok (.iconst (-1), 1) := by decide +kernel
theorem dX4_extraFor_162 : decode cX4_extraFor 162 = .ok (.ireturn, 1) := by decide +kernel
theorem dX4_extraFor_163 : decode cX4_extraFor 163 = .ok (.iinc 4 1, 3) := by decide +kernel
theorem dX4_extraFor_166 : decode cX4_extraFor 166 = .ok (.goto (-80), 3) := by decide +kernel
theorem dX4_extraFor_169 : decode cX4_extraFor 169 = .ok (.iconst (-1), 1) := by decide +kernel
theorem dX4_extraFor_170 : decode cX4_extraFor 170 = .ok (.ireturn, 1) := by decide +kernel
theorem dX4_run_0 : decode cX4_run 0 = .ok (.iconst 0, 1) := by decide +kernel
theorem dX4_run_1 : decode cX4_run 1 = .ok (.istore_n 3, 1) := by decide +kernel
theorem dX4_run_2 : decode cX4_run 2 = .ok (.aload_n 0, 1) := by decide +kernel
theorem dX4_run_3 : decode cX4_run 3 = .ok (.iconst 0, 1) := by decide +kernel
theorem dX4_run_4 : decode cX4_run 4 = .ok (.putfield 56, 3) := by decide +kernel
theorem dX4_run_7 : decode cX4_run 7 = .ok (.iload_n 1, 1) := by decide +kernel
theorem dX4_run_8 : decode cX4_run 8 = .ok (.istore 4, 2) := by decide +kernel
theorem dX4_run_10 : decode cX4_run 10 = .ok (.iconst 0, 1) := by decide +kernel
theorem dX4_run_11 : decode cX4_run 11 = .ok (.istore 5, 2) := by decide +kernel
theorem dX4_run_13 : decode cX4_run 13 = .ok (.iload 5, 2) := by decide +kernel
theorem dX4_run_15 : decode cX4_run 15 = .ok (.sipush 160, 3) := by decide +kernel
theorem dX4_run_18 : decode cX4_run 18 = .ok (.if_icmp .ge 246, 3) := by decide +kernel
theorem dX4_run_21 : decode cX4_run 21 = .ok (.iload 4, 2) := by decide +kernel
theorem dX4_run_23 : decode cX4_run 23 = .ok (.ifCond .lt 241, 3) := by decide +kernel
theorem dX4_run_26 : decode cX4_run 26 = .ok (.iload 4, 2) := by decide +kernel
theorem dX4_run_28 : decode cX4_run 28 = .ok (.iload_n 2, 1) := by decide +kernel
theorem dX4_run_29 : decode cX4_run 29 = .ok (.if_icmp .ge 235, 3) := by decide +kernel
theorem dX4_run_32 : decode cX4_run 32 = .ok (.iload 4, 2) := by decide +kernel
theorem dX4_run_34 : decode cX4_run 34 = .ok (.sipush 160, 3) := by decide +kernel
theorem dX4_run_37 : decode cX4_run 37 = .ok (.if_icmp .ge 227, 3) := by decide +kernel
theorem dX4_run_40 : decode cX4_run 40 = .ok (.aload_n 0, 1) := by decide +kernel
theorem dX4_run_41 : decode cX4_run 41 = .ok (.getfield 11, 3) := by decide +kernel
theorem dX4_run_44 : decode cX4_run 44 = .ok (.iload 4, 2) := by decide +kernel
theorem dX4_run_46 : decode cX4_run 46 = .ok (.iaload, 1) := by decide +kernel
theorem dX4_run_47 : decode cX4_run 47 = .ok (.istore 6, 2) := by decide +kernel
theorem dX4_run_49 : decode cX4_run 49 = .ok (.iload 4, 2) := by decide +kernel
theorem dX4_run_51 : decode cX4_run 51 = .ok (.iconst 1, 1) := by decide +kernel
theorem dX4_run_52 : decode cX4_run 52 = .ok (.iadd, 1) := by decide +kernel
theorem dX4_run_53 : decode cX4_run 53 = .ok (.istore 7, 2) := by decide +kernel
theorem dX4_run_55 : decode cX4_run 55 = .ok (.iload 6, 2) := by decide +kernel
theorem dX4_run_57 : decode cX4_run 57 = .ok (.ifCond .eq 9, 3) := by decide +kernel
theorem dX4_run_60 : decode cX4_run 60 = .ok (.iload 6, 2) := by decide +kernel
theorem dX4_run_62 : decode cX4_run 62 = .ok (.iconst 1, 1) := by decide +kernel
theorem dX4_run_63 : decode cX4_run 63 = .ok (.if_icmp .ne 51, 3) := by decide +kernel
theorem dX4_run_66 : decode cX4_run 66 = .ok (.iload_n 3, 1) := by decide +kernel
theorem dX4_run_67 : decode cX4_run 67 = .ok (.bipush 24, 2) := by decide +kernel
theorem dX4_run_69 : decode cX4_run 69 = .ok (.if_icmp .ge 176, 3) := by decide +kernel
theorem dX4_run_72 : decode cX4_run 72 = .ok (.aload_n 0, 1) := by decide +kernel
theorem dX4_run_73 : decode cX4_run 73 = .ok (.getfield 30, 3) := by decide +kernel
theorem dX4_run_76 : decode cX4_run 76 = .ok (.iload_n 3, 1) := by decide +kernel
theorem dX4_run_77 : decode cX4_run 77 = .ok (.iload 6, 2) := by decide +kernel
theorem dX4_run_79 : decode cX4_run 79 = .ok (.ifCond .ne 13, 3) := by decide +kernel
theorem dX4_run_82 : decode cX4_run 82 = .ok (.aload_n 0, 1) := by decide +kernel
theorem dX4_run_83 : decode cX4_run 83 = .ok (.getfield 15, 3) := by decide +kernel
theorem dX4_run_86 : decode cX4_run 86 = .ok (.iload 4, 2) := by decide +kernel
theorem dX4_run_88 : decode cX4_run 88 = .ok (.iaload, 1) := by decide +kernel
theorem dX4_run_89 : decode cX4_run 89 = .ok (.goto 18, 3) := by decide +kernel
theorem dX4_run_92 : decode cX4_run 92 = .ok (.aload_n 0, 1) := by decide +kernel
theorem dX4_run_93 : decode cX4_run 93 = .ok (.getfield 27, 3) := by decide +kernel
theorem dX4_run_96 : decode cX4_run 96 = .ok (.aload_n 0, 1) := by decide +kernel
theorem dX4_run_97 : decode cX4_run 97 = .ok (.getfield 15, 3) := by decide +kernel
theorem dX4_run_100 : decode cX4_run 100 = .ok (.iload 4, 2) := by decide +kernel
theorem dX4_run_102 : decode cX4_run 102 = .ok (.iaload, 1) := by decide +kernel
theorem dX4_run_103 : decode cX4_run 103 = .ok (.bipush 7, 2) := by decide +kernel
theorem dX4_run_105 : decode cX4_run 105 = .ok (.iand, 1) := by decide +kernel
theorem dX4_run_106 : decode cX4_run 106 = .ok (.iaload, 1) := by decide +kernel
theorem dX4_run_107 : decode cX4_run 107 = .ok (.iastore, 1) := by decide +kernel
theorem dX4_run_108 : decode cX4_run 108 = .ok (.iinc 3 1, 3) := by decide +kernel
theorem dX4_run_111 : decode cX4_run 111 = .ok (.goto 134, 3) := by decide +kernel
theorem dX4_run_114 : decode cX4_run 114 = .ok (.iload_n 3, 1) := by decide +kernel
theorem dX4_run_115 : decode cX4_run 115 = .ok (.ifCond .le 130, 3) := by decide +kernel
theorem dX4_run_118 : decode cX4_run 118 = .ok (.iload_n 3, 1) := by decide +kernel
theorem dX4_run_119 : decode cX4_run 119 = .ok (.bipush 24, 2) := by decide +kernel
theorem dX4_run_121 : decode cX4_run 121 = .ok (.if_icmp .gt 124, 3) := by decide +kernel
theorem dX4_run_124 : decode cX4_run 124 = .ok (.aload_n 0, 1) := by decide +kernel
theorem dX4_run_125 : decode cX4_run 125 = .ok (.getfield 30, 3) := by decide +kernel
theorem dX4_run_128 : decode cX4_run 128 = .ok (.iload_n 3, 1) := by decide +kernel
theorem dX4_run_129 : decode cX4_run 129 = .ok (.iconst 1, 1) := by decide +kernel
theorem dX4_run_130 : decode cX4_run 130 = .ok (.isub, 1) := by decide +kernel
theorem dX4_run_131 : decode cX4_run 131 = .ok (.iaload, 1) := by decide +kernel
theorem dX4_run_132 : decode cX4_run 132 = .ok (.istore 8, 2) := by decide +kernel
theorem dX4_run_134 : decode cX4_run 134 = .ok (.iload 6, 2) := by decide +kernel
theorem dX4_run_136 : decode cX4_run 136 = .ok (.bipush 10, 2) := by decide +kernel
theorem dX4_run_138 : decode cX4_run 138 = .ok (.if_icmp .ne 18, 3) := by decide +kernel
theorem dX4_run_141 : decode cX4_run 141 = .ok (.aload_n 0, 1) := by decide +kernel
theorem dX4_run_142 : decode cX4_run 142 = .ok (.getfield 30, 3) := by decide +kernel
theorem dX4_run_145 : decode cX4_run 145 = .ok (.iload_n 3, 1) := by decide +kernel
theorem dX4_run_146 : decode cX4_run 146 = .ok (.iconst 1, 1) := by decide +kernel
theorem dX4_run_147 : decode cX4_run 147 = .ok (.isub, 1) := by decide +kernel
theorem dX4_run_148 : decode cX4_run 148 = .ok (.iconst 1, 1) := by decide +kernel
theorem dX4_run_149 : decode cX4_run 149 = .ok (.iload 8, 2) := by decide +kernel
theorem dX4_run_151 : decode cX4_run 151 = .ok (.isub, 1) := by decide +kernel
theorem dX4_run_152 : decode cX4_run 152 = .ok (.iastore, 1) := by decide +kernel
theorem dX4_run_153 : decode cX4_run 153 = .ok (.goto 92, 3) := by decide +kernel
theorem dX4_run_156 : decode cX4_run 156 = .ok (.iload 6, 2) := by decide +kernel
theorem dX4_run_158 : decode cX4_run 158 = .ok (.bipush 11, 2) := by decide +kernel
theorem dX4_run_160 : decode cX4_run 160 = .ok (.if_icmp .eq 10, 3) := by decide +kernel
theorem dX4_run_163 : decode cX4_run 163 = .ok (.iload 6, 2) := by decide +kernel
theorem dX4_run_165 : decode cX4_run 165 = .ok (.bipush 12, 2) := by decide +kernel
theorem dX4_run_167 : decode cX4_run 167 = .ok (.if_icmp .ne 46, 3) := by decide +kernel
theorem dX4_run_170 : decode cX4_run 170 = .ok (.iload 8, 2) := by decide +kernel
theorem dX4_run_172 : decode cX4_run 172 = .ok (.ifCond .eq 7, 3) := by decide +kernel
theorem dX4_run_175 : decode cX4_run 175 = .ok (.iconst 1, 1) := by decide +kernel
theorem dX4_run_176 : decode cX4_run 176 = .ok (.goto 4, 3) := by decide +kernel
theorem dX4_run_179 : decode cX4_run 179 = .ok (.iconst 0, 1) := by decide +kernel
theorem dX4_run_180 : decode cX4_run 180 = .ok (.iload 6, 2) := by decide +kernel
theorem dX4_run_182 : decode cX4_run 182 = .ok (.bipush 11, 2) := by decide +kernel
theorem dX4_run_184 : decode cX4_run 184 = .ok (.if_icmp .ne 7, 3) := by decide +kernel
theorem dX4_run_187 : decode cX4_run 187 = .ok (.iconst 1, 1) := by decide +kernel
theorem dX4_run_188 : decode cX4_run 188 = .ok (.goto 4, 3) := by decide +kernel
theorem dX4_run_191 : decode cX4_run 191 = .ok (.iconst 0, 1) := by decide +kernel
theorem dX4_run_192 : decode cX4_run 192 = .ok (.if_icmp .ne 15, 3) := by decide +kernel
theorem dX4_run_195 : decode cX4_run 195 = .ok (.aload_n 0, 1) := by decide +kernel
theorem dX4_run_196 : decode cX4_run 196 = .ok (.getfield 15, 3) := by decide +kernel
theorem dX4_run_199 : decode cX4_run 199 = .ok (.iload 4, 2) := by decide +kernel
theorem dX4_run_201 : decode cX4_run 201 = .ok (.iaload, 1) := by decide +kernel
theorem dX4_run_202 : decode cX4_run 202 = .ok (.istore 7, 2) := by decide +kernel
theorem dX4_run_204 : decode cX4_run 204 = .ok (.goto 41, 3) := by decide +kernel
theorem dX4_run_207 : decode cX4_run 207 = .ok (.iinc 3 (-1), 3) := by decide +kernel
theorem dX4_run_210 : decode cX4_run 210 = .ok (.goto 35, 3) := by decide +kernel
theorem dX4_run_213 : decode cX4_run 213 = .ok (.iload_n 3, 1) := by decide +kernel
theorem dX4_run_214 : decode cX4_run 214 = .ok (.iconst 1, 1) := by decide +kernel
theorem dX4_run_215 : decode cX4_run 215 = .ok (.if_icmp .le 30, 3) := by decide +kernel
theorem dX4_run_218 : decode cX4_run 218 = .ok (.iinc 3 (-1), 3) := by decide +kernel
theorem dX4_run_221 : decode cX4_run 221 = .ok (.aload_n 0, 1) := by decide +kernel
theorem dX4_run_222 : decode cX4_run 222 = .ok (.getfield 30, 3) := by decide +kernel
theorem dX4_run_225 : decode cX4_run 225 = .ok (.iload_n 3, 1) := by decide +kernel
theorem dX4_run_226 : decode cX4_run 226 = .ok (.iconst 1, 1) := by decide +kernel
theorem dX4_run_227 : decode cX4_run 227 = .ok (.isub, 1) := by decide +kernel
theorem dX4_run_228 : decode cX4_run 228 = .ok (.aload_n 0, 1) := by decide +kernel
theorem dX4_run_229 : decode cX4_run 229 = .ok (.iload 6, 2) := by decide +kernel
theorem dX4_run_231 : decode cX4_run 231 = .ok (.aload_n 0, 1) := by decide +kernel
theorem dX4_run_232 : decode cX4_run 232 = .ok (.getfield 30, 3) := by decide +kernel
theorem dX4_run_235 : decode cX4_run 235 = .ok (.iload_n 3, 1) := by decide +kernel
theorem dX4_run_236 : decode cX4_run 236 = .ok (.iconst 1, 1) := by decide +kernel
theorem dX4_run_237 : decode cX4_run 237 = .ok (.isub, 1) := by decide +kernel
theorem dX4_run_238 : decode cX4_run 238 = .ok (.iaload, 1) := by decide +kernel
theorem dX4_run_239 : decode cX4_run 239 = .ok (.iload 8, 2) := by decide +kernel
theorem dX4_run_241 : decode cX4_run 241 = .ok (.invokevirtual 60, 3) := by decide +kernel
theorem dX4_run_244 : decode cX4_run 244 = .ok (.iastore, 1) := by decide +kernel
theorem dX4_run_245 : decode cX4_run 245 = .ok (.aload_n 0, 1) := by decide +kernel
theorem dX4_run_246 : decode cX4_run 246 = .ok (.getfield 56, 3) := by decide +kernel
theorem dX4_run_249 : decode cX4_run 249 = .ok (.ifCond .eq 5, 3) := by decide +kernel
theorem dX4_run_252 : decode cX4_run 252 = .ok (.iconst 0, 1) := by decide +kernel
theorem dX4_run_253 : decode cX4_run 253 = .ok (.ireturn, 1) := by decide +kernel
theorem dX4_run_254 : decode cX4_run 254 = .ok (.iload 7, 2) := by decide +kernel
theorem dX4_run_256 : decode cX4_run 256 = .ok (.istore 4, 2) := by decide +kernel
theorem dX4_run_258 : decode cX4_run 258 = .ok (.iinc 5 1, 3) := by decide +kernel
theorem dX4_run_261 : decode cX4_run 261 = .ok (.goto (-248), 3) := by decide +kernel
theorem dX4_run_264 : decode cX4_run 264 = .ok (.iload_n 3, 1) := by decide +kernel
theorem dX4_run_265 : decode cX4_run 265 = .ok (.ifCond .le 12, 3) := by decide +kernel
theorem dX4_run_268 : decode cX4_run 268 = .ok (.aload_n 0, 1) := by decide +kernel
theorem dX4_run_269 : decode cX4_run 269 = .ok (.getfield 30, 3) := by decide +kernel
theorem dX4_run_272 : decode cX4_run 272 = .ok (.iconst 0, 1) := by decide +kernel
theorem dX4_run_273 : decode cX4_run 273 = .ok (.iaload, 1) := by decide +kernel
theorem dX4_run_274 : decode cX4_run 274 = .ok (.goto 4, 3) := by decide +kernel
theorem dX4_run_277 : decode cX4_run 277 = .ok (.iconst 0, 1) := by decide +kernel
theorem dX4_run_278 : decode cX4_run 278 = .ok (.ireturn, 1) := by decide +kernel
theorem dX4_joined_0 : decode cX4_joined 0 = .ok (.iload_n 1, 1) := by decide +kernel
theorem dX4_joined_1 : decode cX4_joined 1 = .ok (.tableswitch 92 2 9 #[47, 51, 55, 92, 92, 59, 70, 81], 47) := by decide +kernel
theorem dX4_joined_48 : decode cX4_joined 48 = .ok (.iload_n 2, 1) := by decide +kernel
theorem dX4_joined_49 : decode cX4_joined 49 = .ok (.iload_n 3, 1) := by decide +kernel
theorem dX4_joined_50 : decode cX4_joined 50 = .ok (.iadd, 1) := by decide +kernel
theorem dX4_joined_51 : decode cX4_joined 51 = .ok (.ireturn, 1) := by decide +kernel
theorem dX4_joined_52 : decode cX4_joined 52 = .ok (.iload_n 2, 1) := by decide +kernel
theorem dX4_joined_53 : decode cX4_joined 53 = .ok (.iload_n 3, 1) := by decide +kernel
theorem dX4_joined_54 : decode cX4_joined 54 = .ok (.isub, 1) := by decide +kernel
theorem dX4_joined_55 : decode cX4_joined 55 = .ok (.ireturn, 1) := by decide +kernel
theorem dX4_joined_56 : decode cX4_joined 56 = .ok (.iload_n 2, 1) := by decide +kernel
theorem dX4_joined_57 : decode cX4_joined 57 = .ok (.iload_n 3, 1) := by decide +kernel
theorem dX4_joined_58 : decode cX4_joined 58 = .ok (.imul, 1) := by decide +kernel
theorem dX4_joined_59 : decode cX4_joined 59 = .ok (.ireturn, 1) := by decide +kernel
theorem dX4_joined_60 : decode cX4_joined 60 = .ok (.iload_n 2, 1) := by decide +kernel
theorem dX4_joined_61 : decode cX4_joined 61 = .ok (.iload_n 3, 1) := by decide +kernel
theorem dX4_joined_62 : decode cX4_joined 62 = .ok (.if_icmp .ge 7, 3) := by decide +kernel
theorem dX4_joined_65 : decode cX4_joined 65 = .ok (.iconst 1, 1) := by decide +kernel
theorem dX4_joined_66 : decode cX4_joined 66 = .ok (.goto 4, 3) := by decide +kernel
theorem dX4_joined_69 : decode cX4_joined 69 = .ok (.iconst 0, 1) := by decide +kernel
theorem dX4_joined_70 : decode cX4_joined 70 = .ok (.ireturn, 1) := by decide +kernel
theorem dX4_joined_71 : decode cX4_joined 71 = .ok (.iload_n 2, 1) := by decide +kernel
theorem dX4_joined_72 : decode cX4_joined 72 = .ok (.iload_n 3, 1) := by decide +kernel
theorem dX4_joined_73 : decode cX4_joined 73 = .ok (.if_icmp .le 7, 3) := by decide +kernel
theorem dX4_joined_76 : decode cX4_joined 76 = .ok (.iconst 1, 1) := by decide +kernel
theorem dX4_joined_77 : decode cX4_joined 77 = .ok (.goto 4, 3) := by decide +kernel
theorem dX4_joined_80 : decode cX4_joined 80 = .ok (.iconst 0, 1) := by decide +kernel
theorem dX4_joined_81 : decode cX4_joined 81 = .ok (.ireturn, 1) := by decide +kernel
theorem dX4_joined_82 : decode cX4_joined 82 = .ok (.iload_n 2, 1) := by decide +kernel
theorem dX4_joined_83 : decode cX4_joined 83 = .ok (.iload_n 3, 1) := by decide +kernel
theorem dX4_joined_84 : decode cX4_joined 84 = .ok (.if_icmp .ne 7, 3) := by decide +kernel
theorem dX4_joined_87 : decode cX4_joined 87 = .ok (.iconst 1, 1) := by decide +kernel
theorem dX4_joined_88 : decode cX4_joined 88 = .ok (.goto 4, 3) := by decide +kernel
theorem dX4_joined_91 : decode cX4_joined 91 = .ok (.iconst 0, 1) := by decide +kernel
theorem dX4_joined_92 : decode cX4_joined 92 = .ok (.ireturn, 1) := by decide +kernel
theorem dX4_joined_93 : decode cX4_joined 93 = .ok (.iload_n 3, 1) := by decide +kernel
theorem dX4_joined_94 : decode cX4_joined 94 = .ok (.ifCond .ne 10, 3) := by decide +kernel
theorem dX4_joined_97 : decode cX4_joined 97 = .ok (.aload_n 0, 1) := by decide +kernel
theorem dX4_joined_98 : decode cX4_joined 98 = .ok (.iconst 1, 1) := by decide +kernel
theorem dX4_joined_99 : decode cX4_joined 99 = .ok (.putfield 56, 3) := by decide +kernel
theorem dX4_joined_102 : decode cX4_joined 102 = .ok (.iconst 0, 1) := by decide +kernel
theorem dX4_joined_103 : decode cX4_joined 103 = .ok (.ireturn, 1) := by decide +kernel
theorem dX4_joined_104 : decode cX4_joined 104 = .ok (.iload_n 1, 1) := by decide +kernel
theorem dX4_joined_105 : decode cX4_joined 105 = .ok (.iconst 5, 1) := by decide +kernel
theorem dX4_joined_106 : decode cX4_joined 106 = .ok (.if_icmp .ne 9, 3) := by decide +kernel
theorem dX4_joined_109 : decode cX4_joined 109 = .ok (.iload_n 2, 1) := by decide +kernel
theorem dX4_joined_110 : decode cX4_joined 110 = .ok (.iload_n 3, 1) := by decide +kernel
theorem dX4_joined_111 : decode cX4_joined 111 = .ok (.idiv, 1) := by decide +kernel
theorem dX4_joined_112 : decode cX4_joined 112 = .ok (.goto 6, 3) := by decide +kernel
theorem dX4_joined_115 : decode cX4_joined 115 = .ok (.iload_n 2, 1) := by decide +kernel
theorem dX4_joined_116 : decode cX4_joined 116 = .ok (.iload_n 3, 1) := by decide +kernel
theorem dX4_joined_117 : decode cX4_joined 117 = .ok (.irem, 1) := by decide +kernel
theorem dX4_joined_118 : decode cX4_joined 118 = .ok (.ireturn, 1) := by decide +kernel
theorem dX5_init_0 : decode cX5_init 0 = .ok (.aload_n 0, 1) := by decide +kernel
theorem dX5_init_1 : decode cX5_init 1 = .ok (.invokespecial 3, 3) := by decide +kernel
theorem dX5_init_4 : decode cX5_init 4 = .ok (.aload_n 0, 1) := by decide +kernel
theorem dX5_init_5 : decode cX5_init 5 = .ok (.new 9, 3) := by decide +kernel
theorem dX5_init_8 : decode cX5_init 8 = .ok (.dup, 1) := by decide +kernel
theorem dX5_init_9 : decode cX5_init 9 = .ok (.invokespecial 11, 3) := by decide +kernel
theorem dX5_init_12 : decode cX5_init 12 = .ok (.putfield 12, 3) := by decide +kernel
theorem dX5_init_15 : decode cX5_init 15 = .ok (.aload_n 0, 1) := by decide +kernel
theorem dX5_init_16 : decode cX5_init 16 = .ok (.aload_n 1, 1) := by decide +kernel
theorem dX5_init_17 : decode cX5_init 17 = .ok (.putfield 18, 3) := by decide +kernel
theorem dX5_init_20 : decode cX5_init 20 = .ok (.return_, 1) := by decide +kernel
theorem dX5_read_0 : decode cX5_read 0 = .ok (.aload_n 0, 1) := by decide +kernel
theorem dX5_read_1 : decode cX5_read 1 = .ok (.getfield 18, 3) := by decide +kernel
theorem dX5_read_4 : decode cX5_read 4 = .ok (.iload_n 1, 1) := by decide +kernel
theorem dX5_read_5 : decode cX5_read 5 = .ok (.invokevirtual 22, 3) := by decide +kernel
theorem dX5_read_8 : decode cX5_read 8 = .ok (.aload_n 0, 1) := by decide +kernel
theorem dX5_read_9 : decode cX5_read 9 = .ok (.getfield 12, 3) := by decide +kernel
theorem dX5_read_12 : decode cX5_read 12 = .ok (.invokevirtual 28, 3) := by decide +kernel
theorem dX5_read_15 : decode cX5_read 15 = .ok (.iconst 0, 1) := by decide +kernel
theorem dX5_read_16 : decode cX5_read 16 = .ok (.istore_n 2, 1) := by decide +kernel
theorem dX5_read_17 : decode cX5_read 17 = .ok (.iload_n 2, 1) := by decide +kernel
theorem dX5_read_18 : decode cX5_read 18 = .ok (.bipush 12, 2) := by decide +kernel
theorem dX5_read_20 : decode cX5_read 20 = .ok (.if_icmp .gt 132, 3) := by decide +kernel
theorem dX5_read_23 : decode cX5_read 23 = .ok (.aload_n 0, 1) := by decide +kernel
theorem dX5_read_24 : decode cX5_read 24 = .ok (.getfield 18, 3) := by decide +kernel
theorem dX5_read_27 : decode cX5_read 27 = .ok (.getfield 31, 3) := by decide +kernel
theorem dX5_read_30 : decode cX5_read 30 = .ok (.ifCond .ne 122, 3) := by decide +kernel
theorem dX5_read_33 : decode cX5_read 33 = .ok (.iload_n 2, 1) := by decide +kernel
theorem dX5_read_34 : decode cX5_read 34 = .ok (.bipush 12, 2) := by decide +kernel
theorem dX5_read_36 : decode cX5_read 36 = .ok (.if_icmp .ne 23, 3) := by decide +kernel
theorem dX5_read_39 : decode cX5_read 39 = .ok (.aload_n 0, 1) := by decide +kernel
theorem dX5_read_40 : decode cX5_read 40 = .ok (.getfield 18, 3) := by decide +kernel
theorem dX5_read_43 : decode cX5_read 43 = .ok (.invokevirtual 35, 3) := by decide +kernel
theorem dX5_read_46 : decode cX5_read 46 = .ok (.bipush 107, 2) := by decide +kernel
theorem dX5_read_48 : decode cX5_read 48 = .ok (.if_icmp .ne 11, 3) := by decide +kernel
theorem dX5_read_51 : decode cX5_read 51 = .ok (.aload_n 0, 1) := by decide +kernel
theorem dX5_read_52 : decode cX5_read 52 = .ok (.getfield 18, 3) := by decide +kernel
theorem dX5_read_55 : decode cX5_read 55 = .ok (.iconst 4, 1) := by decide +kernel
theorem dX5_read_56 : decode cX5_read 56 = .ok (.invokevirtual 39, 3) := by decide +kernel
theorem dX5_read_59 : decode cX5_read 59 = .ok (.aload_n 0, 1) := by decide +kernel
theorem dX5_read_60 : decode cX5_read 60 = .ok (.getfield 18, 3) := by decide +kernel
theorem dX5_read_63 : decode cX5_read 63 = .ok (.bipush 107, 2) := by decide +kernel
theorem dX5_read_65 : decode cX5_read 65 = .ok (.invokevirtual 42, 3) := by decide +kernel
theorem dX5_read_68 : decode cX5_read 68 = .ok (.aload_n 0, 1) := by decide +kernel
theorem dX5_read_69 : decode cX5_read 69 = .ok (.getfield 12, 3) := by decide +kernel
theorem dX5_read_72 : decode cX5_read 72 = .ok (.invokevirtual 45, 3) := by decide +kernel
theorem dX5_read_75 : decode cX5_read 75 = .ok (.aload_n 0, 1) := by decide +kernel
theorem dX5_read_76 : decode cX5_read 76 = .ok (.iconst 0, 1) := by decide +kernel
theorem dX5_read_77 : decode cX5_read 77 = .ok (.iconst 0, 1) := by decide +kernel
theorem dX5_read_78 : decode cX5_read 78 = .ok (.invokevirtual 48, 3) := by decide +kernel
theorem dX5_read_81 : decode cX5_read 81 = .ok (.aload_n 0, 1) := by decide +kernel
theorem dX5_read_82 : decode cX5_read 82 = .ok (.getfield 18, 3) := by decide +kernel
theorem dX5_read_85 : decode cX5_read 85 = .ok (.bipush 40, 2) := by decide +kernel
theorem dX5_read_87 : decode cX5_read 87 = .ok (.invokevirtual 42, 3) := by decide +kernel
theorem dX5_read_90 : decode cX5_read 90 = .ok (.aload_n 0, 1) := by decide +kernel
theorem dX5_read_91 : decode cX5_read 91 = .ok (.getfield 12, 3) := by decide +kernel
theorem dX5_read_94 : decode cX5_read 94 = .ok (.invokevirtual 52, 3) := by decide +kernel
theorem dX5_read_97 : decode cX5_read 97 = .ok (.aload_n 0, 1) := by decide +kernel
theorem dX5_read_98 : decode cX5_read 98 = .ok (.iconst 0, 1) := by decide +kernel
theorem dX5_read_99 : decode cX5_read 99 = .ok (.iconst 1, 1) := by decide +kernel
theorem dX5_read_100 : decode cX5_read 100 = .ok (.invokevirtual 55, 3) := by decide +kernel
theorem dX5_read_103 : decode cX5_read 103 = .ok (.aload_n 0, 1) := by decide +kernel
theorem dX5_read_104 : decode cX5_read 104 = .ok (.getfield 18, 3) := by decide +kernel
theorem dX5_read_107 : decode cX5_read 107 = .ok (.bipush 41, 2) := by decide +kernel
theorem dX5_read_109 : decode cX5_read 109 = .ok (.invokevirtual 42, 3) := by decide +kernel
theorem dX5_read_112 : decode cX5_read 112 = .ok (.aload_n 0, 1) := by decide +kernel
theorem dX5_read_113 : decode cX5_read 113 = .ok (.getfield 12, 3) := by decide +kernel
theorem dX5_read_116 : decode cX5_read 116 = .ok (.invokevirtual 58, 3) := by decide +kernel
theorem dX5_read_119 : decode cX5_read 119 = .ok (.aload_n 0, 1) := by decide +kernel
theorem dX5_read_120 : decode cX5_read 120 = .ok (.getfield 18, 3) := by decide +kernel
theorem dX5_read_123 : decode cX5_read 123 = .ok (.invokevirtual 61, 3) := by decide +kernel
theorem dX5_read_126 : decode cX5_read 126 = .ok (.ifCond .eq 11, 3) := by decide +kernel
theorem dX5_read_129 : decode cX5_read 129 = .ok (.aload_n 0, 1) := by decide +kernel
theorem dX5_read_130 : decode cX5_read 130 = .ok (.getfield 12, 3) := by decide +kernel
theorem dX5_read_133 : decode cX5_read 133 = .ok (.getfield 65, 3) := by decide +kernel
theorem dX5_read_136 : decode cX5_read 136 = .ok (.ireturn, 1) := by decide +kernel
theorem dX5_read_137 : decode cX5_read 137 = .ok (.aload_n 0, 1) := by decide +kernel
theorem dX5_read_138 : decode cX5_read 138 = .ok (.getfield 18, 3) := by decide +kernel
theorem dX5_read_141 : decode cX5_read 141 = .ok (.bipush 59, 2) := by decide +kernel
theorem dX5_read_143 : decode cX5_read 143 = .ok (.invokevirtual 42, 3) := by decide +kernel
theorem dX5_read_146 : decode cX5_read 146 = .ok (.iinc 2 1, 3) := by decide +kernel
theorem dX5_read_149 : decode cX5_read 149 = .ok (.goto (-132), 3) := by decide +kernel
theorem dX5_read_152 : decode cX5_read 152 = .ok (.aload_n 0, 1) := by decide +kernel
theorem dX5_read_153 : decode cX5_read 153 = .ok (.getfield 18, 3) := by decide +kernel
theorem dX5_read_156 : decode cX5_read 156 = .ok (.getfield 31, 3) := by decide +kernel
theorem dX5_read_159 : decode cX5_read 159 = .ok (.ireturn, 1) := by decide +kernel
theorem dX5_condition_0 : decode cX5_condition 0 = .ok (.iload_n 1, 1) := by decide +kernel
theorem dX5_condition_1 : decode cX5_condition 1 = .ok (.ifCond .ne 8, 3) := by decide +kernel
theorem dX5_condition_4 : decode cX5_condition 4 = .ok (.bipush 124, 2) := by decide +kernel
theorem dX5_condition_6 : decode cX5_condition 6 = .ok (.goto 5, 3) := by decide +kernel
theorem dX5_condition_9 : decode cX5_condition 9 = .ok (.bipush 38, 2) := by decide +kernel
theorem dX5_condition_11 : decode cX5_condition 11 = .ok (.istore_n 3, 1) := by decide +kernel
theorem dX5_condition_12 : decode cX5_condition 12 = .ok (.iconst (-1), 1) := by decide +kernel
theorem dX5_condition_13 : decode cX5_condition 13 = .ok (.istore 4, 2) := by decide +kernel
theorem dX5_condition_15 : decode cX5_condition 15 = .ok (.iconst 1, 1) := by decide +kernel
theorem dX5_condition_16 : decode cX5_condition 16 = .ok (.istore 5, 2) := by decide +kernel
theorem dX5_condition_18 : decode cX5_condition 18 = .ok (.iconst 0, 1) := by decide +kernel
theorem dX5_condition_19 : decode cX5_condition 19 = .ok (.istore 6, 2) := by decide +kernel
theorem dX5_condition_21 : decode cX5_condition 21 = .ok (.iload 6, 2) := by decide +kernel
theorem dX5_condition_23 : decode cX5_condition 23 = .ok (.sipush 160, 3) := by decide +kernel
theorem dX5_condition_26 : decode cX5_condition 26 = .ok (.if_icmp .ge 92, 3) := by decide +kernel
theorem dX5_condition_29 : decode cX5_condition 29 = .ok (.iload 5, 2) := by decide +kernel
theorem dX5_condition_31 : decode cX5_condition 31 = .ok (.ifCond .eq 87, 3) := by decide +kernel
theorem dX5_condition_34 : decode cX5_condition 34 = .ok (.iload_n 1, 1) := by decide +kernel
theorem dX5_condition_35 : decode cX5_condition 35 = .ok (.ifCond .ne 12, 3) := by decide +kernel
theorem dX5_condition_38 : decode cX5_condition 38 = .ok (.aload_n 0, 1) := by decide +kernel
theorem dX5_condition_39 : decode cX5_condition 39 = .ok (.iconst 1, 1) := by decide +kernel
theorem dX5_condition_40 : decode cX5_condition 40 = .ok (.iload_n 2, 1) := by decide +kernel
theorem dX5_condition_41 : decode cX5_condition 41 = .ok (.invokevirtual 55, 3) := by decide +kernel
theorem dX5_condition_44 : decode cX5_condition 44 = .ok (.goto 8, 3) := by decide +kernel
theorem dX5_condition_47 : decode cX5_condition 47 = .ok (.aload_n 0, 1) := by decide +kernel
theorem dX5_condition_48 : decode cX5_condition 48 = .ok (.iload_n 2, 1) := by decide +kernel
theorem dX5_condition_49 : decode cX5_condition 49 = .ok (.invokevirtual 68, 3) := by decide +kernel
theorem dX5_condition_52 : decode cX5_condition 52 = .ok (.aload_n 0, 1) := by decide +kernel
theorem dX5_condition_53 : decode cX5_condition 53 = .ok (.getfield 12, 3) := by decide +kernel
theorem dX5_condition_56 : decode cX5_condition 56 = .ok (.iload 4, 2) := by decide +kernel
theorem dX5_condition_58 : decode cX5_condition 58 = .ok (.invokevirtual 71, 3) := by decide +kernel
theorem dX5_condition_61 : decode cX5_condition 61 = .ok (.aload_n 0, 1) := by decide +kernel
theorem dX5_condition_62 : decode cX5_condition 62 = .ok (.getfield 18, 3) := by decide +kernel
theorem dX5_condition_65 : decode cX5_condition 65 = .ok (.invokevirtual 35, 3) := by decide +kernel
theorem dX5_condition_68 : decode cX5_condition 68 = .ok (.iload_n 3, 1) := by decide +kernel
theorem dX5_condition_69 : decode cX5_condition 69 = .ok (.if_icmp .ne 7, 3) := by decide +kernel
theorem dX5_condition_72 : decode cX5_condition 72 = .ok (.iconst 1, 1) := by decide +kernel
theorem dX5_condition_73 : decode cX5_condition 73 = .ok (.goto 4, 3) := by decide +kernel
theorem dX5_condition_76 : decode cX5_condition 76 = .ok (.iconst 0, 1) := by decide +kernel
theorem dX5_condition_77 : decode cX5_condition 77 = .ok (.istore 5, 2) := by decide +kernel
theorem dX5_condition_79 : decode cX5_condition 79 = .ok (.iload 5, 2) := by decide +kernel
theorem dX5_condition_81 : decode cX5_condition 81 = .ok (.ifCond .eq 31, 3) := by decide +kernel
theorem dX5_condition_84 : decode cX5_condition 84 = .ok (.aload_n 0, 1) := by decide +kernel
theorem dX5_condition_85 : decode cX5_condition 85 = .ok (.getfield 18, 3) := by decide +kernel
theorem dX5_condition_88 : decode cX5_condition 88 = .ok (.invokevirtual 74, 3) := by decide +kernel
theorem dX5_condition_91 : decode cX5_condition 91 = .ok (.aload_n 0, 1) := by decide +kernel
theorem dX5_condition_92 : decode cX5_condition 92 = .ok (.getfield 12, 3) := by decide +kernel
theorem dX5_condition_95 : decode cX5_condition 95 = .ok (.iload_n 1, 1) := by decide +kernel
theorem dX5_condition_96 : decode cX5_condition 96 = .ok (.ifCond .ne 8, 3) := by decide +kernel
theorem dX5_condition_99 : decode cX5_condition 99 = .ok (.bipush 11, 2) := by decide +kernel
theorem dX5_condition_101 : decode cX5_condition 101 = .ok (.goto 5, 3) := by decide +kernel
theorem dX5_condition_104 : decode cX5_condition 104 = .ok (.bipush 12, 2) := by decide +kernel
theorem dX5_condition_106 : decode cX5_condition 106 = .ok (.iconst 0, 1) := by decide +kernel
theorem dX5_condition_107 : decode cX5_condition 107 = .ok (.invokevirtual 77, 3) := by decide +kernel
theorem dX5_condition_110 : decode cX5_condition 110 = .ok (.istore 4, 2) := by decide +kernel
theorem dX5_condition_112 : decode cX5_condition 112 = .ok (.iinc 6 1, 3) := by decide +kernel
theorem dX5_condition_115 : decode cX5_condition 115 = .ok (.goto (-94), 3) := by decide +kernel
theorem dX5_condition_118 : decode cX5_condition 118 = .ok (.return_, 1) := by decide +kernel
theorem dX5_piece_0 : decode cX5_piece 0 = .ok (.aload_n 0, 1) := by decide +kernel
theorem dX5_piece_1 : decode cX5_piece 1 = .ok (.getfield 18, 3) := by decide +kernel
theorem dX5_piece_4 : decode cX5_piece 4 = .ok (.invokevirtual 35, 3) := by decide +kernel
theorem dX5_piece_7 : decode cX5_piece 7 = .ok (.istore_n 2, 1) := by decide +kernel
theorem dX5_piece_8 : decode cX5_piece 8 = .ok (.iload_n 2, 1) := by decide +kernel
theorem dX5_piece_9 : decode cX5_piece 9 = .ok (.bipush 33, 2) := by decide +kernel
theorem dX5_piece_11 : decode cX5_piece 11 = .ok (.if_icmp .ne 35, 3) := by decide +kernel
theorem dX5_piece_14 : decode cX5_piece 14 = .ok (.aload_n 0, 1) := by decide +kernel
theorem dX5_piece_15 : decode cX5_piece 15 = .ok (.getfield 18, 3) := by decide +kernel
theorem dX5_piece_18 : decode cX5_piece 18 = .ok (.iload_n 1, 1) := by decide +kernel
theorem dX5_piece_19 : decode cX5_piece 19 = .ok (.invokevirtual 81, 3) := by decide +kernel
theorem dX5_piece_22 : decode cX5_piece 22 = .ok (.ifCond .eq 138, 3) := by decide +kernel
theorem dX5_piece_25 : decode cX5_piece 25 = .ok (.aload_n 0, 1) := by decide +kernel
theorem dX5_piece_26 : decode cX5_piece 26 = .ok (.iload_n 1, 1) := by decide +kernel
theorem dX5_piece_27 : decode cX5_piece 27 = .ok (.iconst 1, 1) := by decide +kernel
theorem dX5_piece_28 : decode cX5_piece 28 = .ok (.iadd, 1) := by decide +kernel
theorem dX5_piece_29 : decode cX5_piece 29 = .ok (.invokevirtual 68, 3) := by decide +kernel
theorem dX5_piece_32 : decode cX5_piece 32 = .ok (.aload_n 0, 1) := by decide +kernel
theorem dX5_piece_33 : decode cX5_piece 33 = .ok (.getfield 12, 3) := by decide +kernel
theorem dX5_piece_36 : decode cX5_piece 36 = .ok (.bipush 10, 2) := by decide +kernel
theorem dX5_piece_38 : decode cX5_piece 38 = .ok (.iconst 0, 1) := by decide +kernel
theorem dX5_piece_39 : decode cX5_piece 39 = .ok (.invokevirtual 77, 3) := by decide +kernel
theorem dX5_piece_42 : decode cX5_piece 42 = .ok (.pop, 1) := by decide +kernel
theorem dX5_piece_43 : decode cX5_piece 43 = .ok (.goto 117, 3) := by decide +kernel
theorem dX5_piece_46 : decode cX5_piece 46 = .ok (.iload_n 2, 1) := by decide +kernel
theorem dX5_piece_47 : decode cX5_piece 47 = .ok (.bipush 40, 2) := by decide +kernel
theorem dX5_piece_49 : decode cX5_piece 49 = .ok (.if_icmp .ne 34, 3) := by decide +kernel
theorem dX5_piece_52 : decode cX5_piece 52 = .ok (.aload_n 0, 1) := by decide +kernel
theorem dX5_piece_53 : decode cX5_piece 53 = .ok (.getfield 18, 3) := by decide +kernel
theorem dX5_piece_56 : decode cX5_piece 56 = .ok (.iload_n 1, 1) := by decide +kernel
theorem dX5_piece_57 : decode cX5_piece 57 = .ok (.invokevirtual 81, 3) := by decide +kernel
theorem dX5_piece_60 : decode cX5_piece 60 = .ok (.ifCond .eq 100, 3) := by decide +kernel
theorem dX5_piece_63 : decode cX5_piece 63 = .ok (.aload_n 0, 1) := by decide +kernel
theorem dX5_piece_64 : decode cX5_piece 64 = .ok (.iconst 0, 1) := by decide +kernel
theorem dX5_piece_65 : decode cX5_piece 65 = .ok (.iload_n 1, 1) := by decide +kernel
theorem dX5_piece_66 : decode cX5_piece 66 = .ok (.iconst 1, 1) := by decide +kernel
theorem dX5_piece_67 : decode cX5_piece 67 = .ok (.iadd, 1) := by decide +kernel
theorem dX5_piece_68 : decode cX5_piece 68 = .ok (.invokevirtual 55, 3) := by decide +kernel
theorem dX5_piece_71 : decode cX5_piece 71 = .ok (.aload_n 0, 1) := by decide +kernel
theorem dX5_piece_72 : decode cX5_piece 72 = .ok (.getfield 18, 3) := by decide +kernel
theorem dX5_piece_75 : decode cX5_piece 75 = .ok (.bipush 41, 2) := by decide +kernel
theorem dX5_piece_77 : decode cX5_piece 77 = .ok (.invokevirtual 42, 3) := by decide +kernel
theorem dX5_piece_80 : decode cX5_piece 80 = .ok (.goto 80, 3) := by decide +kernel
theorem dX5_piece_83 : decode cX5_piece 83 = .ok (.aload_n 0, 1) := by decide +kernel
theorem dX5_piece_84 : decode cX5_piece 84 = .ok (.iconst 0, 1) := by decide +kernel
theorem dX5_piece_85 : decode cX5_piece 85 = .ok (.iload_n 1, 1) := by decide +kernel
theorem dX5_piece_86 : decode cX5_piece 86 = .ok (.invokevirtual 48, 3) := by decide +kernel
theorem dX5_piece_89 : decode cX5_piece 89 = .ok (.aload_n 0, 1) := by decide +kernel
theorem dX5_piece_90 : decode cX5_piece 90 = .ok (.getfield 18, 3) := by decide +kernel
theorem dX5_piece_93 : decode cX5_piece 93 = .ok (.invokevirtual 35, 3) := by decide +kernel
theorem dX5_piece_96 : decode cX5_piece 96 = .ok (.istore_n 3, 1) := by decide +kernel
theorem dX5_piece_97 : decode cX5_piece 97 = .ok (.iload_n 3, 1) := by decide +kernel
theorem dX5_piece_98 : decode cX5_piece 98 = .ok (.bipush 60, 2) := by decide +kernel
theorem dX5_piece_100 : decode cX5_piece 100 = .ok (.if_icmp .ne 8, 3) := by decide +kernel
theorem dX5_piece_103 : decode cX5_piece 103 = .ok (.bipush 7, 2) := by decide +kernel
theorem dX5_piece_105 : decode cX5_piece 105 = .ok (.goto 16, 3) := by decide +kernel
theorem dX5_piece_108 : decode cX5_piece 108 = .ok (.iload_n 3, 1) := by decide +kernel
theorem dX5_piece_109 : decode cX5_piece 109 = .ok (.bipush 62, 2) := by decide +kernel
theorem dX5_piece_111 : decode cX5_piece 111 = .ok (.if_icmp .ne 8, 3) := by decide +kernel
theorem dX5_piece_114 : decode cX5_piece 114 = .ok (.bipush 8, 2) := by decide +kernel
theorem dX5_piece_116 : decode cX5_piece 116 = .ok (.goto 5, 3) := by decide +kernel
theorem dX5_piece_119 : decode cX5_piece 119 = .ok (.bipush 9, 2) := by decide +kernel
theorem dX5_piece_121 : decode cX5_piece 121 = .ok (.istore 4, 2) := by decide +kernel
theorem dX5_piece_123 : decode cX5_piece 123 = .ok (.aload_n 0, 1) := by decide +kernel
theorem dX5_piece_124 : decode cX5_piece 124 = .ok (.getfield 18, 3) := by decide +kernel
theorem dX5_piece_127 : decode cX5_piece 127 = .ok (.iload 4, 2) := by decide +kernel
theorem dX5_piece_129 : decode cX5_piece 129 = .ok (.bipush 9, 2) := by decide +kernel
theorem dX5_piece_131 : decode cX5_piece 131 = .ok (.if_icmp .ne 8, 3) := by decide +kernel
theorem dX5_piece_134 : decode cX5_piece 134 = .ok (.bipush 61, 2) := by decide +kernel
theorem dX5_piece_136 : decode cX5_piece 136 = .ok (.goto 4, 3) := by decide +kernel
theorem dX5_piece_139 : decode cX5_piece 139 = .ok (.iload_n 3, 1) := by decide +kernel
theorem dX5_piece_140 : decode cX5_piece 140 = .ok (.invokevirtual 42, 3) := by decide +kernel
theorem dX5_piece_143 : decode cX5_piece 143 = .ok (.aload_n 0, 1) := by decide +kernel
theorem dX5_piece_144 : decode cX5_piece 144 = .ok (.iconst 0, 1) := by decide +kernel
theorem dX5_piece_145 : decode cX5_piece 145 = .ok (.iload_n 1, 1) := by decide +kernel
theorem dX5_piece_146 : decode cX5_piece 146 = .ok (.invokevirtual 48, 3) := by decide +kernel
theorem dX5_piece_149 : decode cX5_piece 149 = .ok (.aload_n 0, 1) := by decide +kernel
theorem dX5_piece_150 : decode cX5_piece 150 = .ok (.getfield 12, 3) := by decide +kernel
theorem dX5_piece_153 : decode cX5_piece 153 = .ok (.iload 4, 2) := by decide +kernel
theorem dX5_piece_155 : decode cX5_piece 155 = .ok (.iconst 0, 1) := by decide +kernel
theorem dX5_piece_156 : decode cX5_piece 156 = .ok (.invokevirtual 77, 3) := by decide +kernel
theorem dX5_piece_159 : decode cX5_piece 159 = .ok (.pop, 1) := by decide +kernel
theorem dX5_piece_160 : decode cX5_piece 160 = .ok (.return_, 1) := by decide +kernel
theorem dX5_sum_0 : decode cX5_sum 0 = .ok (.iconst (-1), 1) := by decide +kernel
theorem dX5_sum_1 : decode cX5_sum 1 = .ok (.istore_n 3, 1) := by decide +kernel
theorem dX5_sum_2 : decode cX5_sum 2 = .ok (.iconst 1, 1) := by decide +kernel
theorem dX5_sum_3 : decode cX5_sum 3 = .ok (.istore 4, 2) := by decide +kernel
theorem dX5_sum_5 : decode cX5_sum 5 = .ok (.iconst 0, 1) := by decide +kernel
theorem dX5_sum_6 : decode cX5_sum 6 = .ok (.istore 5, 2) := by decide +kernel
theorem dX5_sum_8 : decode cX5_sum 8 = .ok (.iload 5, 2) := by decide +kernel
theorem dX5_sum_10 : decode cX5_sum 10 = .ok (.sipush 160, 3) := by decide +kernel
theorem dX5_sum_13 : decode cX5_sum 13 = .ok (.if_icmp .ge 99, 3) := by decide +kernel
theorem dX5_sum_16 : decode cX5_sum 16 = .ok (.iload 4, 2) := by decide +kernel
theorem dX5_sum_18 : decode cX5_sum 18 = .ok (.ifCond .eq 94, 3) := by decide +kernel
theorem dX5_sum_21 : decode cX5_sum 21 = .ok (.iload_n 1, 1) := by decide +kernel
theorem dX5_sum_22 : decode cX5_sum 22 = .ok (.ifCond .ne 12, 3) := by decide +kernel
theorem dX5_sum_25 : decode cX5_sum 25 = .ok (.aload_n 0, 1) := by decide +kernel
theorem dX5_sum_26 : decode cX5_sum 26 = .ok (.iconst 1, 1) := by decide +kernel
theorem dX5_sum_27 : decode cX5_sum 27 = .ok (.iload_n 2, 1) := by decide +kernel
theorem dX5_sum_28 : decode cX5_sum 28 = .ok (.invokevirtual 48, 3) := by decide +kernel
theorem dX5_sum_31 : decode cX5_sum 31 = .ok (.goto 8, 3) := by decide +kernel
theorem dX5_sum_34 : decode cX5_sum 34 = .ok (.aload_n 0, 1) := by decide +kernel
theorem dX5_sum_35 : decode cX5_sum 35 = .ok (.iload_n 2, 1) := by decide +kernel
theorem dX5_sum_36 : decode cX5_sum 36 = .ok (.invokevirtual 85, 3) := by decide +kernel
theorem dX5_sum_39 : decode cX5_sum 39 = .ok (.iload_n 3, 1) := by decide +kernel
theorem dX5_sum_40 : decode cX5_sum 40 = .ok (.iconst (-1), 1) := by decide +kernel
theorem dX5_sum_41 : decode cX5_sum 41 = .ok (.if_icmp .eq 13, 3) := by decide +kernel
theorem dX5_sum_44 : decode cX5_sum 44 = .ok (.aload_n 0, 1) := by decide +kernel
theorem dX5_sum_45 : decode cX5_sum 45 = .ok (.getfield 12, 3) := by decide +kernel
theorem dX5_sum_48 : decode cX5_sum 48 = .ok (.iload_n 3, 1) := by decide +kernel
theorem dX5_sum_49 : decode cX5_sum 49 = .ok (.iconst 0, 1) := by decide +kernel
theorem dX5_sum_50 : decode cX5_sum 50 = .ok (.invokevirtual 77, 3) := by decide +kernel
theorem dX5_sum_53 : decode cX5_sum 53 = .ok (.pop, 1) := by decide +kernel
theorem dX5_sum_54 : decode cX5_sum 54 = .ok (.iload_n 1, 1) := by decide +kernel
theorem dX5_sum_55 : decode cX5_sum 55 = .ok (.ifCond .ne 16, 3) := by decide +kernel
theorem dX5_sum_58 : decode cX5_sum 58 = .ok (.aload_n 0, 1) := by decide +kernel
theorem dX5_sum_59 : decode cX5_sum 59 = .ok (.getfield 18, 3) := by decide +kernel
theorem dX5_sum_62 : decode cX5_sum 62 = .ok (.invokevirtual 35, 3) := by decide +kernel
theorem dX5_sum_65 : decode cX5_sum 65 = .ok (.invokestatic 88, 3) := by decide +kernel
theorem dX5_sum_68 : decode cX5_sum 68 = .ok (.goto 13, 3) := by decide +kernel
theorem dX5_sum_71 : decode cX5_sum 71 = .ok (.aload_n 0, 1) := by decide +kernel
theorem dX5_sum_72 : decode cX5_sum 72 = .ok (.getfield 18, 3) := by decide +kernel
theorem dX5_sum_75 : decode cX5_sum 75 = .ok (.invokevirtual 35, 3) := by decide +kernel
theorem dX5_sum_78 : decode cX5_sum 78 = .ok (.invokestatic 92, 3) := by decide +kernel
theorem dX5_sum_81 : decode cX5_sum 81 = .ok (.istore_n 3, 1) := by decide +kernel
theorem dX5_sum_82 : decode cX5_sum 82 = .ok (.iload_n 3, 1) := by decide +kernel
theorem dX5_sum_83 : decode cX5_sum 83 = .ok (.iconst (-1), 1) := by decide +kernel
theorem dX5_sum_84 : decode cX5_sum 84 = .ok (.if_icmp .eq 7, 3) := by decide +kernel
theorem dX5_sum_87 : decode cX5_sum 87 = .ok (.iconst 1, 1) := by decide +kernel
theorem dX5_sum_88 : decode cX5_sum 88 = .ok (.goto 4, 3) := by decide +kernel
theorem dX5_sum_91 : decode cX5_sum 91 = .ok (.iconst 0, 1) := by decide +kernel
theorem dX5_sum_92 : decode cX5_sum 92 = .ok (.istore 4, 2) := by decide +kernel
theorem dX5_sum_94 : decode cX5_sum 94 = .ok (.iload 4, 2) := by decide +kernel
theorem dX5_sum_96 : decode cX5_sum 96 = .ok (.ifCond .eq 10, 3) := by decide +kernel
theorem dX5_sum_99 : decode cX5_sum 99 = .ok (.aload_n 0, 1) := by decide +kernel
theorem dX5_sum_100 : decode cX5_sum 100 = .ok (.getfield 18, 3) := by decide +kernel
theorem dX5_sum_103 : decode cX5_sum 103 = .ok (.invokevirtual 74, 3) := by decide +kernel
theorem dX5_sum_106 : decode cX5_sum 106 = .ok (.iinc 5 1, 3) := by decide +kernel
theorem dX5_sum_109 : decode cX5_sum 109 = .ok (.goto (-101), 3) := by decide +kernel
theorem dX5_sum_112 : decode cX5_sum 112 = .ok (.return_, 1) := by decide +kernel
theorem dX5_sumStep_0 : decode cX5_sumStep 0 = .ok (.iload_n 0, 1) := by decide +kernel
theorem dX5_sumStep_1 : decode cX5_sumStep 1 = .ok (.bipush 43, 2) := by decide +kernel
theorem dX5_sumStep_3 : decode cX5_sumStep 3 = .ok (.if_icmp .ne 7, 3) := by decide +kernel
theorem dX5_sumStep_6 : decode cX5_sumStep 6 = .ok (.iconst 2, 1) := by decide +kernel
theorem dX5_sumStep_7 : decode cX5_sumStep 7 = .ok (.goto 14, 3) := by decide +kernel
theorem dX5_sumStep_10 : decode cX5_sumStep 10 = .ok (.iload_n 0, 1) := by decide +kernel
theorem dX5_sumStep_11 : decode cX5_sumStep 11 = .ok (.bipush 45, 2) := by decide +kernel
theorem dX5_sumStep_13 : decode cX5_sumStep 13 = .ok (.if_icmp .ne 7, 3) := by decide +kernel
theorem dX5_sumStep_16 : decode cX5_sumStep 16 = .ok (.iconst 3, 1) := by decide +kernel
theorem dX5_sumStep_17 : decode cX5_sumStep 17 = .ok (.goto 4, 3) := by decide +kernel
theorem dX5_sumStep_20 : decode cX5_sumStep 20 = .ok (.iconst (-1), 1) := by decide +kernel
theorem dX5_sumStep_21 : decode cX5_sumStep 21 = .ok (.ireturn, 1) := by decide +kernel
theorem dX5_productStep_0 : decode cX5_productStep 0 = .ok (.iload_n 0, 1) := by decide +kernel
theorem dX5_productStep_1 : decode cX5_productStep 1 = .ok (.bipush 42, 2) := by decide +kernel
theorem dX5_productStep_3 : decode cX5_productStep 3 = .ok (.if_icmp .ne 7, 3) := by decide +kernel
theorem dX5_productStep_6 : decode cX5_productStep 6 = .ok (.iconst 4, 1) := by decide +kernel
theorem dX5_productStep_7 : decode cX5_productStep 7 = .ok (.goto 25, 3) := by decide +kernel
theorem dX5_productStep_10 : decode cX5_productStep 10 = .ok (.iload_n 0, 1) := by decide +kernel
theorem dX5_productStep_11 : decode cX5_productStep 11 = .ok (.bipush 47, 2) := by decide +kernel
theorem dX5_productStep_13 : decode cX5_productStep 13 = .ok (.if_icmp .ne 7, 3) := by decide +kernel
theorem dX5_productStep_16 : decode cX5_productStep 16 = .ok (.iconst 5, 1) := by decide +kernel
theorem dX5_productStep_17 : decode cX5_productStep 17 = .ok (.goto 15, 3) := by decide +kernel
theorem dX5_productStep_20 : decode cX5_productStep 20 = .ok (.iload_n 0, 1) := by decide +kernel
theorem dX5_productStep_21 : decode cX5_productStep 21 = .ok (.bipush 37, 2) := by decide +kernel
theorem dX5_productStep_23 : decode cX5_productStep 23 = .ok (.if_icmp .ne 8, 3) := by decide +kernel
theorem dX5_productStep_26 : decode cX5_productStep 26 = .ok (.bipush 6, 2) := by decide +kernel
theorem dX5_productStep_28 : decode cX5_productStep 28 = .ok (.goto 4, 3) := by decide +kernel
theorem dX5_productStep_31 : decode cX5_productStep 31 = .ok (.iconst (-1), 1) := by decide +kernel
theorem dX5_productStep_32 : decode cX5_productStep 32 = .ok (.ireturn, 1) := by decide +kernel
theorem dX5_factor_0 : decode cX5_factor 0 = .ok (.aload_n 0, 1) := by decide +kernel
theorem dX5_factor_1 : decode cX5_factor 1 = .ok (.getfield 18, 3) := by decide +kernel
theorem dX5_factor_4 : decode cX5_factor 4 = .ok (.invokevirtual 35, 3) := by decide +kernel
theorem dX5_factor_7 : decode cX5_factor 7 = .ok (.istore_n 2, 1) := by decide +kernel
theorem dX5_factor_8 : decode cX5_factor 8 = .ok (.iload_n 2, 1) := by decide +kernel
theorem dX5_factor_9 : decode cX5_factor 9 = .ok (.invokestatic 95, 3) := by decide +kernel
theorem dX5_factor_12 : decode cX5_factor 12 = .ok (.istore_n 3, 1) := by decide +kernel
theorem dX5_factor_13 : decode cX5_factor 13 = .ok (.iload_n 2, 1) := by decide +kernel
theorem dX5_factor_14 : decode cX5_factor 14 = .ok (.bipush 91, 2) := by decide +kernel
theorem dX5_factor_16 : decode cX5_factor 16 = .ok (.if_icmp .ne 34, 3) := by decide +kernel
theorem dX5_factor_19 : decode cX5_factor 19 = .ok (.aload_n 0, 1) := by decide +kernel
theorem dX5_factor_20 : decode cX5_factor 20 = .ok (.getfield 18, 3) := by decide +kernel
theorem dX5_factor_23 : decode cX5_factor 23 = .ok (.iload_n 1, 1) := by decide +kernel
theorem dX5_factor_24 : decode cX5_factor 24 = .ok (.invokevirtual 81, 3) := by decide +kernel
theorem dX5_factor_27 : decode cX5_factor 27 = .ok (.ifCond .eq 70, 3) := by decide +kernel
theorem dX5_factor_30 : decode cX5_factor 30 = .ok (.aload_n 0, 1) := by decide +kernel
theorem dX5_factor_31 : decode cX5_factor 31 = .ok (.iconst 0, 1) := by decide +kernel
theorem dX5_factor_32 : decode cX5_factor 32 = .ok (.iload_n 1, 1) := by decide +kernel
theorem dX5_factor_33 : decode cX5_factor 33 = .ok (.iconst 1, 1) := by decide +kernel
theorem dX5_factor_34 : decode cX5_factor 34 = .ok (.iadd, 1) := by decide +kernel
theorem dX5_factor_35 : decode cX5_factor 35 = .ok (.invokevirtual 48, 3) := by decide +kernel
theorem dX5_factor_38 : decode cX5_factor 38 = .ok (.aload_n 0, 1) := by decide +kernel
theorem dX5_factor_39 : decode cX5_factor 39 = .ok (.getfield 18, 3) := by decide +kernel
theorem dX5_factor_42 : decode cX5_factor 42 = .ok (.bipush 93, 2) := by decide +kernel
theorem dX5_factor_44 : decode cX5_factor 44 = .ok (.invokevirtual 42, 3) := by decide +kernel
theorem dX5_factor_47 : decode cX5_factor 47 = .ok (.goto 50, 3) := by decide +kernel
theorem dX5_factor_50 : decode cX5_factor 50 = .ok (.iload_n 2, 1) := by decide +kernel
theorem dX5_factor_51 : decode cX5_factor 51 = .ok (.invokestatic 98, 3) := by decide +kernel
theorem dX5_factor_54 : decode cX5_factor 54 = .ok (.ifCond .eq 10, 3) := by decide +kernel
theorem dX5_factor_57 : decode cX5_factor 57 = .ok (.aload_n 0, 1) := by decide +kernel
theorem dX5_factor_58 : decode cX5_factor 58 = .ok (.invokevirtual 101, 3) := by decide +kernel
theorem dX5_factor_61 : decode cX5_factor 61 = .ok (.goto 36, 3) := by decide +kernel
theorem dX5_factor_64 : decode cX5_factor 64 = .ok (.iload_n 3, 1) := by decide +kernel
theorem dX5_factor_65 : decode cX5_factor 65 = .ok (.iconst (-1), 1) := by decide +kernel
theorem dX5_factor_66 : decode cX5_factor 66 = .ok (.if_icmp .eq 23, 3) := by decide +kernel
theorem dX5_factor_69 : decode cX5_factor 69 = .ok (.aload_n 0, 1) := by decide +kernel
theorem dX5_factor_70 : decode cX5_factor 70 = .ok (.getfield 18, 3) := by decide +kernel
theorem dX5_factor_73 : decode cX5_factor 73 = .ok (.invokevirtual 74, 3) := by decide +kernel
theorem dX5_factor_76 : decode cX5_factor 76 = .ok (.aload_n 0, 1) := by decide +kernel
theorem dX5_factor_77 : decode cX5_factor 77 = .ok (.getfield 12, 3) := by decide +kernel
theorem dX5_factor_80 : decode cX5_factor 80 = .ok (.iconst 1, 1) := by decide +kernel
theorem dX5_factor_81 : decode cX5_factor 81 = .ok (.iload_n 3, 1) := by decide +kernel
theorem dX5_factor_82 : decode cX5_factor 82 = .ok (.invokevirtual 77, 3) := by decide +kernel
theorem dX5_factor_85 : decode cX5_factor 85 = .ok (.pop, 1) := by decide +kernel
theorem dX5_factor_86 : decode cX5_factor 86 = .ok (.goto 11, 3) := by decide +kernel
theorem dX5_factor_89 : decode cX5_factor 89 = .ok (.aload_n 0, 1) := by decide +kernel
theorem dX5_factor_90 : decode cX5_factor 90 = .ok (.getfield 18, 3) := by decide +kernel
theorem dX5_factor_93 : decode cX5_factor 93 = .ok (.iconst 1, 1) := by decide +kernel
theorem dX5_factor_94 : decode cX5_factor 94 = .ok (.invokevirtual 39, 3) := by decide +kernel
theorem dX5_factor_97 : decode cX5_factor 97 = .ok (.return_, 1) := by decide +kernel
theorem dX5_number_0 : decode cX5_number 0 = .ok (.iconst 0, 1) := by decide +kernel
theorem dX5_number_1 : decode cX5_number 1 = .ok (.istore_n 1, 1) := by decide +kernel
theorem dX5_number_2 : decode cX5_number 2 = .ok (.iconst 0, 1) := by decide +kernel
theorem dX5_number_3 : decode cX5_number 3 = .ok (.istore_n 2, 1) := by decide +kernel
theorem dX5_number_4 : decode cX5_number 4 = .ok (.iload_n 2, 1) := by decide +kernel
theorem dX5_number_5 : decode cX5_number 5 = .ok (.iconst 5, 1) := by decide +kernel
theorem dX5_number_6 : decode cX5_number 6 = .ok (.if_icmp .ge 45, 3) := by decide +kernel
theorem dX5_number_9 : decode cX5_number 9 = .ok (.aload_n 0, 1) := by decide +kernel
theorem dX5_number_10 : decode cX5_number 10 = .ok (.getfield 18, 3) := by decide +kernel
theorem dX5_number_13 : decode cX5_number 13 = .ok (.invokevirtual 35, 3) := by decide +kernel
theorem dX5_number_16 : decode cX5_number 16 = .ok (.invokestatic 98, 3) := by decide +kernel
theorem dX5_number_19 : decode cX5_number 19 = .ok (.ifCond .eq 32, 3) := by decide +kernel
theorem dX5_number_22 : decode cX5_number 22 = .ok (.bipush 10, 2) := by decide +kernel
theorem dX5_number_24 : decode cX5_number 24 = .ok (.iload_n 1, 1) := by decide +kernel
theorem dX5_number_25 : decode cX5_number 25 = .ok (.imul, 1) := by decide +kernel
theorem dX5_number_26 : decode cX5_number 26 = .ok (.aload_n 0, 1) := by decide +kernel
theorem dX5_number_27 : decode cX5_number 27 = .ok (.getfield 18, 3) := by decide +kernel
theorem dX5_number_30 : decode cX5_number 30 = .ok (.invokevirtual 35, 3) := by decide +kernel
theorem dX5_number_33 : decode cX5_number 33 = .ok (.iadd, 1) := by decide +kernel
theorem dX5_number_34 : decode cX5_number 34 = .ok (.bipush 48, 2) := by decide +kernel
theorem dX5_number_36 : decode cX5_number 36 = .ok (.isub, 1) := by decide +kernel
theorem dX5_number_37 : decode cX5_number 37 = .ok (.istore_n 1, 1) := by decide +kernel
theorem dX5_number_38 : decode cX5_number 38 = .ok (.aload_n 0, 1) := by decide +kernel
theorem dX5_number_39 : decode cX5_number 39 = .ok (.getfield 18, 3) := by decide +kernel
theorem dX5_number_42 : decode cX5_number 42 = .ok (.invokevirtual 74, 3) := by decide +kernel
theorem dX5_number_45 : decode cX5_number 45 = .ok (.iinc 2 1, 3) := by decide +kernel
theorem dX5_number_48 : decode cX5_number 48 = .ok (.goto (-44), 3) := by decide +kernel
theorem dX5_number_51 : decode cX5_number 51 = .ok (.aload_n 0, 1) := by decide +kernel
theorem dX5_number_52 : decode cX5_number 52 = .ok (.getfield 18, 3) := by decide +kernel
theorem dX5_number_55 : decode cX5_number 55 = .ok (.invokevirtual 35, 3) := by decide +kernel
theorem dX5_number_58 : decode cX5_number 58 = .ok (.invokestatic 98, 3) := by decide +kernel
theorem dX5_number_61 : decode cX5_number 61 = .ok (.ifCond .eq 11, 3) := by decide +kernel
theorem dX5_number_64 : decode cX5_number 64 = .ok (.aload_n 0, 1) := by decide +kernel
theorem dX5_number_65 : decode cX5_number 65 = .ok (.getfield 18, 3) := by decide +kernel
theorem dX5_number_68 : decode cX5_number 68 = .ok (.iconst 2, 1) := by decide +kernel
theorem dX5_number_69 : decode cX5_number 69 = .ok (.invokevirtual 39, 3) := by decide +kernel
theorem dX5_number_72 : decode cX5_number 72 = .ok (.aload_n 0, 1) := by decide +kernel
theorem dX5_number_73 : decode cX5_number 73 = .ok (.getfield 12, 3) := by decide +kernel
theorem dX5_number_76 : decode cX5_number 76 = .ok (.iconst 0, 1) := by decide +kernel
theorem dX5_number_77 : decode cX5_number 77 = .ok (.iload_n 1, 1) := by decide +kernel
theorem dX5_number_78 : decode cX5_number 78 = .ok (.invokevirtual 77, 3) := by decide +kernel
theorem dX5_number_81 : decode cX5_number 81 = .ok (.pop, 1) := by decide +kernel
theorem dX5_number_82 : decode cX5_number 82 = .ok (.return_, 1) := by decide +kernel
theorem dX5_isDigit_0 : decode cX5_isDigit 0 = .ok (.iload_n 0, 1) := by decide +kernel
theorem dX5_isDigit_1 : decode cX5_isDigit 1 = .ok (.bipush 48, 2) := by decide +kernel
theorem dX5_isDigit_3 : decode cX5_isDigit 3 = .ok (.if_icmp .lt 13, 3) := by decide +kernel
theorem dX5_isDigit_6 : decode cX5_isDigit 6 = .ok (.iload_n 0, 1) := by decide +kernel
theorem dX5_isDigit_7 : decode cX5_isDigit 7 = .ok (.bipush 57, 2) := by decide +kernel
theorem dX5_isDigit_9 : decode cX5_isDigit 9 = .ok (.if_icmp .gt 7, 3) := by decide +kernel
theorem dX5_isDigit_12 : decode cX5_isDigit 12 = .ok (.iconst 1, 1) := by decide +kernel
theorem dX5_isDigit_13 : decode cX5_isDigit 13 = .ok (.goto 4, 3) := by decide +kernel
theorem dX5_isDigit_16 : decode cX5_isDigit 16 = .ok (.iconst 0, 1) := by decide +kernel
theorem dX5_isDigit_17 : decode cX5_isDigit 17 = .ok (.ireturn, 1) := by decide +kernel
theorem dX5_letterOf_0 : decode cX5_letterOf 0 = .ok (.iload_n 0, 1) := by decide +kernel
theorem dX5_letterOf_1 : decode cX5_letterOf 1 = .ok (.tableswitch 133 97 121 #[125, 119, 127, 133, 133, 133, 133, 133, 133, 133, 133, 130, 133, 133, 133, 133, 133, 133, 117, 133, 133, 133, 115, 121, 123], 115) := by decide +kernel
theorem dX5_letterOf_116 : decode cX5_letterOf 116 = .ok (.iconst 0, 1) := by decide +kernel
theorem dX5_letterOf_117 : decode cX5_letterOf 117 = .ok (.ireturn, 1) := by decide +kernel
theorem dX5_letterOf_118 : decode cX5_letterOf 118 = .ok (.iconst 1, 1) := by decide +kernel
theorem dX5_letterOf_119 : decode cX5_letterOf 119 = .ok (.ireturn, 1) := by decide +kernel
theorem dX5_letterOf_120 : decode cX5_letterOf 120 = .ok (.iconst 2, 1) := by decide +kernel
theorem dX5_letterOf_121 : decode cX5_letterOf 121 = .ok (.ireturn, 1) := by decide +kernel
theorem dX5_letterOf_122 : decode cX5_letterOf 122 = .ok (.iconst 3, 1) := by decide +kernel
theorem dX5_letterOf_123 : decode cX5_letterOf 123 = .ok (.ireturn, 1) := by decide +kernel
theorem dX5_letterOf_124 : decode cX5_letterOf 124 = .ok (.iconst 4, 1) := by decide +kernel
theorem dX5_letterOf_125 : decode cX5_letterOf 125 = .ok (.ireturn, 1) := by decide +kernel
theorem dX5_letterOf_126 : decode cX5_letterOf 126 = .ok (.iconst 5, 1) := by decide +kernel
theorem dX5_letterOf_127 : decode cX5_letterOf 127 = .ok (.ireturn, 1) := by decide +kernel
theorem dX5_letterOf_128 : decode cX5_letterOf 128 = .ok (.bipush 6, 2) := by decide +kernel
theorem dX5_letterOf_130 : decode cX5_letterOf 130 = .ok (.ireturn, 1) := by decide +kernel
theorem dX5_letterOf_131 : decode cX5_letterOf 131 = .ok (.bipush 7, 2) := by decide +kernel
theorem dX5_letterOf_133 : decode cX5_letterOf 133 = .ok (.ireturn, 1) := by decide +kernel
theorem dX5_letterOf_134 : decode cX5_letterOf 134 = .ok (.iconst (-1), 1) := by decide +kernel
theorem dX5_letterOf_135 : decode cX5_letterOf 135 = .ok (.ireturn, 1) := by decide +kernel
theorem dX6_init_0 : decode cX6_init 0 = .ok (.aload_n 0, 1) := by decide +kernel
theorem dX6_init_1 : decode cX6_init 1 = .ok (.invokespecial 3, 3) := by decide +kernel
theorem dX6_init_4 : decode cX6_init 4 = .ok (.aload_n 0, 1) := by decide +kernel
theorem dX6_init_5 : decode cX6_init 5 = .ok (.aload_n 1, 1) := by decide +kernel
theorem dX6_init_6 : decode cX6_init 6 = .ok (.putfield 9, 3) := by decide +kernel
theorem dX6_init_9 : decode cX6_init 9 = .ok (.aload_n 0, 1) := by decide +kernel
theorem dX6_init_10 : decode cX6_init 10 = .ok (.aload_n 2, 1) := by decide +kernel
theorem dX6_init_11 : decode cX6_init 11 = .ok (.putfield 15, 3) := by decide +kernel
theorem dX6_init_14 : decode cX6_init 14 = .ok (.return_, 1) := by decide +kernel
theorem dX6_read_0 : decode cX6_read 0 = .ok (.aload_n 0, 1) := by decide +kernel
theorem dX6_read_1 : decode cX6_read 1 = .ok (.iconst 0, 1) := by decide +kernel
theorem dX6_read_2 : decode cX6_read 2 = .ok (.putfield 19, 3) := by decide +kernel
theorem dX6_read_5 : decode cX6_read 5 = .ok (.aload_n 0, 1) := by decide +kernel
theorem dX6_read_6 : decode cX6_read 6 = .ok (.iconst 0, 1) := by decide +kernel
theorem dX6_read_7 : decode cX6_read 7 = .ok (.putfield 23, 3) := by decide +kernel
theorem dX6_read_10 : decode cX6_read 10 = .ok (.aload_n 0, 1) := by decide +kernel
theorem dX6_read_11 : decode cX6_read 11 = .ok (.iconst 0, 1) := by decide +kernel
theorem dX6_read_12 : decode cX6_read 12 = .ok (.putfield 26, 3) := by decide +kernel
theorem dX6_read_15 : decode cX6_read 15 = .ok (.aload_n 0, 1) := by decide +kernel
theorem dX6_read_16 : decode cX6_read 16 = .ok (.iconst 0, 1) := by decide +kernel
theorem dX6_read_17 : decode cX6_read 17 = .ok (.putfield 29, 3) := by decide +kernel
theorem dX6_read_20 : decode cX6_read 20 = .ok (.aload_n 0, 1) := by decide +kernel
theorem dX6_read_21 : decode cX6_read 21 = .ok (.iconst 0, 1) := by decide +kernel
theorem dX6_read_22 : decode cX6_read 22 = .ok (.putfield 32, 3) := by decide +kernel
theorem dX6_read_25 : decode cX6_read 25 = .ok (.aload_n 0, 1) := by decide +kernel
theorem dX6_read_26 : decode cX6_read 26 = .ok (.getfield 9, 3) := by decide +kernel
theorem dX6_read_29 : decode cX6_read 29 = .ok (.iload_n 1, 1) := by decide +kernel
theorem dX6_read_30 : decode cX6_read 30 = .ok (.invokevirtual 35, 3) := by decide +kernel
theorem dX6_read_33 : decode cX6_read 33 = .ok (.aload_n 0, 1) := by decide +kernel
theorem dX6_read_34 : decode cX6_read 34 = .ok (.aload_n 0, 1) := by decide +kernel
theorem dX6_read_35 : decode cX6_read 35 = .ok (.iconst 0, 1) := by decide +kernel
theorem dX6_read_36 : decode cX6_read 36 = .ok (.invokevirtual 41, 3) := by decide +kernel
theorem dX6_read_39 : decode cX6_read 39 = .ok (.putfield 45, 3) := by decide +kernel
theorem dX6_read_42 : decode cX6_read 42 = .ok (.aload_n 0, 1) := by decide +kernel
theorem dX6_read_43 : decode cX6_read 43 = .ok (.getfield 9, 3) := by decide +kernel
theorem dX6_read_46 : decode cX6_read 46 = .ok (.invokevirtual 48, 3) := by decide +kernel
theorem dX6_read_49 : decode cX6_read 49 = .ok (.ifCond .ne 11, 3) := by decide +kernel
theorem dX6_read_52 : decode cX6_read 52 = .ok (.aload_n 0, 1) := by decide +kernel
theorem dX6_read_53 : decode cX6_read 53 = .ok (.getfield 9, 3) := by decide +kernel
theorem dX6_read_56 : decode cX6_read 56 = .ok (.iconst 1, 1) := by decide +kernel
theorem dX6_read_57 : decode cX6_read 57 = .ok (.invokevirtual 52, 3) := by decide +kernel
theorem dX6_read_60 : decode cX6_read 60 = .ok (.aload_n 0, 1) := by decide +kernel
theorem dX6_read_61 : decode cX6_read 61 = .ok (.aload_n 0, 1) := by decide +kernel
theorem dX6_read_62 : decode cX6_read 62 = .ok (.getfield 9, 3) := by decide +kernel
theorem dX6_read_65 : decode cX6_read 65 = .ok (.getfield 55, 3) := by decide +kernel
theorem dX6_read_68 : decode cX6_read 68 = .ok (.ifCond .ne 7, 3) := by decide +kernel
theorem dX6_read_71 : decode cX6_read 71 = .ok (.iconst 1, 1) := by decide +kernel
theorem dX6_read_72 : decode cX6_read 72 = .ok (.goto 4, 3) := by decide +kernel
theorem dX6_read_75 : decode cX6_read 75 = .ok (.iconst 0, 1) := by decide +kernel
theorem dX6_read_76 : decode cX6_read 76 = .ok (.putfield 58, 3) := by decide +kernel
theorem dX6_read_79 : decode cX6_read 79 = .ok (.aload_n 0, 1) := by decide +kernel
theorem dX6_read_80 : decode cX6_read 80 = .ok (.getfield 58, 3) := by decide +kernel
theorem dX6_read_83 : decode cX6_read 83 = .ok (.ifCond .eq 10, 3) := by decide +kernel
theorem dX6_read_86 : decode cX6_read 86 = .ok (.aload_n 0, 1) := by decide +kernel
theorem dX6_read_87 : decode cX6_read 87 = .ok (.getfield 45, 3) := by decide +kernel
theorem dX6_read_90 : decode cX6_read 90 = .ok (.goto 10, 3) := by decide +kernel
theorem dX6_read_93 : decode cX6_read 93 = .ok (.aload_n 0, 1) := by decide +kernel
theorem dX6_read_94 : decode cX6_read 94 = .ok (.getfield 9, 3) := by decide +kernel
theorem dX6_read_97 : decode cX6_read 97 = .ok (.getfield 55, 3) := by decide +kernel
theorem dX6_read_100 : decode cX6_read 100 = .ok (.ireturn, 1) := by decide +kernel
theorem dX6_takeOver_0 : decode cX6_takeOver 0 = .ok (.aload_n 0, 1) := by decide +kernel
theorem dX6_takeOver_1 : decode cX6_takeOver 1 = .ok (.aload_n 1, 1) := by decide +kernel
theorem dX6_takeOver_2 : decode cX6_takeOver 2 = .ok (.getfield 58, 3) := by decide +kernel
theorem dX6_takeOver_5 : decode cX6_takeOver 5 = .ok (.putfield 58, 3) := by decide +kernel
theorem dX6_takeOver_8 : decode cX6_takeOver 8 = .ok (.aload_n 0, 1) := by decide +kernel
theorem dX6_takeOver_9 : decode cX6_takeOver 9 = .ok (.aload_n 1, 1) := by decide +kernel
theorem dX6_takeOver_10 : decode cX6_takeOver 10 = .ok (.getfield 45, 3) := by decide +kernel
theorem dX6_takeOver_13 : decode cX6_takeOver 13 = .ok (.putfield 45, 3) := by decide +kernel
theorem dX6_takeOver_16 : decode cX6_takeOver 16 = .ok (.aload_n 0, 1) := by decide +kernel
theorem dX6_takeOver_17 : decode cX6_takeOver 17 = .ok (.aload_n 1, 1) := by decide +kernel
theorem dX6_takeOver_18 : decode cX6_takeOver 18 = .ok (.getfield 19, 3) := by decide +kernel
theorem dX6_takeOver_21 : decode cX6_takeOver 21 = .ok (.putfield 19, 3) := by decide +kernel
theorem dX6_takeOver_24 : decode cX6_takeOver 24 = .ok (.aload_n 0, 1) := by decide +kernel
theorem dX6_takeOver_25 : decode cX6_takeOver 25 = .ok (.aload_n 1, 1) := by decide +kernel
theorem dX6_takeOver_26 : decode cX6_takeOver 26 = .ok (.getfield 23, 3) := by decide +kernel
theorem dX6_takeOver_29 : decode cX6_takeOver 29 = .ok (.putfield 23, 3) := by decide +kernel
theorem dX6_takeOver_32 : decode cX6_takeOver 32 = .ok (.aload_n 0, 1) := by decide +kernel
theorem dX6_takeOver_33 : decode cX6_takeOver 33 = .ok (.aload_n 1, 1) := by decide +kernel
theorem dX6_takeOver_34 : decode cX6_takeOver 34 = .ok (.getfield 26, 3) := by decide +kernel
theorem dX6_takeOver_37 : decode cX6_takeOver 37 = .ok (.putfield 26, 3) := by decide +kernel
theorem dX6_takeOver_40 : decode cX6_takeOver 40 = .ok (.aload_n 0, 1) := by decide +kernel
theorem dX6_takeOver_41 : decode cX6_takeOver 41 = .ok (.aload_n 1, 1) := by decide +kernel
theorem dX6_takeOver_42 : decode cX6_takeOver 42 = .ok (.getfield 29, 3) := by decide +kernel
theorem dX6_takeOver_45 : decode cX6_takeOver 45 = .ok (.putfield 29, 3) := by decide +kernel
theorem dX6_takeOver_48 : decode cX6_takeOver 48 = .ok (.aload_n 0, 1) := by decide +kernel
theorem dX6_takeOver_49 : decode cX6_takeOver 49 = .ok (.aload_n 1, 1) := by decide +kernel
theorem dX6_takeOver_50 : decode cX6_takeOver 50 = .ok (.getfield 32, 3) := by decide +kernel
theorem dX6_takeOver_53 : decode cX6_takeOver 53 = .ok (.putfield 32, 3) := by decide +kernel
theorem dX6_takeOver_56 : decode cX6_takeOver 56 = .ok (.return_, 1) := by decide +kernel
theorem dX6_fullLength_0 : decode cX6_fullLength 0 = .ok (.aload_n 0, 1) := by decide +kernel
theorem dX6_fullLength_1 : decode cX6_fullLength 1 = .ok (.getfield 15, 3) := by decide +kernel
theorem dX6_fullLength_4 : decode cX6_fullLength 4 = .ok (.invokevirtual 62, 3) := by decide +kernel
theorem dX6_fullLength_7 : decode cX6_fullLength 7 = .ok (.istore_n 1, 1) := by decide +kernel
theorem dX6_fullLength_8 : decode cX6_fullLength 8 = .ok (.aload_n 0, 1) := by decide +kernel
theorem dX6_fullLength_9 : decode cX6_fullLength 9 = .ok (.getfield 23, 3) := by decide +kernel
theorem dX6_fullLength_12 : decode cX6_fullLength 12 = .ok (.aload_n 0, 1) := by decide +kernel
theorem dX6_fullLength_13 : decode cX6_fullLength 13 = .ok (.getfield 26, 3) := by decide +kernel
theorem dX6_fullLength_16 : decode cX6_fullLength 16 = .ok (.aload_n 0, 1) := by decide +kernel
theorem dX6_fullLength_17 : decode cX6_fullLength 17 = .ok (.getfield 15, 3) := by decide +kernel
theorem dX6_fullLength_20 : decode cX6_fullLength 20 = .ok (.iconst 1, 1) := by decide +kernel
theorem dX6_fullLength_21 : decode cX6_fullLength 21 = .ok (.iload_n 1, 1) := by decide +kernel
theorem dX6_fullLength_22 : decode cX6_fullLength 22 = .ok (.invokevirtual 68, 3) := by decide +kernel
theorem dX6_fullLength_25 : decode cX6_fullLength 25 = .ok (.imul, 1) := by decide +kernel
theorem dX6_fullLength_26 : decode cX6_fullLength 26 = .ok (.iadd, 1) := by decide +kernel
theorem dX6_fullLength_27 : decode cX6_fullLength 27 = .ok (.aload_n 0, 1) := by decide +kernel
theorem dX6_fullLength_28 : decode cX6_fullLength 28 = .ok (.getfield 29, 3) := by decide +kernel
theorem dX6_fullLength_31 : decode cX6_fullLength 31 = .ok (.aload_n 0, 1) := by decide +kernel
theorem dX6_fullLength_32 : decode cX6_fullLength 32 = .ok (.getfield 15, 3) := by decide +kernel
theorem dX6_fullLength_35 : decode cX6_fullLength 35 = .ok (.iconst 2, 1) := by decide +kernel
theorem dX6_fullLength_36 : decode cX6_fullLength 36 = .ok (.iload_n 1, 1) := by decide +kernel
theorem dX6_fullLength_37 : decode cX6_fullLength 37 = .ok (.invokevirtual 68, 3) := by decide +kernel
theorem dX6_fullLength_40 : decode cX6_fullLength 40 = .ok (.imul, 1) := by decide +kernel
theorem dX6_fullLength_41 : decode cX6_fullLength 41 = .ok (.iadd, 1) := by decide +kernel
theorem dX6_fullLength_42 : decode cX6_fullLength 42 = .ok (.aload_n 0, 1) := by decide +kernel
theorem dX6_fullLength_43 : decode cX6_fullLength 43 = .ok (.getfield 32, 3) := by decide +kernel
theorem dX6_fullLength_46 : decode cX6_fullLength 46 = .ok (.aload_n 0, 1) := by decide +kernel
theorem dX6_fullLength_47 : decode cX6_fullLength 47 = .ok (.getfield 15, 3) := by decide +kernel
theorem dX6_fullLength_50 : decode cX6_fullLength 50 = .ok (.iconst 3, 1) := by decide +kernel
theorem dX6_fullLength_51 : decode cX6_fullLength 51 = .ok (.iload_n 1, 1) := by decide +kernel
theorem dX6_fullLength_52 : decode cX6_fullLength 52 = .ok (.invokevirtual 68, 3) := by decide +kernel
theorem dX6_fullLength_55 : decode cX6_fullLength 55 = .ok (.imul, 1) := by decide +kernel
theorem dX6_fullLength_56 : decode cX6_fullLength 56 = .ok (.iadd, 1) := by decide +kernel
theorem dX6_fullLength_57 : decode cX6_fullLength 57 = .ok (.ireturn, 1) := by decide +kernel
theorem dX6_either_0 : decode cX6_either 0 = .ok (.aload_n 0, 1) := by decide +kernel
theorem dX6_either_1 : decode cX6_either 1 = .ok (.iload_n 1, 1) := by decide +kernel
theorem dX6_either_2 : decode cX6_either 2 = .ok (.invokevirtual 72, 3) := by decide +kernel
theorem dX6_either_5 : decode cX6_either 5 = .ok (.istore_n 2, 1) := by decide +kernel
theorem dX6_either_6 : decode cX6_either 6 = .ok (.iconst 0, 1) := by decide +kernel
theorem dX6_either_7 : decode cX6_either 7 = .ok (.istore_n 3, 1) := by decide +kernel
theorem dX6_either_8 : decode cX6_either 8 = .ok (.iload_n 3, 1) := by decide +kernel
theorem dX6_either_9 : decode cX6_either 9 = .ok (.bipush 60, 2) := by decide +kernel
theorem dX6_either_11 : decode cX6_either 11 = .ok (.if_icmp .ge 46, 3) := by decide +kernel
theorem dX6_either_14 : decode cX6_either 14 = .ok (.aload_n 0, 1) := by decide +kernel
theorem dX6_either_15 : decode cX6_either 15 = .ok (.getfield 9, 3) := by decide +kernel
theorem dX6_either_18 : decode cX6_either 18 = .ok (.invokevirtual 75, 3) := by decide +kernel
theorem dX6_either_21 : decode cX6_either 21 = .ok (.bipush 43, 2) := by decide +kernel
theorem dX6_either_23 : decode cX6_either 23 = .ok (.if_icmp .ne 34, 3) := by decide +kernel
theorem dX6_either_26 : decode cX6_either 26 = .ok (.aload_n 0, 1) := by decide +kernel
theorem dX6_either_27 : decode cX6_either 27 = .ok (.getfield 9, 3) := by decide +kernel
theorem dX6_either_30 : decode cX6_either 30 = .ok (.invokevirtual 78, 3) := by decide +kernel
theorem dX6_either_33 : decode cX6_either 33 = .ok (.aload_n 0, 1) := by decide +kernel
theorem dX6_either_34 : decode cX6_either 34 = .ok (.dup, 1) := by decide +kernel
theorem dX6_either_35 : decode cX6_either 35 = .ok (.getfield 32, 3) := by decide +kernel
theorem dX6_either_38 : decode cX6_either 38 = .ok (.iconst 1, 1) := by decide +kernel
theorem dX6_either_39 : decode cX6_either 39 = .ok (.iadd, 1) := by decide +kernel
theorem dX6_either_40 : decode cX6_either 40 = .ok (.putfield 32, 3) := by decide +kernel
theorem dX6_either_43 : decode cX6_either 43 = .ok (.iload_n 2, 1) := by decide +kernel
theorem dX6_either_44 : decode cX6_either 44 = .ok (.aload_n 0, 1) := by decide +kernel
theorem dX6_either_45 : decode cX6_either 45 = .ok (.iload_n 1, 1) := by decide +kernel
theorem dX6_either_46 : decode cX6_either 46 = .ok (.invokevirtual 72, 3) := by decide +kernel
theorem dX6_either_49 : decode cX6_either 49 = .ok (.ior, 1) := by decide +kernel
theorem dX6_either_50 : decode cX6_either 50 = .ok (.istore_n 2, 1) := by decide +kernel
theorem dX6_either_51 : decode cX6_either 51 = .ok (.iinc 3 1, 3) := by decide +kernel
theorem dX6_either_54 : decode cX6_either 54 = .ok (.goto (-46), 3) := by decide +kernel
theorem dX6_either_57 : decode cX6_either 57 = .ok (.iload_n 2, 1) := by decide +kernel
theorem dX6_either_58 : decode cX6_either 58 = .ok (.ireturn, 1) := by decide +kernel
theorem dX6_both_0 : decode cX6_both 0 = .ok (.aload_n 0, 1) := by decide +kernel
theorem dX6_both_1 : decode cX6_both 1 = .ok (.iload_n 1, 1) := by decide +kernel
theorem dX6_both_2 : decode cX6_both 2 = .ok (.invokevirtual 81, 3) := by decide +kernel
theorem dX6_both_5 : decode cX6_both 5 = .ok (.istore_n 2, 1) := by decide +kernel
theorem dX6_both_6 : decode cX6_both 6 = .ok (.iconst 0, 1) := by decide +kernel
theorem dX6_both_7 : decode cX6_both 7 = .ok (.istore_n 3, 1) := by decide +kernel
theorem dX6_both_8 : decode cX6_both 8 = .ok (.iload_n 3, 1) := by decide +kernel
theorem dX6_both_9 : decode cX6_both 9 = .ok (.bipush 60, 2) := by decide +kernel
theorem dX6_both_11 : decode cX6_both 11 = .ok (.if_icmp .ge 40, 3) := by decide +kernel
theorem dX6_both_14 : decode cX6_both 14 = .ok (.aload_n 0, 1) := by decide +kernel
theorem dX6_both_15 : decode cX6_both 15 = .ok (.getfield 9, 3) := by decide +kernel
theorem dX6_both_18 : decode cX6_both 18 = .ok (.invokevirtual 75, 3) := by decide +kernel
theorem dX6_both_21 : decode cX6_both 21 = .ok (.invokestatic 84, 3) := by decide +kernel
theorem dX6_both_24 : decode cX6_both 24 = .ok (.ifCond .eq 27, 3) := by decide +kernel
theorem dX6_both_27 : decode cX6_both 27 = .ok (.aload_n 0, 1) := by decide +kernel
theorem dX6_both_28 : decode cX6_both 28 = .ok (.dup, 1) := by decide +kernel
theorem dX6_both_29 : decode cX6_both 29 = .ok (.getfield 29, 3) := by decide +kernel
theorem dX6_both_32 : decode cX6_both 32 = .ok (.iconst 1, 1) := by decide +kernel
theorem dX6_both_33 : decode cX6_both 33 = .ok (.iadd, 1) := by decide +kernel
theorem dX6_both_34 : decode cX6_both 34 = .ok (.putfield 29, 3) := by decide +kernel
theorem dX6_both_37 : decode cX6_both 37 = .ok (.iload_n 2, 1) := by decide +kernel
theorem dX6_both_38 : decode cX6_both 38 = .ok (.aload_n 0, 1) := by decide +kernel
theorem dX6_both_39 : decode cX6_both 39 = .ok (.iload_n 1, 1) := by decide +kernel
theorem dX6_both_40 : decode cX6_both 40 = .ok (.invokevirtual 81, 3) := by decide +kernel
theorem dX6_both_43 : decode cX6_both 43 = .ok (.iand, 1) := by decide +kernel
theorem dX6_both_44 : decode cX6_both 44 = .ok (.istore_n 2, 1) := by decide +kernel
theorem dX6_both_45 : decode cX6_both 45 = .ok (.iinc 3 1, 3) := by decide +kernel
theorem dX6_both_48 : decode cX6_both 48 = .ok (.goto (-40), 3) := by decide +kernel
theorem dX6_both_51 : decode cX6_both 51 = .ok (.iload_n 2, 1) := by decide +kernel
theorem dX6_both_52 : decode cX6_both 52 = .ok (.ireturn, 1) := by decide +kernel
theorem dX6_isLetter_0 : decode cX6_isLetter 0 = .ok (.iload_n 0, 1) := by decide +kernel
theorem dX6_isLetter_1 : decode cX6_isLetter 1 = .ok (.bipush 97, 2) := by decide +kernel
theorem dX6_isLetter_3 : decode cX6_isLetter 3 = .ok (.if_icmp .lt 13, 3) := by decide +kernel
theorem dX6_isLetter_6 : decode cX6_isLetter 6 = .ok (.iload_n 0, 1) := by decide +kernel
theorem dX6_isLetter_7 : decode cX6_isLetter 7 = .ok (.bipush 106, 2) := by decide +kernel
theorem dX6_isLetter_9 : decode cX6_isLetter 9 = .ok (.if_icmp .gt 7, 3) := by decide +kernel
theorem dX6_isLetter_12 : decode cX6_isLetter 12 = .ok (.iconst 1, 1) := by decide +kernel
theorem dX6_isLetter_13 : decode cX6_isLetter 13 = .ok (.goto 4, 3) := by decide +kernel
theorem dX6_isLetter_16 : decode cX6_isLetter 16 = .ok (.iconst 0, 1) := by decide +kernel
theorem dX6_isLetter_17 : decode cX6_isLetter 17 = .ok (.ireturn, 1) := by decide +kernel
theorem dX6_startsSingle_0 : decode cX6_startsSingle 0 = .ok (.iload_n 0, 1) := by decide +kernel
theorem dX6_startsSingle_1 : decode cX6_startsSingle 1 = .ok (.bipush 45, 2) := by decide +kernel
theorem dX6_startsSingle_3 : decode cX6_startsSingle 3 = .ok (.if_icmp .eq 16, 3) := by decide +kernel
theorem dX6_startsSingle_6 : decode cX6_startsSingle 6 = .ok (.iload_n 0, 1) := by decide +kernel
theorem dX6_startsSingle_7 : decode cX6_startsSingle 7 = .ok (.bipush 40, 2) := by decide +kernel
theorem dX6_startsSingle_9 : decode cX6_startsSingle 9 = .ok (.if_icmp .eq 10, 3) := by decide +kernel
theorem dX6_startsSingle_12 : decode cX6_startsSingle 12 = .ok (.iload_n 0, 1) := by decide +kernel
theorem dX6_startsSingle_13 : decode cX6_startsSingle 13 = .ok (.invokestatic 88, 3) := by decide +kernel
theorem dX6_startsSingle_16 : decode cX6_startsSingle 16 = .ok (.ifCond .eq 7, 3) := by decide +kernel
theorem dX6_startsSingle_19 : decode cX6_startsSingle 19 = .ok (.iconst 1, 1) := by decide +kernel
theorem dX6_startsSingle_20 : decode cX6_startsSingle 20 = .ok (.goto 4, 3) := by decide +kernel
theorem dX6_startsSingle_23 : decode cX6_startsSingle 23 = .ok (.iconst 0, 1) := by decide +kernel
theorem dX6_startsSingle_24 : decode cX6_startsSingle 24 = .ok (.ireturn, 1) := by decide +kernel
theorem dX6_single_0 : decode cX6_single 0 = .ok (.aload_n 0, 1) := by decide +kernel
theorem dX6_single_1 : decode cX6_single 1 = .ok (.getfield 9, 3) := by decide +kernel
theorem dX6_single_4 : decode cX6_single 4 = .ok (.invokevirtual 75, 3) := by decide +kernel
theorem dX6_single_7 : decode cX6_single 7 = .ok (.istore_n 2, 1) := by decide +kernel
theorem dX6_single_8 : decode cX6_single 8 = .ok (.iload_n 2, 1) := by decide +kernel
theorem dX6_single_9 : decode cX6_single 9 = .ok (.invokestatic 88, 3) := by decide +kernel
theorem dX6_single_12 : decode cX6_single 12 = .ok (.ifCond .eq 12, 3) := by decide +kernel
theorem dX6_single_15 : decode cX6_single 15 = .ok (.aload_n 0, 1) := by decide +kernel
theorem dX6_single_16 : decode cX6_single 16 = .ok (.iload_n 2, 1) := by decide +kernel
theorem dX6_single_17 : decode cX6_single 17 = .ok (.bipush 97, 2) := by decide +kernel
theorem dX6_single_19 : decode cX6_single 19 = .ok (.isub, 1) := by decide +kernel
theorem dX6_single_20 : decode cX6_single 20 = .ok (.invokevirtual 91, 3) := by decide +kernel
theorem dX6_single_23 : decode cX6_single 23 = .ok (.ireturn, 1) := by decide +kernel
theorem dX6_single_24 : decode cX6_single 24 = .ok (.iload_n 2, 1) := by decide +kernel
theorem dX6_single_25 : decode cX6_single 25 = .ok (.invokestatic 84, 3) := by decide +kernel
theorem dX6_single_28 : decode cX6_single 28 = .ok (.ifCond .ne 13, 3) := by decide +kernel
theorem dX6_single_31 : decode cX6_single 31 = .ok (.aload_n 0, 1) := by decide +kernel
theorem dX6_single_32 : decode cX6_single 32 = .ok (.getfield 9, 3) := by decide +kernel
theorem dX6_single_35 : decode cX6_single 35 = .ok (.iconst 1, 1) := by decide +kernel
theorem dX6_single_36 : decode cX6_single 36 = .ok (.invokevirtual 52, 3) := by decide +kernel
theorem dX6_single_39 : decode cX6_single 39 = .ok (.iconst 0, 1) := by decide +kernel
theorem dX6_single_40 : decode cX6_single 40 = .ok (.ireturn, 1) := by decide +kernel
theorem dX6_single_41 : decode cX6_single 41 = .ok (.aload_n 0, 1) := by decide +kernel
theorem dX6_single_42 : decode cX6_single 42 = .ok (.getfield 9, 3) := by decide +kernel
theorem dX6_single_45 : decode cX6_single 45 = .ok (.iload_n 1, 1) := by decide +kernel
theorem dX6_single_46 : decode cX6_single 46 = .ok (.invokevirtual 94, 3) := by decide +kernel
theorem dX6_single_49 : decode cX6_single 49 = .ok (.ifCond .ne 5, 3) := by decide +kernel
theorem dX6_single_52 : decode cX6_single 52 = .ok (.iconst 0, 1) := by decide +kernel
theorem dX6_single_53 : decode cX6_single 53 = .ok (.ireturn, 1) := by decide +kernel
theorem dX6_single_54 : decode cX6_single 54 = .ok (.iload_n 2, 1) := by decide +kernel
theorem dX6_single_55 : decode cX6_single 55 = .ok (.bipush 45, 2) := by decide +kernel
theorem dX6_single_57 : decode cX6_single 57 = .ok (.if_icmp .ne 24, 3) := by decide +kernel
theorem dX6_single_60 : decode cX6_single 60 = .ok (.aload_n 0, 1) := by decide +kernel
theorem dX6_single_61 : decode cX6_single 61 = .ok (.dup, 1) := by decide +kernel
theorem dX6_single_62 : decode cX6_single 62 = .ok (.getfield 26, 3) := by decide +kernel
theorem dX6_single_65 : decode cX6_single 65 = .ok (.iconst 1, 1) := by decide +kernel
theorem dX6_single_66 : decode cX6_single 66 = .ok (.iadd, 1) := by decide +kernel
theorem dX6_single_67 : decode cX6_single 67 = .ok (.putfield 26, 3) := by decide +kernel
theorem dX6_single_70 : decode cX6_single 70 = .ok (.bipush 63, 2) := by decide +kernel
theorem dX6_single_72 : decode cX6_single 72 = .ok (.aload_n 0, 1) := by decide +kernel
theorem dX6_single_73 : decode cX6_single 73 = .ok (.iload_n 1, 1) := by decide +kernel
theorem dX6_single_74 : decode cX6_single 74 = .ok (.iconst 1, 1) := by decide +kernel
theorem dX6_single_75 : decode cX6_single 75 = .ok (.iadd, 1) := by decide +kernel
theorem dX6_single_76 : decode cX6_single 76 = .ok (.invokevirtual 81, 3) := by decide +kernel
theorem dX6_single_79 : decode cX6_single 79 = .ok (.ixor, 1) := by decide +kernel
theorem dX6_single_80 : decode cX6_single 80 = .ok (.ireturn, 1) := by decide +kernel
theorem dX6_single_81 : decode cX6_single 81 = .ok (.aload_n 0, 1) := by decide +kernel
theorem dX6_single_82 : decode cX6_single 82 = .ok (.iload_n 1, 1) := by decide +kernel
theorem dX6_single_83 : decode cX6_single 83 = .ok (.iconst 1, 1) := by decide +kernel
theorem dX6_single_84 : decode cX6_single 84 = .ok (.iadd, 1) := by decide +kernel
theorem dX6_single_85 : decode cX6_single 85 = .ok (.invokevirtual 41, 3) := by decide +kernel
theorem dX6_single_88 : decode cX6_single 88 = .ok (.istore_n 3, 1) := by decide +kernel
theorem dX6_single_89 : decode cX6_single 89 = .ok (.aload_n 0, 1) := by decide +kernel
theorem dX6_single_90 : decode cX6_single 90 = .ok (.getfield 9, 3) := by decide +kernel
theorem dX6_single_93 : decode cX6_single 93 = .ok (.bipush 41, 2) := by decide +kernel
theorem dX6_single_95 : decode cX6_single 95 = .ok (.invokevirtual 97, 3) := by decide +kernel
theorem dX6_single_98 : decode cX6_single 98 = .ok (.iload_n 3, 1) := by decide +kernel
theorem dX6_single_99 : decode cX6_single 99 = .ok (.ireturn, 1) := by decide +kernel
theorem dX6_letter_0 : decode cX6_letter 0 = .ok (.aload_n 0, 1) := by decide +kernel
theorem dX6_letter_1 : decode cX6_letter 1 = .ok (.getfield 15, 3) := by decide +kernel
theorem dX6_letter_4 : decode cX6_letter 4 = .ok (.iload_n 1, 1) := by decide +kernel
theorem dX6_letter_5 : decode cX6_letter 5 = .ok (.invokevirtual 100, 3) := by decide +kernel
theorem dX6_letter_8 : decode cX6_letter 8 = .ok (.ifCond .ne 13, 3) := by decide +kernel
theorem dX6_letter_11 : decode cX6_letter 11 = .ok (.aload_n 0, 1) := by decide +kernel
theorem dX6_letter_12 : decode cX6_letter 12 = .ok (.getfield 9, 3) := by decide +kernel
theorem dX6_letter_15 : decode cX6_letter 15 = .ok (.iconst 2, 1) := by decide +kernel
theorem dX6_letter_16 : decode cX6_letter 16 = .ok (.invokevirtual 52, 3) := by decide +kernel
theorem dX6_letter_19 : decode cX6_letter 19 = .ok (.iconst 0, 1) := by decide +kernel
theorem dX6_letter_20 : decode cX6_letter 20 = .ok (.ireturn, 1) := by decide +kernel
theorem dX6_letter_21 : decode cX6_letter 21 = .ok (.aload_n 0, 1) := by decide +kernel
theorem dX6_letter_22 : decode cX6_letter 22 = .ok (.getfield 9, 3) := by decide +kernel
theorem dX6_letter_25 : decode cX6_letter 25 = .ok (.invokevirtual 78, 3) := by decide +kernel
theorem dX6_letter_28 : decode cX6_letter 28 = .ok (.aload_n 0, 1) := by decide +kernel
theorem dX6_letter_29 : decode cX6_letter 29 = .ok (.dup, 1) := by decide +kernel
theorem dX6_letter_30 : decode cX6_letter 30 = .ok (.getfield 19, 3) := by decide +kernel
theorem dX6_letter_33 : decode cX6_letter 33 = .ok (.iconst 1, 1) := by decide +kernel
theorem dX6_letter_34 : decode cX6_letter 34 = .ok (.iload_n 1, 1) := by decide +kernel
theorem dX6_letter_35 : decode cX6_letter 35 = .ok (.ishl, 1) := by decide +kernel
theorem dX6_letter_36 : decode cX6_letter 36 = .ok (.ior, 1) := by decide +kernel
theorem dX6_letter_37 : decode cX6_letter 37 = .ok (.putfield 19, 3) := by decide +kernel
theorem dX6_letter_40 : decode cX6_letter 40 = .ok (.aload_n 0, 1) := by decide +kernel
theorem dX6_letter_41 : decode cX6_letter 41 = .ok (.dup, 1) := by decide +kernel
theorem dX6_letter_42 : decode cX6_letter 42 = .ok (.getfield 23, 3) := by decide +kernel
theorem dX6_letter_45 : decode cX6_letter 45 = .ok (.aload_n 0, 1) := by decide +kernel
theorem dX6_letter_46 : decode cX6_letter 46 = .ok (.getfield 15, 3) := by decide +kernel
theorem dX6_letter_49 : decode cX6_letter 49 = .ok (.iload_n 1, 1) := by decide +kernel
theorem dX6_letter_50 : decode cX6_letter 50 = .ok (.invokevirtual 103, 3) := by decide +kernel
theorem dX6_letter_53 : decode cX6_letter 53 = .ok (.iadd, 1) := by decide +kernel
theorem dX6_letter_54 : decode cX6_letter 54 = .ok (.putfield 23, 3) := by decide +kernel
theorem dX6_letter_57 : decode cX6_letter 57 = .ok (.aload_n 0, 1) := by decide +kernel
theorem dX6_letter_58 : decode cX6_letter 58 = .ok (.getfield 15, 3) := by decide +kernel
theorem dX6_letter_61 : decode cX6_letter 61 = .ok (.iload_n 1, 1) := by decide +kernel
theorem dX6_letter_62 : decode cX6_letter 62 = .ok (.invokevirtual 106, 3) := by decide +kernel
theorem dX6_letter_65 : decode cX6_letter 65 = .ok (.ireturn, 1) := by decide +kernel
theorem dX7_init_0 : decode cX7_init 0 = .ok (.aload_n 0, 1) := by decide +kernel
theorem dX7_init_1 : decode cX7_init 1 = .ok (.invokespecial 3, 3) := by decide +kernel
theorem dX7_init_4 : decode cX7_init 4 = .ok (.aload_n 0, 1) := by decide +kernel
theorem dX7_init_5 : decode cX7_init 5 = .ok (.bipush 64, 2) := by decide +kernel
theorem dX7_init_7 : decode cX7_init 7 = .ok (.newarray .int, 2) := by decide +kernel
theorem dX7_init_9 : decode cX7_init 9 = .ok (.putfield 9, 3) := by decide +kernel
theorem dX7_init_12 : decode cX7_init 12 = .ok (.aload_n 0, 1) := by decide +kernel
theorem dX7_init_13 : decode cX7_init 13 = .ok (.aconst_null, 1) := by decide +kernel
theorem dX7_init_14 : decode cX7_init 14 = .ok (.putfield 15, 3) := by decide +kernel
theorem dX7_init_17 : decode cX7_init 17 = .ok (.aload_n 0, 1) := by decide +kernel
theorem dX7_init_18 : decode cX7_init 18 = .ok (.aload_n 1, 1) := by decide +kernel
theorem dX7_init_19 : decode cX7_init 19 = .ok (.putfield 18, 3) := by decide +kernel
theorem dX7_init_22 : decode cX7_init 22 = .ok (.return_, 1) := by decide +kernel
theorem dX7_solve_0 : decode cX7_solve 0 = .ok (.aload_n 0, 1) := by decide +kernel
theorem dX7_solve_1 : decode cX7_solve 1 = .ok (.iload_n 1, 1) := by decide +kernel
theorem dX7_solve_2 : decode cX7_solve 2 = .ok (.putfield 22, 3) := by decide +kernel
theorem dX7_solve_5 : decode cX7_solve 5 = .ok (.aload_n 0, 1) := by decide +kernel
theorem dX7_solve_6 : decode cX7_solve 6 = .ok (.lconst 0, 1) := by decide +kernel
theorem dX7_solve_7 : decode cX7_solve 7 = .ok (.putfield 26, 3) := by decide +kernel
theorem dX7_solve_10 : decode cX7_solve 10 = .ok (.iconst 0, 1) := by decide +kernel
theorem dX7_solve_11 : decode cX7_solve 11 = .ok (.istore 4, 2) := by decide +kernel
theorem dX7_solve_13 : decode cX7_solve 13 = .ok (.iload 4, 2) := by decide +kernel
theorem dX7_solve_15 : decode cX7_solve 15 = .ok (.bipush 64, 2) := by decide +kernel
theorem dX7_solve_17 : decode cX7_solve 17 = .ok (.if_icmp .ge 18, 3) := by decide +kernel
theorem dX7_solve_20 : decode cX7_solve 20 = .ok (.aload_n 0, 1) := by decide +kernel
theorem dX7_solve_21 : decode cX7_solve 21 = .ok (.getfield 9, 3) := by decide +kernel
theorem dX7_solve_24 : decode cX7_solve 24 = .ok (.iload 4, 2) := by decide +kernel
theorem dX7_solve_26 : decode cX7_solve 26 = .ok (.ldc 30, 2) := by decide +kernel
theorem dX7_solve_28 : decode cX7_solve 28 = .ok (.iastore, 1) := by decide +kernel
theorem dX7_solve_29 : decode cX7_solve 29 = .ok (.iinc 4 1, 3) := by decide +kernel
theorem dX7_solve_32 : decode cX7_solve 32 = .ok (.goto (-19), 3) := by decide +kernel
theorem dX7_solve_35 : decode cX7_solve 35 = .ok (.iconst 0, 1) := by decide +kernel
theorem dX7_solve_36 : decode cX7_solve 36 = .ok (.istore 4, 2) := by decide +kernel
theorem dX7_solve_38 : decode cX7_solve 38 = .ok (.iload 4, 2) := by decide +kernel
theorem dX7_solve_40 : decode cX7_solve 40 = .ok (.bipush 10, 2) := by decide +kernel
theorem dX7_solve_42 : decode cX7_solve 42 = .ok (.if_icmp .ge 55, 3) := by decide +kernel
theorem dX7_solve_45 : decode cX7_solve 45 = .ok (.aload_n 0, 1) := by decide +kernel
theorem dX7_solve_46 : decode cX7_solve 46 = .ok (.getfield 22, 3) := by decide +kernel
theorem dX7_solve_49 : decode cX7_solve 49 = .ok (.iload 4, 2) := by decide +kernel
theorem dX7_solve_51 : decode cX7_solve 51 = .ok (.invokestatic 31, 3) := by decide +kernel
theorem dX7_solve_54 : decode cX7_solve 54 = .ok (.ifCond .eq 37, 3) := by decide +kernel
theorem dX7_solve_57 : decode cX7_solve 57 = .ok (.aload_n 0, 1) := by decide +kernel
theorem dX7_solve_58 : decode cX7_solve 58 = .ok (.getfield 18, 3) := by decide +kernel
theorem dX7_solve_61 : decode cX7_solve 61 = .ok (.iload 4, 2) := by decide +kernel
theorem dX7_solve_63 : decode cX7_solve 63 = .ok (.invokevirtual 35, 3) := by decide +kernel
theorem dX7_solve_66 : decode cX7_solve 66 = .ok (.ifCond .eq 25, 3) := by decide +kernel
theorem dX7_solve_69 : decode cX7_solve 69 = .ok (.aload_n 0, 1) := by decide +kernel
theorem dX7_solve_70 : decode cX7_solve 70 = .ok (.aload_n 0, 1) := by decide +kernel
theorem dX7_solve_71 : decode cX7_solve 71 = .ok (.getfield 18, 3) := by decide +kernel
theorem dX7_solve_74 : decode cX7_solve 74 = .ok (.iload 4, 2) := by decide +kernel
theorem dX7_solve_76 : decode cX7_solve 76 = .ok (.invokevirtual 41, 3) := by decide +kernel
theorem dX7_solve_79 : decode cX7_solve 79 = .ok (.aload_n 0, 1) := by decide +kernel
theorem dX7_solve_80 : decode cX7_solve 80 = .ok (.getfield 18, 3) := by decide +kernel
theorem dX7_solve_83 : decode cX7_solve 83 = .ok (.iload 4, 2) := by decide +kernel
theorem dX7_solve_85 : decode cX7_solve 85 = .ok (.invokevirtual 45, 3) := by decide +kernel
theorem dX7_solve_88 : decode cX7_solve 88 = .ok (.invokevirtual 48, 3) := by decide +kernel
theorem dX7_solve_91 : decode cX7_solve 91 = .ok (.iinc 4 1, 3) := by decide +kernel
theorem dX7_solve_94 : decode cX7_solve 94 = .ok (.goto (-56), 3) := by decide +kernel
theorem dX7_solve_97 : decode cX7_solve 97 = .ok (.aload_n 0, 1) := by decide +kernel
theorem dX7_solve_98 : decode cX7_solve 98 = .ok (.iload_n 2, 1) := by decide +kernel
theorem dX7_solve_99 : decode cX7_solve 99 = .ok (.iload_n 3, 1) := by decide +kernel
theorem dX7_solve_100 : decode cX7_solve 100 = .ok (.invokevirtual 48, 3) := by decide +kernel
theorem dX7_solve_103 : decode cX7_solve 103 = .ok (.aload_n 0, 1) := by decide +kernel
theorem dX7_solve_104 : decode cX7_solve 104 = .ok (.aload_n 0, 1) := by decide +kernel
theorem dX7_solve_105 : decode cX7_solve 105 = .ok (.getfield 18, 3) := by decide +kernel
theorem dX7_solve_108 : decode cX7_solve 108 = .ok (.iconst 1, 1) := by decide +kernel
theorem dX7_solve_109 : decode cX7_solve 109 = .ok (.aload_n 0, 1) := by decide +kernel
theorem dX7_solve_110 : decode cX7_solve 110 = .ok (.getfield 22, 3) := by decide +kernel
theorem dX7_solve_113 : decode cX7_solve 113 = .ok (.invokevirtual 52, 3) := by decide +kernel
theorem dX7_solve_116 : decode cX7_solve 116 = .ok (.putfield 56, 3) := by decide +kernel
theorem dX7_solve_119 : decode cX7_solve 119 = .ok (.aload_n 0, 1) := by decide +kernel
theorem dX7_solve_120 : decode cX7_solve 120 = .ok (.aload_n 0, 1) := by decide +kernel
theorem dX7_solve_121 : decode cX7_solve 121 = .ok (.getfield 18, 3) := by decide +kernel
theorem dX7_solve_124 : decode cX7_solve 124 = .ok (.iconst 2, 1) := by decide +kernel
theorem dX7_solve_125 : decode cX7_solve 125 = .ok (.aload_n 0, 1) := by decide +kernel
theorem dX7_solve_126 : decode cX7_solve 126 = .ok (.getfield 22, 3) := by decide +kernel
theorem dX7_solve_129 : decode cX7_solve 129 = .ok (.invokevirtual 52, 3) := by decide +kernel
theorem dX7_solve_132 : decode cX7_solve 132 = .ok (.putfield 59, 3) := by decide +kernel
theorem dX7_solve_135 : decode cX7_solve 135 = .ok (.aload_n 0, 1) := by decide +kernel
theorem dX7_solve_136 : decode cX7_solve 136 = .ok (.aload_n 0, 1) := by decide +kernel
theorem dX7_solve_137 : decode cX7_solve 137 = .ok (.getfield 18, 3) := by decide +kernel
theorem dX7_solve_140 : decode cX7_solve 140 = .ok (.iconst 3, 1) := by decide +kernel
theorem dX7_solve_141 : decode cX7_solve 141 = .ok (.aload_n 0, 1) := by decide +kernel
theorem dX7_solve_142 : decode cX7_solve 142 = .ok (.getfield 22, 3) := by decide +kernel
theorem dX7_solve_145 : decode cX7_solve 145 = .ok (.invokevirtual 52, 3) := by decide +kernel
theorem dX7_solve_148 : decode cX7_solve 148 = .ok (.putfield 62, 3) := by decide +kernel
theorem dX7_solve_151 : decode cX7_solve 151 = .ok (.aload_n 0, 1) := by decide +kernel
theorem dX7_solve_152 : decode cX7_solve 152 = .ok (.invokevirtual 65, 3) := by decide +kernel
theorem dX7_solve_155 : decode cX7_solve 155 = .ok (.return_, 1) := by decide +kernel
theorem dX7_offer_0 : decode cX7_offer 0 = .ok (.iload_n 2, 1) := by decide +kernel
theorem dX7_offer_1 : decode cX7_offer 1 = .ok (.aload_n 0, 1) := by decide +kernel
theorem dX7_offer_2 : decode cX7_offer 2 = .ok (.getfield 9, 3) := by decide +kernel
theorem dX7_offer_5 : decode cX7_offer 5 = .ok (.iload_n 1, 1) := by decide +kernel
theorem dX7_offer_6 : decode cX7_offer 6 = .ok (.bipush 63, 2) := by decide +kernel
theorem dX7_offer_8 : decode cX7_offer 8 = .ok (.iand, 1) := by decide +kernel
theorem dX7_offer_9 : decode cX7_offer 9 = .ok (.iaload, 1) := by decide +kernel
theorem dX7_offer_10 : decode cX7_offer 10 = .ok (.if_icmp .ge 13, 3) := by decide +kernel
theorem dX7_offer_13 : decode cX7_offer 13 = .ok (.aload_n 0, 1) := by decide +kernel
theorem dX7_offer_14 : decode cX7_offer 14 = .ok (.getfield 9, 3) := by decide +kernel
theorem dX7_offer_17 : decode cX7_offer 17 = .ok (.iload_n 1, 1) := by decide +kernel
theorem dX7_offer_18 : decode cX7_offer 18 = .ok (.bipush 63, 2) := by decide +kernel
theorem dX7_offer_20 : decode cX7_offer 20 = .ok (.iand, 1) := by decide +kernel
theorem dX7_offer_21 : decode cX7_offer 21 = .ok (.iload_n 2, 1) := by decide +kernel
theorem dX7_offer_22 : decode cX7_offer 22 = .ok (.iastore, 1) := by decide +kernel
theorem dX7_offer_23 : decode cX7_offer 23 = .ok (.return_, 1) := by decide +kernel
theorem dX7_settle_0 : decode cX7_settle 0 = .ok (.lconst 0, 1) := by decide +kernel
theorem dX7_settle_1 : decode cX7_settle 1 = .ok (.lstore_n 1, 1) := by decide +kernel
theorem dX7_settle_2 : decode cX7_settle 2 = .ok (.iconst 0, 1) := by decide +kernel
theorem dX7_settle_3 : decode cX7_settle 3 = .ok (.istore_n 3, 1) := by decide +kernel
theorem dX7_settle_4 : decode cX7_settle 4 = .ok (.iload_n 3, 1) := by decide +kernel
theorem dX7_settle_5 : decode cX7_settle 5 = .ok (.bipush 64, 2) := by decide +kernel
theorem dX7_settle_7 : decode cX7_settle 7 = .ok (.if_icmp .ge 212, 3) := by decide +kernel
theorem dX7_settle_10 : decode cX7_settle 10 = .ok (.iconst (-1), 1) := by decide +kernel
theorem dX7_settle_11 : decode cX7_settle 11 = .ok (.istore 4, 2) := by decide +kernel
theorem dX7_settle_13 : decode cX7_settle 13 = .ok (.ldc 30, 2) := by decide +kernel
theorem dX7_settle_15 : decode cX7_settle 15 = .ok (.istore 5, 2) := by decide +kernel
theorem dX7_settle_17 : decode cX7_settle 17 = .ok (.iconst 0, 1) := by decide +kernel
theorem dX7_settle_18 : decode cX7_settle 18 = .ok (.istore 6, 2) := by decide +kernel
theorem dX7_settle_20 : decode cX7_settle 20 = .ok (.iload 6, 2) := by decide +kernel
theorem dX7_settle_22 : decode cX7_settle 22 = .ok (.bipush 64, 2) := by decide +kernel
theorem dX7_settle_24 : decode cX7_settle 24 = .ok (.if_icmp .ge 45, 3) := by decide +kernel
theorem dX7_settle_27 : decode cX7_settle 27 = .ok (.aload_n 0, 1) := by decide +kernel
theorem dX7_settle_28 : decode cX7_settle 28 = .ok (.getfield 9, 3) := by decide +kernel
theorem dX7_settle_31 : decode cX7_settle 31 = .ok (.iload 6, 2) := by decide +kernel
theorem dX7_settle_33 : decode cX7_settle 33 = .ok (.iaload, 1) := by decide +kernel
theorem dX7_settle_34 : decode cX7_settle 34 = .ok (.iload 5, 2) := by decide +kernel
theorem dX7_settle_36 : decode cX7_settle 36 = .ok (.if_icmp .ge 27, 3) := by decide +kernel
theorem dX7_settle_39 : decode cX7_settle 39 = .ok (.lload_n 1, 1) := by decide +kernel
theorem dX7_settle_40 : decode cX7_settle 40 = .ok (.iload 6, 2) := by decide +kernel
theorem dX7_settle_42 : decode cX7_settle 42 = .ok (.lshr, 1) := by decide +kernel
theorem dX7_settle_43 : decode cX7_settle 43 = .ok (.lconst 1, 1) := by decide +kernel
theorem dX7_settle_44 : decode cX7_settle 44 = .ok (.land, 1) := by decide +kernel
theorem dX7_settle_45 : decode cX7_settle 45 = .ok (.lconst 0, 1) := by decide +kernel
theorem dX7_settle_46 : decode cX7_settle 46 = .ok (.lcmp, 1) := by decide +kernel
theorem dX7_settle_47 : decode cX7_settle 47 = .ok (.ifCond .ne 16, 3) := by decide +kernel
theorem dX7_settle_50 : decode cX7_settle 50 = .ok (.iload 6, 2) := by decide +kernel
theorem dX7_settle_52 : decode cX7_settle 52 = .ok (.istore 4, 2) := by decide +kernel
theorem dX7_settle_54 : decode cX7_settle 54 = .ok (.aload_n 0, 1) := by decide +kernel
theorem dX7_settle_55 : decode cX7_settle 55 = .ok (.getfield 9, 3) := by decide +kernel
theorem dX7_settle_58 : decode cX7_settle 58 = .ok (.iload 6, 2) := by decide +kernel
theorem dX7_settle_60 : decode cX7_settle 60 = .ok (.iaload, 1) := by decide +kernel
theorem dX7_settle_61 : decode cX7_settle 61 = .ok (.istore 5, 2) := by decide +kernel
theorem dX7_settle_63 : decode cX7_settle 63 = .ok (.iinc 6 1, 3) := by decide +kernel
theorem dX7_settle_66 : decode cX7_settle 66 = .ok (.goto (-46), 3) := by decide +kernel
theorem dX7_settle_69 : decode cX7_settle 69 = .ok (.iload 4, 2) := by decide +kernel
theorem dX7_settle_71 : decode cX7_settle 71 = .ok (.iconst (-1), 1) := by decide +kernel
theorem dX7_settle_72 : decode cX7_settle 72 = .ok (.if_icmp .ne 4, 3) := by decide +kernel
theorem dX7_settle_75 : decode cX7_settle 75 = .ok (.return_, 1) := by decide +kernel
theorem dX7_settle_76 : decode cX7_settle 76 = .ok (.aload_n 0, 1) := by decide +kernel
theorem dX7_settle_77 : decode cX7_settle 77 = .ok (.getfield 56, 3) := by decide +kernel
theorem dX7_settle_80 : decode cX7_settle 80 = .ok (.ifCond .le 19, 3) := by decide +kernel
theorem dX7_settle_83 : decode cX7_settle 83 = .ok (.aload_n 0, 1) := by decide +kernel
theorem dX7_settle_84 : decode cX7_settle 84 = .ok (.bipush 63, 2) := by decide +kernel
theorem dX7_settle_86 : decode cX7_settle 86 = .ok (.iload 4, 2) := by decide +kernel
theorem dX7_settle_88 : decode cX7_settle 88 = .ok (.ixor, 1) := by decide +kernel
theorem dX7_settle_89 : decode cX7_settle 89 = .ok (.iload 5, 2) := by decide +kernel
theorem dX7_settle_91 : decode cX7_settle 91 = .ok (.aload_n 0, 1) := by decide +kernel
theorem dX7_settle_92 : decode cX7_settle 92 = .ok (.getfield 56, 3) := by decide +kernel
theorem dX7_settle_95 : decode cX7_settle 95 = .ok (.iadd, 1) := by decide +kernel
theorem dX7_settle_96 : decode cX7_settle 96 = .ok (.invokevirtual 48, 3) := by decide +kernel
theorem dX7_settle_99 : decode cX7_settle 99 = .ok (.iconst 0, 1) := by decide +kernel
theorem dX7_settle_100 : decode cX7_settle 100 = .ok (.istore 6, 2) := by decide +kernel
theorem dX7_settle_102 : decode cX7_settle 102 = .ok (.iload 6, 2) := by decide +kernel
theorem dX7_settle_104 : decode cX7_settle 104 = .ok (.bipush 64, 2) := by decide +kernel
theorem dX7_settle_106 : decode cX7_settle 106 = .ok (.if_icmp .ge 100, 3) := by decide +kernel
theorem dX7_settle_109 : decode cX7_settle 109 = .ok (.aload_n 0, 1) := by decide +kernel
theorem dX7_settle_110 : decode cX7_settle 110 = .ok (.getfield 59, 3) := by decide +kernel
theorem dX7_settle_113 : decode cX7_settle 113 = .ok (.aload_n 0, 1) := by decide +kernel
theorem dX7_settle_114 : decode cX7_settle 114 = .ok (.getfield 62, 3) := by decide +kernel
theorem dX7_settle_117 : decode cX7_settle 117 = .ok (.iadd, 1) := by decide +kernel
theorem dX7_settle_118 : decode cX7_settle 118 = .ok (.ifCond .le 88, 3) := by decide +kernel
theorem dX7_settle_121 : decode cX7_settle 121 = .ok (.lload_n 1, 1) := by decide +kernel
theorem dX7_settle_122 : decode cX7_settle 122 = .ok (.iload 6, 2) := by decide +kernel
theorem dX7_settle_124 : decode cX7_settle 124 = .ok (.lshr, 1) := by decide +kernel
theorem dX7_settle_125 : decode cX7_settle 125 = .ok (.lconst 1, 1) := by decide +kernel
theorem dX7_settle_126 : decode cX7_settle 126 = .ok (.land, 1) := by decide +kernel
theorem dX7_settle_127 : decode cX7_settle 127 = .ok (.lconst 1, 1) := by decide +kernel
theorem dX7_settle_128 : decode cX7_settle 128 = .ok (.lcmp, 1) := by decide +kernel
theorem dX7_settle_129 : decode cX7_settle 129 = .ok (.ifCond .ne 71, 3) := by decide +kernel
theorem dX7_settle_132 : decode cX7_settle 132 = .ok (.iload 5, 2) := by decide +kernel
theorem dX7_settle_134 : decode cX7_settle 134 = .ok (.aload_n 0, 1) := by decide +kernel
theorem dX7_settle_135 : decode cX7_settle 135 = .ok (.getfield 9, 3) := by decide +kernel
theorem dX7_settle_138 : decode cX7_settle 138 = .ok (.iload 6, 2) := by decide +kernel
theorem dX7_settle_140 : decode cX7_settle 140 = .ok (.iaload, 1) := by decide +kernel
theorem dX7_settle_141 : decode cX7_settle 141 = .ok (.iadd, 1) := by decide +kernel
theorem dX7_settle_142 : decode cX7_settle 142 = .ok (.istore 7, 2) := by decide +kernel
theorem dX7_settle_144 : decode cX7_settle 144 = .ok (.aload_n 0, 1) := by decide +kernel
theorem dX7_settle_145 : decode cX7_settle 145 = .ok (.iload 4, 2) := by decide +kernel
theorem dX7_settle_147 : decode cX7_settle 147 = .ok (.iload 6, 2) := by decide +kernel
theorem dX7_settle_149 : decode cX7_settle 149 = .ok (.iand, 1) := by decide +kernel
theorem dX7_settle_150 : decode cX7_settle 150 = .ok (.aload_n 0, 1) := by decide +kernel
theorem dX7_settle_151 : decode cX7_settle 151 = .ok (.getfield 59, 3) := by decide +kernel
theorem dX7_settle_154 : decode cX7_settle 154 = .ok (.ifCond .le 13, 3) := by decide +kernel
theorem dX7_settle_157 : decode cX7_settle 157 = .ok (.iload 7, 2) := by decide +kernel
theorem dX7_settle_159 : decode cX7_settle 159 = .ok (.aload_n 0, 1) := by decide +kernel
theorem dX7_settle_160 : decode cX7_settle 160 = .ok (.getfield 59, 3) := by decide +kernel
theorem dX7_settle_163 : decode cX7_settle 163 = .ok (.iadd, 1) := by decide +kernel
theorem dX7_settle_164 : decode cX7_settle 164 = .ok (.goto 5, 3) := by decide +kernel
theorem dX7_settle_167 : decode cX7_settle 167 = .ok (.ldc 30, 2) := by decide +kernel
theorem dX7_settle_169 : decode cX7_settle 169 = .ok (.invokevirtual 48, 3) := by decide +kernel
theorem dX7_settle_172 : decode cX7_settle 172 = .ok (.aload_n 0, 1) := by decide +kernel
theorem dX7_settle_173 : decode cX7_settle 173 = .ok (.iload 4, 2) := by decide +kernel
theorem dX7_settle_175 : decode cX7_settle 175 = .ok (.iload 6, 2) := by decide +kernel
theorem dX7_settle_177 : decode cX7_settle 177 = .ok (.ior, 1) := by decide +kernel
theorem dX7_settle_178 : decode cX7_settle 178 = .ok (.aload_n 0, 1) := by decide +kernel
theorem dX7_settle_179 : decode cX7_settle 179 = .ok (.getfield 62, 3) := by decide +kernel
theorem dX7_settle_182 : decode cX7_settle 182 = .ok (.ifCond .le 13, 3) := by decide +kernel
theorem dX7_settle_185 : decode cX7_settle 185 = .ok (.iload 7, 2) := by decide +kernel
theorem dX7_settle_187 : decode cX7_settle 187 = .ok (.aload_n 0, 1) := by decide +kernel
theorem dX7_settle_188 : decode cX7_settle 188 = .ok (.getfield 62, 3) := by decide +kernel
theorem dX7_settle_191 : decode cX7_settle 191 = .ok (.iadd, 1) := by decide +kernel
theorem dX7_settle_192 : decode cX7_settle 192 = .ok (.goto 5, 3) := by decide +kernel
theorem dX7_settle_195 : decode cX7_settle 195 = .ok (.ldc 30, 2) := by decide +kernel
theorem dX7_settle_197 : decode cX7_settle 197 = .ok (.invokevirtual 48, 3) := by decide +kernel
theorem dX7_settle_200 : decode cX7_settle 200 = .ok (.iinc 6 1, 3) := by decide +kernel
theorem dX7_settle_203 : decode cX7_settle 203 = .ok (.goto (-101), 3) := by decide +kernel
theorem dX7_settle_206 : decode cX7_settle 206 = .ok (.lload_n 1, 1) := by decide +kernel
theorem dX7_settle_207 : decode cX7_settle 207 = .ok (.lconst 1, 1) := by decide +kernel
theorem dX7_settle_208 : decode cX7_settle 208 = .ok (.iload 4, 2) := by decide +kernel
theorem dX7_settle_210 : decode cX7_settle 210 = .ok (.lshl, 1) := by decide +kernel
theorem dX7_settle_211 : decode cX7_settle 211 = .ok (.lor, 1) := by decide +kernel
theorem dX7_settle_212 : decode cX7_settle 212 = .ok (.lstore_n 1, 1) := by decide +kernel
theorem dX7_settle_213 : decode cX7_settle 213 = .ok (.iinc 3 1, 3) := by decide +kernel
theorem dX7_settle_216 : decode cX7_settle 216 = .ok (.goto (-212), 3) := by decide +kernel
theorem dX7_settle_219 : decode cX7_settle 219 = .ok (.return_, 1) := by decide +kernel
theorem dX7_shortest_0 : decode cX7_shortest 0 = .ok (.aload_n 0, 1) := by decide +kernel
theorem dX7_shortest_1 : decode cX7_shortest 1 = .ok (.getfield 9, 3) := by decide +kernel
theorem dX7_shortest_4 : decode cX7_shortest 4 = .ok (.iload_n 1, 1) := by decide +kernel
theorem dX7_shortest_5 : decode cX7_shortest 5 = .ok (.bipush 63, 2) := by decide +kernel
theorem dX7_shortest_7 : decode cX7_shortest 7 = .ok (.iand, 1) := by decide +kernel
theorem dX7_shortest_8 : decode cX7_shortest 8 = .ok (.iaload, 1) := by decide +kernel
theorem dX7_shortest_9 : decode cX7_shortest 9 = .ok (.istore_n 2, 1) := by decide +kernel
theorem dX7_shortest_10 : decode cX7_shortest 10 = .ok (.iload_n 2, 1) := by decide +kernel
theorem dX7_shortest_11 : decode cX7_shortest 11 = .ok (.ldc 30, 2) := by decide +kernel
theorem dX7_shortest_13 : decode cX7_shortest 13 = .ok (.if_icmp .ge 7, 3) := by decide +kernel
theorem dX7_shortest_16 : decode cX7_shortest 16 = .ok (.iload_n 2, 1) := by decide +kernel
theorem dX7_shortest_17 : decode cX7_shortest 17 = .ok (.goto 5, 3) := by decide +kernel
theorem dX7_shortest_20 : decode cX7_shortest 20 = .ok (.bipush (-2), 2) := by decide +kernel
theorem dX7_shortest_22 : decode cX7_shortest 22 = .ok (.ireturn, 1) := by decide +kernel
theorem dX7_manner_0 : decode cX7_manner 0 = .ok (.aload_n 0, 1) := by decide +kernel
theorem dX7_manner_1 : decode cX7_manner 1 = .ok (.getfield 9, 3) := by decide +kernel
theorem dX7_manner_4 : decode cX7_manner 4 = .ok (.iload_n 1, 1) := by decide +kernel
theorem dX7_manner_5 : decode cX7_manner 5 = .ok (.bipush 63, 2) := by decide +kernel
theorem dX7_manner_7 : decode cX7_manner 7 = .ok (.iand, 1) := by decide +kernel
theorem dX7_manner_8 : decode cX7_manner 8 = .ok (.iaload, 1) := by decide +kernel
theorem dX7_manner_9 : decode cX7_manner 9 = .ok (.istore_n 2, 1) := by decide +kernel
theorem dX7_manner_10 : decode cX7_manner 10 = .ok (.iconst 0, 1) := by decide +kernel
theorem dX7_manner_11 : decode cX7_manner 11 = .ok (.istore_n 3, 1) := by decide +kernel
theorem dX7_manner_12 : decode cX7_manner 12 = .ok (.iload_n 3, 1) := by decide +kernel
theorem dX7_manner_13 : decode cX7_manner 13 = .ok (.bipush 10, 2) := by decide +kernel
theorem dX7_manner_15 : decode cX7_manner 15 = .ok (.if_icmp .ge 62, 3) := by decide +kernel
theorem dX7_manner_18 : decode cX7_manner 18 = .ok (.aload_n 0, 1) := by decide +kernel
theorem dX7_manner_19 : decode cX7_manner 19 = .ok (.getfield 22, 3) := by decide +kernel
theorem dX7_manner_22 : decode cX7_manner 22 = .ok (.iload_n 3, 1) := by decide +kernel
theorem dX7_manner_23 : decode cX7_manner 23 = .ok (.invokestatic 31, 3) := by decide +kernel
theorem dX7_manner_26 : decode cX7_manner 26 = .ok (.ifCond .eq 45, 3) := by decide +kernel
theorem dX7_manner_29 : decode cX7_manner 29 = .ok (.aload_n 0, 1) := by decide +kernel
theorem dX7_manner_30 : decode cX7_manner 30 = .ok (.getfield 18, 3) := by decide +kernel
theorem dX7_manner_33 : decode cX7_manner 33 = .ok (.iload_n 3, 1) := by decide +kernel
theorem dX7_manner_34 : decode cX7_manner 34 = .ok (.invokevirtual 35, 3) := by decide +kernel
theorem dX7_manner_37 : decode cX7_manner 37 = .ok (.ifCond .eq 34, 3) := by decide +kernel
theorem dX7_manner_40 : decode cX7_manner 40 = .ok (.aload_n 0, 1) := by decide +kernel
theorem dX7_manner_41 : decode cX7_manner 41 = .ok (.getfield 18, 3) := by decide +kernel
theorem dX7_manner_44 : decode cX7_manner 44 = .ok (.iload_n 3, 1) := by decide +kernel
theorem dX7_manner_45 : decode cX7_manner 45 = .ok (.invokevirtual 41, 3) := by decide +kernel
theorem dX7_manner_48 : decode cX7_manner 48 = .ok (.iload_n 1, 1) := by decide +kernel
theorem dX7_manner_49 : decode cX7_manner 49 = .ok (.if_icmp .ne 22, 3) := by decide +kernel
theorem dX7_manner_52 : decode cX7_manner 52 = .ok (.aload_n 0, 1) := by decide +kernel
theorem dX7_manner_53 : decode cX7_manner 53 = .ok (.getfield 18, 3) := by decide +kernel
theorem dX7_manner_56 : decode cX7_manner 56 = .ok (.iload_n 3, 1) := by decide +kernel
theorem dX7_manner_57 : decode cX7_manner 57 = .ok (.invokevirtual 45, 3) := by decide +kernel
theorem dX7_manner_60 : decode cX7_manner 60 = .ok (.iload_n 2, 1) := by decide +kernel
theorem dX7_manner_61 : decode cX7_manner 61 = .ok (.if_icmp .ne 10, 3) := by decide +kernel
theorem dX7_manner_64 : decode cX7_manner 64 = .ok (.iconst 0, 1) := by decide +kernel
theorem dX7_manner_65 : decode cX7_manner 65 = .ok (.iload_n 3, 1) := by decide +kernel
theorem dX7_manner_66 : decode cX7_manner 66 = .ok (.iconst 0, 1) := by decide +kernel
theorem dX7_manner_67 : decode cX7_manner 67 = .ok (.invokestatic 68, 3) := by decide +kernel
theorem dX7_manner_70 : decode cX7_manner 70 = .ok (.ireturn, 1) := by decide +kernel
theorem dX7_manner_71 : decode cX7_manner 71 = .ok (.iinc 3 1, 3) := by decide +kernel
theorem dX7_manner_74 : decode cX7_manner 74 = .ok (.goto (-62), 3) := by decide +kernel
theorem dX7_manner_77 : decode cX7_manner 77 = .ok (.bipush 63, 2) := by decide +kernel
theorem dX7_manner_79 : decode cX7_manner 79 = .ok (.iload_n 1, 1) := by decide +kernel
theorem dX7_manner_80 : decode cX7_manner 80 = .ok (.bipush 63, 2) := by decide +kernel
theorem dX7_manner_82 : decode cX7_manner 82 = .ok (.iand, 1) := by decide +kernel
theorem dX7_manner_83 : decode cX7_manner 83 = .ok (.ixor, 1) := by decide +kernel
theorem dX7_manner_84 : decode cX7_manner 84 = .ok (.istore_n 3, 1) := by decide +kernel
theorem dX7_manner_85 : decode cX7_manner 85 = .ok (.aload_n 0, 1) := by decide +kernel
theorem dX7_manner_86 : decode cX7_manner 86 = .ok (.getfield 56, 3) := by decide +kernel
theorem dX7_manner_89 : decode cX7_manner 89 = .ok (.ifCond .le 25, 3) := by decide +kernel
theorem dX7_manner_92 : decode cX7_manner 92 = .ok (.aload_n 0, 1) := by decide +kernel
theorem dX7_manner_93 : decode cX7_manner 93 = .ok (.getfield 9, 3) := by decide +kernel
theorem dX7_manner_96 : decode cX7_manner 96 = .ok (.iload_n 3, 1) := by decide +kernel
theorem dX7_manner_97 : decode cX7_manner 97 = .ok (.iaload, 1) := by decide +kernel
theorem dX7_manner_98 : decode cX7_manner 98 = .ok (.aload_n 0, 1) := by decide +kernel
theorem dX7_manner_99 : decode cX7_manner 99 = .ok (.getfield 56, 3) := by decide +kernel
theorem dX7_manner_102 : decode cX7_manner 102 = .ok (.iadd, 1) := by decide +kernel
theorem dX7_manner_103 : decode cX7_manner 103 = .ok (.iload_n 2, 1) := by decide +kernel
theorem dX7_manner_104 : decode cX7_manner 104 = .ok (.if_icmp .ne 10, 3) := by decide +kernel
theorem dX7_manner_107 : decode cX7_manner 107 = .ok (.iconst 1, 1) := by decide +kernel
theorem dX7_manner_108 : decode cX7_manner 108 = .ok (.iload_n 3, 1) := by decide +kernel
theorem dX7_manner_109 : decode cX7_manner 109 = .ok (.iconst 0, 1) := by decide +kernel
theorem dX7_manner_110 : decode cX7_manner 110 = .ok (.invokestatic 68, 3) := by decide +kernel
theorem dX7_manner_113 : decode cX7_manner 113 = .ok (.ireturn, 1) := by decide +kernel
theorem dX7_manner_114 : decode cX7_manner 114 = .ok (.aload_n 0, 1) := by decide +kernel
theorem dX7_manner_115 : decode cX7_manner 115 = .ok (.getfield 59, 3) := by decide +kernel
theorem dX7_manner_118 : decode cX7_manner 118 = .ok (.ifCond .le 18, 3) := by decide +kernel
theorem dX7_manner_121 : decode cX7_manner 121 = .ok (.aload_n 0, 1) := by decide +kernel
theorem dX7_manner_122 : decode cX7_manner 122 = .ok (.iconst 2, 1) := by decide +kernel
theorem dX7_manner_123 : decode cX7_manner 123 = .ok (.iload_n 1, 1) := by decide +kernel
theorem dX7_manner_124 : decode cX7_manner 124 = .ok (.iload_n 2, 1) := by decide +kernel
theorem dX7_manner_125 : decode cX7_manner 125 = .ok (.aload_n 0, 1) := by decide +kernel
theorem dX7_manner_126 : decode cX7_manner 126 = .ok (.getfield 59, 3) := by decide +kernel
theorem dX7_manner_129 : decode cX7_manner 129 = .ok (.isub, 1) := by decide +kernel
theorem dX7_manner_130 : decode cX7_manner 130 = .ok (.invokevirtual 72, 3) := by decide +kernel
theorem dX7_manner_133 : decode cX7_manner 133 = .ok (.goto 4, 3) := by decide +kernel
theorem dX7_manner_136 : decode cX7_manner 136 = .ok (.iconst (-1), 1) := by decide +kernel
theorem dX7_manner_137 : decode cX7_manner 137 = .ok (.istore 4, 2) := by decide +kernel
theorem dX7_manner_139 : decode cX7_manner 139 = .ok (.iload 4, 2) := by decide +kernel
theorem dX7_manner_141 : decode cX7_manner 141 = .ok (.iconst (-1), 1) := by decide +kernel
