theorem dX12_order_112 : decode cX12_order 112 = .ok (.iinc 4 1, 3) := by decide +kernel
theorem dX12_order_115 : decode cX12_order 115 = .ok (.goto (-48), 3) := by decide +kernel
theorem dX12_order_118 : decode cX12_order 118 = .ok (.iload_n 3, 1) := by decide +kernel
theorem dX12_order_119 : decode cX12_order 119 = .ok (.iconst 1, 1) := by decide +kernel
theorem dX12_order_120 : decode cX12_order 120 = .ok (.iload 4, 2) := by decide +kernel
theorem dX12_order_122 : decode cX12_order 122 = .ok (.ishl, 1) := by decide +kernel
theorem dX12_order_123 : decode cX12_order 123 = .ok (.iconst (-1), 1) := by decide +kernel
theorem dX12_order_124 : decode cX12_order 124 = .ok (.ixor, 1) := by decide +kernel
theorem dX12_order_125 : decode cX12_order 125 = .ok (.iand, 1) := by decide +kernel
theorem dX12_order_126 : decode cX12_order 126 = .ok (.istore_n 3, 1) := by decide +kernel
theorem dX12_order_127 : decode cX12_order 127 = .ok (.iinc 5 1, 3) := by decide +kernel
theorem dX12_order_130 : decode cX12_order 130 = .ok (.goto (-72), 3) := by decide +kernel
theorem dX12_order_133 : decode cX12_order 133 = .ok (.iload 4, 2) := by decide +kernel
theorem dX12_order_135 : decode cX12_order 135 = .ok (.i2l, 1) := by decide +kernel
theorem dX12_order_136 : decode cX12_order 136 = .ok (.lreturn, 1) := by decide +kernel
theorem dX12_gap_0 : decode cX12_gap 0 = .ok (.aload_n 0, 1) := by decide +kernel
theorem dX12_gap_1 : decode cX12_gap 1 = .ok (.iload_n 1, 1) := by decide +kernel
theorem dX12_gap_2 : decode cX12_gap 2 = .ok (.invokevirtual 425, 3) := by decide +kernel
theorem dX12_gap_5 : decode cX12_gap 5 = .ok (.ifCond .ne 7, 3) := by decide +kernel
theorem dX12_gap_8 : decode cX12_gap 8 = .ok (.ldc2_w 374, 3) := by decide +kernel
theorem dX12_gap_11 : decode cX12_gap 11 = .ok (.lreturn, 1) := by decide +kernel
theorem dX12_gap_12 : decode cX12_gap 12 = .ok (.aload_n 0, 1) := by decide +kernel
theorem dX12_gap_13 : decode cX12_gap 13 = .ok (.iload_n 1, 1) := by decide +kernel
theorem dX12_gap_14 : decode cX12_gap 14 = .ok (.invokevirtual 428, 3) := by decide +kernel
theorem dX12_gap_17 : decode cX12_gap 17 = .ok (.lconst 0, 1) := by decide +kernel
theorem dX12_gap_18 : decode cX12_gap 18 = .ok (.lstore_n 2, 1) := by decide +kernel
theorem dX12_gap_19 : decode cX12_gap 19 = .ok (.aload_n 0, 1) := by decide +kernel
theorem dX12_gap_20 : decode cX12_gap 20 = .ok (.getfield 146, 3) := by decide +kernel
theorem dX12_gap_23 : decode cX12_gap 23 = .ok (.istore 4, 2) := by decide +kernel
theorem dX12_gap_25 : decode cX12_gap 25 = .ok (.iconst 0, 1) := by decide +kernel
theorem dX12_gap_26 : decode cX12_gap 26 = .ok (.istore 5, 2) := by decide +kernel
theorem dX12_gap_28 : decode cX12_gap 28 = .ok (.iload 5, 2) := by decide +kernel
theorem dX12_gap_30 : decode cX12_gap 30 = .ok (.iload_n 1, 1) := by decide +kernel
theorem dX12_gap_31 : decode cX12_gap 31 = .ok (.if_icmp .ge 33, 3) := by decide +kernel
theorem dX12_gap_34 : decode cX12_gap 34 = .ok (.iload 4, 2) := by decide +kernel
theorem dX12_gap_36 : decode cX12_gap 36 = .ok (.iconst 1, 1) := by decide +kernel
theorem dX12_gap_37 : decode cX12_gap 37 = .ok (.aload_n 0, 1) := by decide +kernel
theorem dX12_gap_38 : decode cX12_gap 38 = .ok (.iload 4, 2) := by decide +kernel
theorem dX12_gap_40 : decode cX12_gap 40 = .ok (.invokevirtual 391, 3) := by decide +kernel
theorem dX12_gap_43 : decode cX12_gap 43 = .ok (.ishl, 1) := by decide +kernel
theorem dX12_gap_44 : decode cX12_gap 44 = .ok (.iconst (-1), 1) := by decide +kernel
theorem dX12_gap_45 : decode cX12_gap 45 = .ok (.ixor, 1) := by decide +kernel
theorem dX12_gap_46 : decode cX12_gap 46 = .ok (.iand, 1) := by decide +kernel
theorem dX12_gap_47 : decode cX12_gap 47 = .ok (.istore 4, 2) := by decide +kernel
theorem dX12_gap_49 : decode cX12_gap 49 = .ok (.lload_n 2, 1) := by decide +kernel
theorem dX12_gap_50 : decode cX12_gap 50 = .ok (.aload_n 0, 1) := by decide +kernel
theorem dX12_gap_51 : decode cX12_gap 51 = .ok (.iload 4, 2) := by decide +kernel
theorem dX12_gap_53 : decode cX12_gap 53 = .ok (.invokevirtual 376, 3) := by decide +kernel
theorem dX12_gap_56 : decode cX12_gap 56 = .ok (.ladd, 1) := by decide +kernel
theorem dX12_gap_57 : decode cX12_gap 57 = .ok (.lstore_n 2, 1) := by decide +kernel
theorem dX12_gap_58 : decode cX12_gap 58 = .ok (.iinc 5 1, 3) := by decide +kernel
theorem dX12_gap_61 : decode cX12_gap 61 = .ok (.goto (-33), 3) := by decide +kernel
theorem dX12_gap_64 : decode cX12_gap 64 = .ok (.lload_n 2, 1) := by decide +kernel
theorem dX12_gap_65 : decode cX12_gap 65 = .ok (.aload_n 0, 1) := by decide +kernel
theorem dX12_gap_66 : decode cX12_gap 66 = .ok (.getfield 102, 3) := by decide +kernel
theorem dX12_gap_69 : decode cX12_gap 69 = .ok (.aload_n 0, 1) := by decide +kernel
theorem dX12_gap_70 : decode cX12_gap 70 = .ok (.getfield 146, 3) := by decide +kernel
theorem dX12_gap_73 : decode cX12_gap 73 = .ok (.laload, 1) := by decide +kernel
theorem dX12_gap_74 : decode cX12_gap 74 = .ok (.lsub, 1) := by decide +kernel
theorem dX12_gap_75 : decode cX12_gap 75 = .ok (.lreturn, 1) := by decide +kernel
theorem dX12_row_0 : decode cX12_row 0 = .ok (.iload_n 1, 1) := by decide +kernel
theorem dX12_row_1 : decode cX12_row 1 = .ok (.i2l, 1) := by decide +kernel
theorem dX12_row_2 : decode cX12_row 2 = .ok (.lconst 1, 1) := by decide +kernel
theorem dX12_row_3 : decode cX12_row 3 = .ok (.ldc2_w 431, 3) := by decide +kernel
theorem dX12_row_6 : decode cX12_row 6 = .ok (.invokestatic 138, 3) := by decide +kernel
theorem dX12_row_9 : decode cX12_row 9 = .ok (.ifCond .eq 21, 3) := by decide +kernel
theorem dX12_row_12 : decode cX12_row 12 = .ok (.iload_n 2, 1) := by decide +kernel
theorem dX12_row_13 : decode cX12_row 13 = .ok (.i2l, 1) := by decide +kernel
theorem dX12_row_14 : decode cX12_row 14 = .ok (.lconst 0, 1) := by decide +kernel
theorem dX12_row_15 : decode cX12_row 15 = .ok (.lconst 1, 1) := by decide +kernel
theorem dX12_row_16 : decode cX12_row 16 = .ok (.invokestatic 138, 3) := by decide +kernel
theorem dX12_row_19 : decode cX12_row 19 = .ok (.ifCond .eq 11, 3) := by decide +kernel
theorem dX12_row_22 : decode cX12_row 22 = .ok (.iload_n 1, 1) := by decide +kernel
theorem dX12_row_23 : decode cX12_row 23 = .ok (.aload_n 0, 1) := by decide +kernel
theorem dX12_row_24 : decode cX12_row 24 = .ok (.getfield 174, 3) := by decide +kernel
theorem dX12_row_27 : decode cX12_row 27 = .ok (.if_icmp .le 7, 3) := by decide +kernel
theorem dX12_row_30 : decode cX12_row 30 = .ok (.ldc2_w 374, 3) := by decide +kernel
theorem dX12_row_33 : decode cX12_row 33 = .ok (.lreturn, 1) := by decide +kernel
theorem dX12_row_34 : decode cX12_row 34 = .ok (.aload_n 0, 1) := by decide +kernel
theorem dX12_row_35 : decode cX12_row 35 = .ok (.iconst 0, 1) := by decide +kernel
theorem dX12_row_36 : decode cX12_row 36 = .ok (.putfield 174, 3) := by decide +kernel
theorem dX12_row_39 : decode cX12_row 39 = .ok (.aload_n 0, 1) := by decide +kernel
theorem dX12_row_40 : decode cX12_row 40 = .ok (.getfield 146, 3) := by decide +kernel
theorem dX12_row_43 : decode cX12_row 43 = .ok (.istore_n 3, 1) := by decide +kernel
theorem dX12_row_44 : decode cX12_row 44 = .ok (.iconst 0, 1) := by decide +kernel
theorem dX12_row_45 : decode cX12_row 45 = .ok (.istore 4, 2) := by decide +kernel
theorem dX12_row_47 : decode cX12_row 47 = .ok (.iload 4, 2) := by decide +kernel
theorem dX12_row_49 : decode cX12_row 49 = .ok (.iload_n 1, 1) := by decide +kernel
theorem dX12_row_50 : decode cX12_row 50 = .ok (.if_icmp .ge 63, 3) := by decide +kernel
theorem dX12_row_53 : decode cX12_row 53 = .ok (.aload_n 0, 1) := by decide +kernel
theorem dX12_row_54 : decode cX12_row 54 = .ok (.getfield 7, 3) := by decide +kernel
theorem dX12_row_57 : decode cX12_row 57 = .ok (.iload 4, 2) := by decide +kernel
theorem dX12_row_59 : decode cX12_row 59 = .ok (.baload, 1) := by decide +kernel
theorem dX12_row_60 : decode cX12_row 60 = .ok (.i2l, 1) := by decide +kernel
theorem dX12_row_61 : decode cX12_row 61 = .ok (.lconst 0, 1) := by decide +kernel
theorem dX12_row_62 : decode cX12_row 62 = .ok (.aload_n 0, 1) := by decide +kernel
theorem dX12_row_63 : decode cX12_row 63 = .ok (.getfield 135, 3) := by decide +kernel
theorem dX12_row_66 : decode cX12_row 66 = .ok (.iconst 1, 1) := by decide +kernel
theorem dX12_row_67 : decode cX12_row 67 = .ok (.isub, 1) := by decide +kernel
theorem dX12_row_68 : decode cX12_row 68 = .ok (.i2l, 1) := by decide +kernel
theorem dX12_row_69 : decode cX12_row 69 = .ok (.invokestatic 138, 3) := by decide +kernel
theorem dX12_row_72 : decode cX12_row 72 = .ok (.ifCond .eq 17, 3) := by decide +kernel
theorem dX12_row_75 : decode cX12_row 75 = .ok (.iload_n 3, 1) := by decide +kernel
theorem dX12_row_76 : decode cX12_row 76 = .ok (.aload_n 0, 1) := by decide +kernel
theorem dX12_row_77 : decode cX12_row 77 = .ok (.getfield 7, 3) := by decide +kernel
theorem dX12_row_80 : decode cX12_row 80 = .ok (.iload 4, 2) := by decide +kernel
theorem dX12_row_82 : decode cX12_row 82 = .ok (.baload, 1) := by decide +kernel
theorem dX12_row_83 : decode cX12_row 83 = .ok (.invokestatic 149, 3) := by decide +kernel
theorem dX12_row_86 : decode cX12_row 86 = .ok (.ifCond .ne 7, 3) := by decide +kernel
theorem dX12_row_89 : decode cX12_row 89 = .ok (.ldc2_w 433, 3) := by decide +kernel
theorem dX12_row_92 : decode cX12_row 92 = .ok (.lreturn, 1) := by decide +kernel
theorem dX12_row_93 : decode cX12_row 93 = .ok (.iload_n 3, 1) := by decide +kernel
theorem dX12_row_94 : decode cX12_row 94 = .ok (.iconst 1, 1) := by decide +kernel
theorem dX12_row_95 : decode cX12_row 95 = .ok (.aload_n 0, 1) := by decide +kernel
theorem dX12_row_96 : decode cX12_row 96 = .ok (.getfield 7, 3) := by decide +kernel
theorem dX12_row_99 : decode cX12_row 99 = .ok (.iload 4, 2) := by decide +kernel
theorem dX12_row_101 : decode cX12_row 101 = .ok (.baload, 1) := by decide +kernel
theorem dX12_row_102 : decode cX12_row 102 = .ok (.ishl, 1) := by decide +kernel
theorem dX12_row_103 : decode cX12_row 103 = .ok (.iconst (-1), 1) := by decide +kernel
theorem dX12_row_104 : decode cX12_row 104 = .ok (.ixor, 1) := by decide +kernel
theorem dX12_row_105 : decode cX12_row 105 = .ok (.iand, 1) := by decide +kernel
theorem dX12_row_106 : decode cX12_row 106 = .ok (.istore_n 3, 1) := by decide +kernel
theorem dX12_row_107 : decode cX12_row 107 = .ok (.iinc 4 1, 3) := by decide +kernel
theorem dX12_row_110 : decode cX12_row 110 = .ok (.goto (-63), 3) := by decide +kernel
theorem dX12_row_113 : decode cX12_row 113 = .ok (.aload_n 0, 1) := by decide +kernel
theorem dX12_row_114 : decode cX12_row 114 = .ok (.getfield 146, 3) := by decide +kernel
theorem dX12_row_117 : decode cX12_row 117 = .ok (.istore_n 3, 1) := by decide +kernel
theorem dX12_row_118 : decode cX12_row 118 = .ok (.lconst 0, 1) := by decide +kernel
theorem dX12_row_119 : decode cX12_row 119 = .ok (.lstore 4, 2) := by decide +kernel
theorem dX12_row_121 : decode cX12_row 121 = .ok (.iconst (-1), 1) := by decide +kernel
theorem dX12_row_122 : decode cX12_row 122 = .ok (.istore 6, 2) := by decide +kernel
theorem dX12_row_124 : decode cX12_row 124 = .ok (.iconst 0, 1) := by decide +kernel
theorem dX12_row_125 : decode cX12_row 125 = .ok (.istore 7, 2) := by decide +kernel
theorem dX12_row_127 : decode cX12_row 127 = .ok (.iload 7, 2) := by decide +kernel
theorem dX12_row_129 : decode cX12_row 129 = .ok (.iload_n 1, 1) := by decide +kernel
theorem dX12_row_130 : decode cX12_row 130 = .ok (.if_icmp .ge 56, 3) := by decide +kernel
theorem dX12_row_133 : decode cX12_row 133 = .ok (.iload_n 3, 1) := by decide +kernel
theorem dX12_row_134 : decode cX12_row 134 = .ok (.iconst 1, 1) := by decide +kernel
theorem dX12_row_135 : decode cX12_row 135 = .ok (.aload_n 0, 1) := by decide +kernel
theorem dX12_row_136 : decode cX12_row 136 = .ok (.getfield 7, 3) := by decide +kernel
theorem dX12_row_139 : decode cX12_row 139 = .ok (.iload 7, 2) := by decide +kernel
theorem dX12_row_141 : decode cX12_row 141 = .ok (.baload, 1) := by decide +kernel
theorem dX12_row_142 : decode cX12_row 142 = .ok (.ishl, 1) := by decide +kernel
theorem dX12_row_143 : decode cX12_row 143 = .ok (.iconst (-1), 1) := by decide +kernel
theorem dX12_row_144 : decode cX12_row 144 = .ok (.ixor, 1) := by decide +kernel
theorem dX12_row_145 : decode cX12_row 145 = .ok (.iand, 1) := by decide +kernel
theorem dX12_row_146 : decode cX12_row 146 = .ok (.istore_n 3, 1) := by decide +kernel
theorem dX12_row_147 : decode cX12_row 147 = .ok (.lload 4, 2) := by decide +kernel
theorem dX12_row_149 : decode cX12_row 149 = .ok (.aload_n 0, 1) := by decide +kernel
theorem dX12_row_150 : decode cX12_row 150 = .ok (.iload_n 3, 1) := by decide +kernel
theorem dX12_row_151 : decode cX12_row 151 = .ok (.invokevirtual 376, 3) := by decide +kernel
theorem dX12_row_154 : decode cX12_row 154 = .ok (.ladd, 1) := by decide +kernel
theorem dX12_row_155 : decode cX12_row 155 = .ok (.lstore 4, 2) := by decide +kernel
theorem dX12_row_157 : decode cX12_row 157 = .ok (.iload 6, 2) := by decide +kernel
theorem dX12_row_159 : decode cX12_row 159 = .ok (.iconst (-1), 1) := by decide +kernel
theorem dX12_row_160 : decode cX12_row 160 = .ok (.if_icmp .ne 16, 3) := by decide +kernel
theorem dX12_row_163 : decode cX12_row 163 = .ok (.aload_n 0, 1) := by decide +kernel
theorem dX12_row_164 : decode cX12_row 164 = .ok (.iload_n 3, 1) := by decide +kernel
theorem dX12_row_165 : decode cX12_row 165 = .ok (.invokevirtual 380, 3) := by decide +kernel
theorem dX12_row_168 : decode cX12_row 168 = .ok (.ifCond .eq 8, 3) := by decide +kernel
theorem dX12_row_171 : decode cX12_row 171 = .ok (.iload 7, 2) := by decide +kernel
theorem dX12_row_173 : decode cX12_row 173 = .ok (.goto 5, 3) := by decide +kernel
theorem dX12_row_176 : decode cX12_row 176 = .ok (.iload 6, 2) := by decide +kernel
theorem dX12_row_178 : decode cX12_row 178 = .ok (.istore 6, 2) := by decide +kernel
theorem dX12_row_180 : decode cX12_row 180 = .ok (.iinc 7 1, 3) := by decide +kernel
theorem dX12_row_183 : decode cX12_row 183 = .ok (.goto (-56), 3) := by decide +kernel
theorem dX12_row_186 : decode cX12_row 186 = .ok (.iload_n 2, 1) := by decide +kernel
theorem dX12_row_187 : decode cX12_row 187 = .ok (.ifCond .ne 8, 3) := by decide +kernel
theorem dX12_row_190 : decode cX12_row 190 = .ok (.lload 4, 2) := by decide +kernel
theorem dX12_row_192 : decode cX12_row 192 = .ok (.goto 6, 3) := by decide +kernel
theorem dX12_row_195 : decode cX12_row 195 = .ok (.iload 6, 2) := by decide +kernel
theorem dX12_row_197 : decode cX12_row 197 = .ok (.i2l, 1) := by decide +kernel
theorem dX12_row_198 : decode cX12_row 198 = .ok (.lreturn, 1) := by decide +kernel
theorem dX12_till_0 : decode cX12_till 0 = .ok (.aload_n 0, 1) := by decide +kernel
theorem dX12_till_1 : decode cX12_till 1 = .ok (.getfield 146, 3) := by decide +kernel
theorem dX12_till_4 : decode cX12_till 4 = .ok (.istore_n 1, 1) := by decide +kernel
theorem dX12_till_5 : decode cX12_till 5 = .ok (.iconst 0, 1) := by decide +kernel
theorem dX12_till_6 : decode cX12_till 6 = .ok (.istore_n 2, 1) := by decide +kernel
theorem dX12_till_7 : decode cX12_till 7 = .ok (.iload_n 1, 1) := by decide +kernel
theorem dX12_till_8 : decode cX12_till 8 = .ok (.ifCond .eq 31, 3) := by decide +kernel
theorem dX12_till_11 : decode cX12_till 11 = .ok (.iload_n 1, 1) := by decide +kernel
theorem dX12_till_12 : decode cX12_till 12 = .ok (.iconst 1, 1) := by decide +kernel
theorem dX12_till_13 : decode cX12_till 13 = .ok (.aload_n 0, 1) := by decide +kernel
theorem dX12_till_14 : decode cX12_till 14 = .ok (.iload_n 1, 1) := by decide +kernel
theorem dX12_till_15 : decode cX12_till 15 = .ok (.invokevirtual 391, 3) := by decide +kernel
theorem dX12_till_18 : decode cX12_till 18 = .ok (.ishl, 1) := by decide +kernel
theorem dX12_till_19 : decode cX12_till 19 = .ok (.iconst (-1), 1) := by decide +kernel
theorem dX12_till_20 : decode cX12_till 20 = .ok (.ixor, 1) := by decide +kernel
theorem dX12_till_21 : decode cX12_till 21 = .ok (.iand, 1) := by decide +kernel
theorem dX12_till_22 : decode cX12_till 22 = .ok (.istore_n 1, 1) := by decide +kernel
theorem dX12_till_23 : decode cX12_till 23 = .ok (.aload_n 0, 1) := by decide +kernel
theorem dX12_till_24 : decode cX12_till 24 = .ok (.iload_n 1, 1) := by decide +kernel
theorem dX12_till_25 : decode cX12_till 25 = .ok (.invokevirtual 380, 3) := by decide +kernel
theorem dX12_till_28 : decode cX12_till 28 = .ok (.ifCond .eq 5, 3) := by decide +kernel
theorem dX12_till_31 : decode cX12_till 31 = .ok (.iload_n 2, 1) := by decide +kernel
theorem dX12_till_32 : decode cX12_till 32 = .ok (.ireturn, 1) := by decide +kernel
theorem dX12_till_33 : decode cX12_till 33 = .ok (.iinc 2 1, 3) := by decide +kernel
theorem dX12_till_36 : decode cX12_till 36 = .ok (.goto (-29), 3) := by decide +kernel
theorem dX12_till_39 : decode cX12_till 39 = .ok (.iload_n 2, 1) := by decide +kernel
theorem dX12_till_40 : decode cX12_till 40 = .ok (.ireturn, 1) := by decide +kernel
theorem dX12_kept_0 : decode cX12_kept 0 = .ok (.iload_n 1, 1) := by decide +kernel
theorem dX12_kept_1 : decode cX12_kept 1 = .ok (.i2l, 1) := by decide +kernel
theorem dX12_kept_2 : decode cX12_kept 2 = .ok (.lconst 0, 1) := by decide +kernel
theorem dX12_kept_3 : decode cX12_kept 3 = .ok (.aload_n 0, 1) := by decide +kernel
theorem dX12_kept_4 : decode cX12_kept 4 = .ok (.getfield 135, 3) := by decide +kernel
theorem dX12_kept_7 : decode cX12_kept 7 = .ok (.i2l, 1) := by decide +kernel
theorem dX12_kept_8 : decode cX12_kept 8 = .ok (.invokestatic 138, 3) := by decide +kernel
theorem dX12_kept_11 : decode cX12_kept 11 = .ok (.ifCond .eq 13, 3) := by decide +kernel
theorem dX12_kept_14 : decode cX12_kept 14 = .ok (.iload_n 2, 1) := by decide +kernel
theorem dX12_kept_15 : decode cX12_kept 15 = .ok (.i2l, 1) := by decide +kernel
theorem dX12_kept_16 : decode cX12_kept 16 = .ok (.lconst 0, 1) := by decide +kernel
theorem dX12_kept_17 : decode cX12_kept 17 = .ok (.lconst 1, 1) := by decide +kernel
theorem dX12_kept_18 : decode cX12_kept 18 = .ok (.invokestatic 138, 3) := by decide +kernel
theorem dX12_kept_21 : decode cX12_kept 21 = .ok (.ifCond .ne 7, 3) := by decide +kernel
theorem dX12_kept_24 : decode cX12_kept 24 = .ok (.ldc2_w 374, 3) := by decide +kernel
theorem dX12_kept_27 : decode cX12_kept 27 = .ok (.lreturn, 1) := by decide +kernel
theorem dX12_kept_28 : decode cX12_kept 28 = .ok (.iconst (-1), 1) := by decide +kernel
theorem dX12_kept_29 : decode cX12_kept 29 = .ok (.istore_n 3, 1) := by decide +kernel
theorem dX12_kept_30 : decode cX12_kept 30 = .ok (.iconst 0, 1) := by decide +kernel
theorem dX12_kept_31 : decode cX12_kept 31 = .ok (.istore 4, 2) := by decide +kernel
theorem dX12_kept_33 : decode cX12_kept 33 = .ok (.iload 4, 2) := by decide +kernel
theorem dX12_kept_35 : decode cX12_kept 35 = .ok (.iconst 1, 1) := by decide +kernel
theorem dX12_kept_36 : decode cX12_kept 36 = .ok (.aload_n 0, 1) := by decide +kernel
theorem dX12_kept_37 : decode cX12_kept 37 = .ok (.getfield 135, 3) := by decide +kernel
theorem dX12_kept_40 : decode cX12_kept 40 = .ok (.ishl, 1) := by decide +kernel
theorem dX12_kept_41 : decode cX12_kept 41 = .ok (.if_icmp .ge 41, 3) := by decide +kernel
theorem dX12_kept_44 : decode cX12_kept 44 = .ok (.iload 4, 2) := by decide +kernel
theorem dX12_kept_46 : decode cX12_kept 46 = .ok (.invokestatic 297, 3) := by decide +kernel
theorem dX12_kept_49 : decode cX12_kept 49 = .ok (.iload_n 1, 1) := by decide +kernel
theorem dX12_kept_50 : decode cX12_kept 50 = .ok (.if_icmp .ne 26, 3) := by decide +kernel
theorem dX12_kept_53 : decode cX12_kept 53 = .ok (.iload_n 3, 1) := by decide +kernel
theorem dX12_kept_54 : decode cX12_kept 54 = .ok (.iconst (-1), 1) := by decide +kernel
theorem dX12_kept_55 : decode cX12_kept 55 = .ok (.if_icmp .eq 18, 3) := by decide +kernel
theorem dX12_kept_58 : decode cX12_kept 58 = .ok (.aload_n 0, 1) := by decide +kernel
theorem dX12_kept_59 : decode cX12_kept 59 = .ok (.iload 4, 2) := by decide +kernel
theorem dX12_kept_61 : decode cX12_kept 61 = .ok (.invokevirtual 376, 3) := by decide +kernel
theorem dX12_kept_64 : decode cX12_kept 64 = .ok (.aload_n 0, 1) := by decide +kernel
theorem dX12_kept_65 : decode cX12_kept 65 = .ok (.iload_n 3, 1) := by decide +kernel
theorem dX12_kept_66 : decode cX12_kept 66 = .ok (.invokevirtual 376, 3) := by decide +kernel
theorem dX12_kept_69 : decode cX12_kept 69 = .ok (.lcmp, 1) := by decide +kernel
theorem dX12_kept_70 : decode cX12_kept 70 = .ok (.ifCond .ge 6, 3) := by decide +kernel
theorem dX12_kept_73 : decode cX12_kept 73 = .ok (.iload 4, 2) := by decide +kernel
theorem dX12_kept_75 : decode cX12_kept 75 = .ok (.istore_n 3, 1) := by decide +kernel
theorem dX12_kept_76 : decode cX12_kept 76 = .ok (.iinc 4 1, 3) := by decide +kernel
theorem dX12_kept_79 : decode cX12_kept 79 = .ok (.goto (-46), 3) := by decide +kernel
theorem dX12_kept_82 : decode cX12_kept 82 = .ok (.iload_n 2, 1) := by decide +kernel
theorem dX12_kept_83 : decode cX12_kept 83 = .ok (.ifCond .ne 8, 3) := by decide +kernel
theorem dX12_kept_86 : decode cX12_kept 86 = .ok (.iload_n 3, 1) := by decide +kernel
theorem dX12_kept_87 : decode cX12_kept 87 = .ok (.i2l, 1) := by decide +kernel
theorem dX12_kept_88 : decode cX12_kept 88 = .ok (.goto 8, 3) := by decide +kernel
theorem dX12_kept_91 : decode cX12_kept 91 = .ok (.aload_n 0, 1) := by decide +kernel
theorem dX12_kept_92 : decode cX12_kept 92 = .ok (.iload_n 3, 1) := by decide +kernel
theorem dX12_kept_93 : decode cX12_kept 93 = .ok (.invokevirtual 376, 3) := by decide +kernel
theorem dX12_kept_96 : decode cX12_kept 96 = .ok (.lreturn, 1) := by decide +kernel
theorem dX12_back_0 : decode cX12_back 0 = .ok (.iconst 1, 1) := by decide +kernel
theorem dX12_back_1 : decode cX12_back 1 = .ok (.aload_n 0, 1) := by decide +kernel
theorem dX12_back_2 : decode cX12_back 2 = .ok (.getfield 135, 3) := by decide +kernel
theorem dX12_back_5 : decode cX12_back 5 = .ok (.ishl, 1) := by decide +kernel
theorem dX12_back_6 : decode cX12_back 6 = .ok (.iconst 1, 1) := by decide +kernel
theorem dX12_back_7 : decode cX12_back 7 = .ok (.isub, 1) := by decide +kernel
theorem dX12_back_8 : decode cX12_back 8 = .ok (.istore_n 2, 1) := by decide +kernel
theorem dX12_back_9 : decode cX12_back 9 = .ok (.iload_n 1, 1) := by decide +kernel
theorem dX12_back_10 : decode cX12_back 10 = .ok (.i2l, 1) := by decide +kernel
theorem dX12_back_11 : decode cX12_back 11 = .ok (.lconst 0, 1) := by decide +kernel
theorem dX12_back_12 : decode cX12_back 12 = .ok (.ldc2_w 144, 3) := by decide +kernel
theorem dX12_back_15 : decode cX12_back 15 = .ok (.invokestatic 138, 3) := by decide +kernel
theorem dX12_back_18 : decode cX12_back 18 = .ok (.ifCond .eq 22, 3) := by decide +kernel
theorem dX12_back_21 : decode cX12_back 21 = .ok (.aload_n 0, 1) := by decide +kernel
theorem dX12_back_22 : decode cX12_back 22 = .ok (.getfield 146, 3) := by decide +kernel
theorem dX12_back_25 : decode cX12_back 25 = .ok (.iload_n 2, 1) := by decide +kernel
theorem dX12_back_26 : decode cX12_back 26 = .ok (.if_icmp .eq 14, 3) := by decide +kernel
theorem dX12_back_29 : decode cX12_back 29 = .ok (.aload_n 0, 1) := by decide +kernel
theorem dX12_back_30 : decode cX12_back 30 = .ok (.getfield 146, 3) := by decide +kernel
theorem dX12_back_33 : decode cX12_back 33 = .ok (.invokestatic 297, 3) := by decide +kernel
theorem dX12_back_36 : decode cX12_back 36 = .ok (.iconst 2, 1) := by decide +kernel
theorem dX12_back_37 : decode cX12_back 37 = .ok (.if_icmp .ge 7, 3) := by decide +kernel
theorem dX12_back_40 : decode cX12_back 40 = .ok (.ldc2_w 374, 3) := by decide +kernel
theorem dX12_back_43 : decode cX12_back 43 = .ok (.lreturn, 1) := by decide +kernel
theorem dX12_back_44 : decode cX12_back 44 = .ok (.iconst (-1), 1) := by decide +kernel
theorem dX12_back_45 : decode cX12_back 45 = .ok (.istore_n 3, 1) := by decide +kernel
theorem dX12_back_46 : decode cX12_back 46 = .ok (.iconst (-1), 1) := by decide +kernel
theorem dX12_back_47 : decode cX12_back 47 = .ok (.istore 4, 2) := by decide +kernel
theorem dX12_back_49 : decode cX12_back 49 = .ok (.iconst (-1), 1) := by decide +kernel
theorem dX12_back_50 : decode cX12_back 50 = .ok (.istore 5, 2) := by decide +kernel
theorem dX12_back_52 : decode cX12_back 52 = .ok (.ldc2_w 421, 3) := by decide +kernel
theorem dX12_back_55 : decode cX12_back 55 = .ok (.lstore 6, 2) := by decide +kernel
theorem dX12_back_57 : decode cX12_back 57 = .ok (.iconst 0, 1) := by decide +kernel
theorem dX12_back_58 : decode cX12_back 58 = .ok (.istore 8, 2) := by decide +kernel
theorem dX12_back_60 : decode cX12_back 60 = .ok (.iload 8, 2) := by decide +kernel
theorem dX12_back_62 : decode cX12_back 62 = .ok (.aload_n 0, 1) := by decide +kernel
theorem dX12_back_63 : decode cX12_back 63 = .ok (.getfield 135, 3) := by decide +kernel
theorem dX12_back_66 : decode cX12_back 66 = .ok (.if_icmp .ge 140, 3) := by decide +kernel
theorem dX12_back_69 : decode cX12_back 69 = .ok (.iconst 0, 1) := by decide +kernel
theorem dX12_back_70 : decode cX12_back 70 = .ok (.istore 9, 2) := by decide +kernel
theorem dX12_back_72 : decode cX12_back 72 = .ok (.iload 9, 2) := by decide +kernel
theorem dX12_back_74 : decode cX12_back 74 = .ok (.aload_n 0, 1) := by decide +kernel
theorem dX12_back_75 : decode cX12_back 75 = .ok (.getfield 135, 3) := by decide +kernel
theorem dX12_back_78 : decode cX12_back 78 = .ok (.if_icmp .ge 122, 3) := by decide +kernel
theorem dX12_back_81 : decode cX12_back 81 = .ok (.aload_n 0, 1) := by decide +kernel
theorem dX12_back_82 : decode cX12_back 82 = .ok (.getfield 146, 3) := by decide +kernel
theorem dX12_back_85 : decode cX12_back 85 = .ok (.iload 8, 2) := by decide +kernel
theorem dX12_back_87 : decode cX12_back 87 = .ok (.invokestatic 149, 3) := by decide +kernel
theorem dX12_back_90 : decode cX12_back 90 = .ok (.ifCond .ne 110, 3) := by decide +kernel
theorem dX12_back_93 : decode cX12_back 93 = .ok (.iload 9, 2) := by decide +kernel
theorem dX12_back_95 : decode cX12_back 95 = .ok (.iconst 1, 1) := by decide +kernel
theorem dX12_back_96 : decode cX12_back 96 = .ok (.iadd, 1) := by decide +kernel
theorem dX12_back_97 : decode cX12_back 97 = .ok (.istore 10, 2) := by decide +kernel
theorem dX12_back_99 : decode cX12_back 99 = .ok (.iload 10, 2) := by decide +kernel
theorem dX12_back_101 : decode cX12_back 101 = .ok (.aload_n 0, 1) := by decide +kernel
theorem dX12_back_102 : decode cX12_back 102 = .ok (.getfield 135, 3) := by decide +kernel
theorem dX12_back_105 : decode cX12_back 105 = .ok (.if_icmp .ge 89, 3) := by decide +kernel
theorem dX12_back_108 : decode cX12_back 108 = .ok (.aload_n 0, 1) := by decide +kernel
theorem dX12_back_109 : decode cX12_back 109 = .ok (.getfield 146, 3) := by decide +kernel
theorem dX12_back_112 : decode cX12_back 112 = .ok (.iload 9, 2) := by decide +kernel
theorem dX12_back_114 : decode cX12_back 114 = .ok (.invokestatic 149, 3) := by decide +kernel
theorem dX12_back_117 : decode cX12_back 117 = .ok (.ifCond .eq 77, 3) := by decide +kernel
theorem dX12_back_120 : decode cX12_back 120 = .ok (.aload_n 0, 1) := by decide +kernel
theorem dX12_back_121 : decode cX12_back 121 = .ok (.getfield 146, 3) := by decide +kernel
theorem dX12_back_124 : decode cX12_back 124 = .ok (.iload 10, 2) := by decide +kernel
theorem dX12_back_126 : decode cX12_back 126 = .ok (.invokestatic 149, 3) := by decide +kernel
theorem dX12_back_129 : decode cX12_back 129 = .ok (.ifCond .ne 6, 3) := by decide +kernel
theorem dX12_back_132 : decode cX12_back 132 = .ok (.goto 56, 3) := by decide +kernel
theorem dX12_back_135 : decode cX12_back 135 = .ok (.aload_n 0, 1) := by decide +kernel
theorem dX12_back_136 : decode cX12_back 136 = .ok (.aload_n 0, 1) := by decide +kernel
theorem dX12_back_137 : decode cX12_back 137 = .ok (.getfield 146, 3) := by decide +kernel
theorem dX12_back_140 : decode cX12_back 140 = .ok (.iconst 1, 1) := by decide +kernel
theorem dX12_back_141 : decode cX12_back 141 = .ok (.iload 8, 2) := by decide +kernel
theorem dX12_back_143 : decode cX12_back 143 = .ok (.ishl, 1) := by decide +kernel
theorem dX12_back_144 : decode cX12_back 144 = .ok (.ior, 1) := by decide +kernel
theorem dX12_back_145 : decode cX12_back 145 = .ok (.iconst 1, 1) := by decide +kernel
theorem dX12_back_146 : decode cX12_back 146 = .ok (.iload 9, 2) := by decide +kernel
theorem dX12_back_148 : decode cX12_back 148 = .ok (.ishl, 1) := by decide +kernel
theorem dX12_back_149 : decode cX12_back 149 = .ok (.iconst 1, 1) := by decide +kernel
theorem dX12_back_150 : decode cX12_back 150 = .ok (.iload 10, 2) := by decide +kernel
theorem dX12_back_152 : decode cX12_back 152 = .ok (.ishl, 1) := by decide +kernel
theorem dX12_back_153 : decode cX12_back 153 = .ok (.ior, 1) := by decide +kernel
theorem dX12_back_154 : decode cX12_back 154 = .ok (.iconst (-1), 1) := by decide +kernel
theorem dX12_back_155 : decode cX12_back 155 = .ok (.ixor, 1) := by decide +kernel
theorem dX12_back_156 : decode cX12_back 156 = .ok (.iand, 1) := by decide +kernel
theorem dX12_back_157 : decode cX12_back 157 = .ok (.invokevirtual 376, 3) := by decide +kernel
theorem dX12_back_160 : decode cX12_back 160 = .ok (.lstore 11, 2) := by decide +kernel
theorem dX12_back_162 : decode cX12_back 162 = .ok (.lload 11, 2) := by decide +kernel
theorem dX12_back_164 : decode cX12_back 164 = .ok (.lload 6, 2) := by decide +kernel
theorem dX12_back_166 : decode cX12_back 166 = .ok (.lcmp, 1) := by decide +kernel
theorem dX12_back_167 : decode cX12_back 167 = .ok (.ifCond .lt 6, 3) := by decide +kernel
theorem dX12_back_170 : decode cX12_back 170 = .ok (.goto 18, 3) := by decide +kernel
theorem dX12_back_173 : decode cX12_back 173 = .ok (.lload 11, 2) := by decide +kernel
theorem dX12_back_175 : decode cX12_back 175 = .ok (.lstore 6, 2) := by decide +kernel
theorem dX12_back_177 : decode cX12_back 177 = .ok (.iload 8, 2) := by decide +kernel
theorem dX12_back_179 : decode cX12_back 179 = .ok (.istore 5, 2) := by decide +kernel
theorem dX12_back_181 : decode cX12_back 181 = .ok (.iload 9, 2) := by decide +kernel
theorem dX12_back_183 : decode cX12_back 183 = .ok (.istore_n 3, 1) := by decide +kernel
theorem dX12_back_184 : decode cX12_back 184 = .ok (.iload 10, 2) := by decide +kernel
theorem dX12_back_186 : decode cX12_back 186 = .ok (.istore 4, 2) := by decide +kernel
theorem dX12_back_188 : decode cX12_back 188 = .ok (.iinc 10 1, 3) := by decide +kernel
theorem dX12_back_191 : decode cX12_back 191 = .ok (.goto (-92), 3) := by decide +kernel
theorem dX12_back_194 : decode cX12_back 194 = .ok (.iinc 9 1, 3) := by decide +kernel
theorem dX12_back_197 : decode cX12_back 197 = .ok (.goto (-125), 3) := by decide +kernel
theorem dX12_back_200 : decode cX12_back 200 = .ok (.iinc 8 1, 3) := by decide +kernel
theorem dX12_back_203 : decode cX12_back 203 = .ok (.goto (-143), 3) := by decide +kernel
theorem dX12_back_206 : decode cX12_back 206 = .ok (.iload_n 1, 1) := by decide +kernel
theorem dX12_back_207 : decode cX12_back 207 = .ok (.ifCond .ne 9, 3) := by decide +kernel
theorem dX12_back_210 : decode cX12_back 210 = .ok (.iload 5, 2) := by decide +kernel
theorem dX12_back_212 : decode cX12_back 212 = .ok (.i2l, 1) := by decide +kernel
theorem dX12_back_213 : decode cX12_back 213 = .ok (.goto 26, 3) := by decide +kernel
theorem dX12_back_216 : decode cX12_back 216 = .ok (.iload_n 1, 1) := by decide +kernel
theorem dX12_back_217 : decode cX12_back 217 = .ok (.iconst 1, 1) := by decide +kernel
theorem dX12_back_218 : decode cX12_back 218 = .ok (.if_icmp .ne 8, 3) := by decide +kernel
theorem dX12_back_221 : decode cX12_back 221 = .ok (.iload_n 3, 1) := by decide +kernel
theorem dX12_back_222 : decode cX12_back 222 = .ok (.i2l, 1) := by decide +kernel
theorem dX12_back_223 : decode cX12_back 223 = .ok (.goto 16, 3) := by decide +kernel
theorem dX12_back_226 : decode cX12_back 226 = .ok (.iload_n 1, 1) := by decide +kernel
theorem dX12_back_227 : decode cX12_back 227 = .ok (.iconst 2, 1) := by decide +kernel
theorem dX12_back_228 : decode cX12_back 228 = .ok (.if_icmp .ne 9, 3) := by decide +kernel
theorem dX12_back_231 : decode cX12_back 231 = .ok (.iload 4, 2) := by decide +kernel
theorem dX12_back_233 : decode cX12_back 233 = .ok (.i2l, 1) := by decide +kernel
theorem dX12_back_234 : decode cX12_back 234 = .ok (.goto 5, 3) := by decide +kernel
theorem dX12_back_237 : decode cX12_back 237 = .ok (.lload 6, 2) := by decide +kernel
theorem dX12_back_239 : decode cX12_back 239 = .ok (.lreturn, 1) := by decide +kernel
theorem dX12_isMeant_0 : decode cX12_isMeant 0 = .ok (.aload_n 0, 1) := by decide +kernel
theorem dX12_isMeant_1 : decode cX12_isMeant 1 = .ok (.iload_n 1, 1) := by decide +kernel
theorem dX12_isMeant_2 : decode cX12_isMeant 2 = .ok (.invokevirtual 383, 3) := by decide +kernel
theorem dX12_isMeant_5 : decode cX12_isMeant 5 = .ok (.ifCond .eq 16, 3) := by decide +kernel
theorem dX12_isMeant_8 : decode cX12_isMeant 8 = .ok (.aload_n 0, 1) := by decide +kernel
theorem dX12_isMeant_9 : decode cX12_isMeant 9 = .ok (.getfield 17, 3) := by decide +kernel
theorem dX12_isMeant_12 : decode cX12_isMeant 12 = .ok (.iload_n 1, 1) := by decide +kernel
theorem dX12_isMeant_13 : decode cX12_isMeant 13 = .ok (.iaload, 1) := by decide +kernel
theorem dX12_isMeant_14 : decode cX12_isMeant 14 = .ok (.ifCond .ne 7, 3) := by decide +kernel
theorem dX12_isMeant_17 : decode cX12_isMeant 17 = .ok (.iconst 1, 1) := by decide +kernel
theorem dX12_isMeant_18 : decode cX12_isMeant 18 = .ok (.goto 4, 3) := by decide +kernel
theorem dX12_isMeant_21 : decode cX12_isMeant 21 = .ok (.iconst 0, 1) := by decide +kernel
theorem dX12_isMeant_22 : decode cX12_isMeant 22 = .ok (.ireturn, 1) := by decide +kernel
theorem dX12_told_0 : decode cX12_told 0 = .ok (.aload_n 0, 1) := by decide +kernel
theorem dX12_told_1 : decode cX12_told 1 = .ok (.iload_n 1, 1) := by decide +kernel
theorem dX12_told_2 : decode cX12_told 2 = .ok (.invokevirtual 435, 3) := by decide +kernel
theorem dX12_told_5 : decode cX12_told 5 = .ok (.ifCond .ne 5, 3) := by decide +kernel
theorem dX12_told_8 : decode cX12_told 8 = .ok (.iconst (-1), 1) := by decide +kernel
theorem dX12_told_9 : decode cX12_told 9 = .ok (.ireturn, 1) := by decide +kernel
theorem dX12_told_10 : decode cX12_told 10 = .ok (.aload_n 0, 1) := by decide +kernel
theorem dX12_told_11 : decode cX12_told 11 = .ok (.aload_n 0, 1) := by decide +kernel
theorem dX12_told_12 : decode cX12_told 12 = .ok (.getfield 146, 3) := by decide +kernel
theorem dX12_told_15 : decode cX12_told 15 = .ok (.iconst 1, 1) := by decide +kernel
theorem dX12_told_16 : decode cX12_told 16 = .ok (.iload_n 1, 1) := by decide +kernel
theorem dX12_told_17 : decode cX12_told 17 = .ok (.ishl, 1) := by decide +kernel
theorem dX12_told_18 : decode cX12_told 18 = .ok (.iconst (-1), 1) := by decide +kernel
theorem dX12_told_19 : decode cX12_told 19 = .ok (.ixor, 1) := by decide +kernel
theorem dX12_told_20 : decode cX12_told 20 = .ok (.iand, 1) := by decide +kernel
theorem dX12_told_21 : decode cX12_told 21 = .ok (.aload_n 0, 1) := by decide +kernel
theorem dX12_told_22 : decode cX12_told 22 = .ok (.getfield 21, 3) := by decide +kernel
theorem dX12_told_25 : decode cX12_told 25 = .ok (.iload_n 1, 1) := by decide +kernel
theorem dX12_told_26 : decode cX12_told 26 = .ok (.iaload, 1) := by decide +kernel
theorem dX12_told_27 : decode cX12_told 27 = .ok (.invokevirtual 338, 3) := by decide +kernel
theorem dX12_told_30 : decode cX12_told 30 = .ok (.istore_n 2, 1) := by decide +kernel
theorem dX12_told_31 : decode cX12_told 31 = .ok (.iload_n 2, 1) := by decide +kernel
theorem dX12_told_32 : decode cX12_told 32 = .ok (.ldc_w 324, 3) := by decide +kernel
theorem dX12_told_35 : decode cX12_told 35 = .ok (.if_icmp .lt 8, 3) := by decide +kernel
theorem dX12_told_38 : decode cX12_told 38 = .ok (.bipush (-2), 2) := by decide +kernel
theorem dX12_told_40 : decode cX12_told 40 = .ok (.goto 4, 3) := by decide +kernel
theorem dX12_told_43 : decode cX12_told 43 = .ok (.iload_n 2, 1) := by decide +kernel
theorem dX12_told_44 : decode cX12_told 44 = .ok (.ireturn, 1) := by decide +kernel
theorem dX12_wordsFor_0 : decode cX12_wordsFor 0 = .ok (.iconst 0, 1) := by decide +kernel
theorem dX12_wordsFor_1 : decode cX12_wordsFor 1 = .ok (.istore_n 3, 1) := by decide +kernel
theorem dX12_wordsFor_2 : decode cX12_wordsFor 2 = .ok (.iload_n 3, 1) := by decide +kernel
theorem dX12_wordsFor_3 : decode cX12_wordsFor 3 = .ok (.bipush 64, 2) := by decide +kernel
theorem dX12_wordsFor_5 : decode cX12_wordsFor 5 = .ok (.if_icmp .ge 25, 3) := by decide +kernel
theorem dX12_wordsFor_8 : decode cX12_wordsFor 8 = .ok (.aload_n 0, 1) := by decide +kernel
theorem dX12_wordsFor_9 : decode cX12_wordsFor 9 = .ok (.getfield 105, 3) := by decide +kernel
theorem dX12_wordsFor_12 : decode cX12_wordsFor 12 = .ok (.iload_n 3, 1) := by decide +kernel
theorem dX12_wordsFor_13 : decode cX12_wordsFor 13 = .ok (.iload_n 3, 1) := by decide +kernel
theorem dX12_wordsFor_14 : decode cX12_wordsFor 14 = .ok (.iload_n 2, 1) := by decide +kernel
theorem dX12_wordsFor_15 : decode cX12_wordsFor 15 = .ok (.if_icmp .ne 7, 3) := by decide +kernel
theorem dX12_wordsFor_18 : decode cX12_wordsFor 18 = .ok (.iconst 1, 1) := by decide +kernel
theorem dX12_wordsFor_19 : decode cX12_wordsFor 19 = .ok (.goto 4, 3) := by decide +kernel
theorem dX12_wordsFor_22 : decode cX12_wordsFor 22 = .ok (.iconst 0, 1) := by decide +kernel
theorem dX12_wordsFor_23 : decode cX12_wordsFor 23 = .ok (.bastore, 1) := by decide +kernel
theorem dX12_wordsFor_24 : decode cX12_wordsFor 24 = .ok (.iinc 3 1, 3) := by decide +kernel
theorem dX12_wordsFor_27 : decode cX12_wordsFor 27 = .ok (.goto (-25), 3) := by decide +kernel
theorem dX12_wordsFor_30 : decode cX12_wordsFor 30 = .ok (.aload_n 0, 1) := by decide +kernel
theorem dX12_wordsFor_31 : decode cX12_wordsFor 31 = .ok (.getfield 108, 3) := by decide +kernel
theorem dX12_wordsFor_34 : decode cX12_wordsFor 34 = .ok (.iconst 0, 1) := by decide +kernel
theorem dX12_wordsFor_35 : decode cX12_wordsFor 35 = .ok (.iload_n 2, 1) := by decide +kernel
theorem dX12_wordsFor_36 : decode cX12_wordsFor 36 = .ok (.iastore, 1) := by decide +kernel
theorem dX12_wordsFor_37 : decode cX12_wordsFor 37 = .ok (.iconst 1, 1) := by decide +kernel
theorem dX12_wordsFor_38 : decode cX12_wordsFor 38 = .ok (.istore_n 3, 1) := by decide +kernel
theorem dX12_wordsFor_39 : decode cX12_wordsFor 39 = .ok (.iconst 0, 1) := by decide +kernel
theorem dX12_wordsFor_40 : decode cX12_wordsFor 40 = .ok (.istore 4, 2) := by decide +kernel
theorem dX12_wordsFor_42 : decode cX12_wordsFor 42 = .ok (.iconst 0, 1) := by decide +kernel
theorem dX12_wordsFor_43 : decode cX12_wordsFor 43 = .ok (.istore 5, 2) := by decide +kernel
theorem dX12_wordsFor_45 : decode cX12_wordsFor 45 = .ok (.iload 5, 2) := by decide +kernel
theorem dX12_wordsFor_47 : decode cX12_wordsFor 47 = .ok (.iload_n 3, 1) := by decide +kernel
theorem dX12_wordsFor_48 : decode cX12_wordsFor 48 = .ok (.if_icmp .ge 144, 3) := by decide +kernel
theorem dX12_wordsFor_51 : decode cX12_wordsFor 51 = .ok (.aload_n 0, 1) := by decide +kernel
theorem dX12_wordsFor_52 : decode cX12_wordsFor 52 = .ok (.iload_n 1, 1) := by decide +kernel
theorem dX12_wordsFor_53 : decode cX12_wordsFor 53 = .ok (.aload_n 0, 1) := by decide +kernel
theorem dX12_wordsFor_54 : decode cX12_wordsFor 54 = .ok (.getfield 108, 3) := by decide +kernel
theorem dX12_wordsFor_57 : decode cX12_wordsFor 57 = .ok (.iload 5, 2) := by decide +kernel
theorem dX12_wordsFor_59 : decode cX12_wordsFor 59 = .ok (.iaload, 1) := by decide +kernel
theorem dX12_wordsFor_60 : decode cX12_wordsFor 60 = .ok (.invokevirtual 355, 3) := by decide +kernel
theorem dX12_wordsFor_63 : decode cX12_wordsFor 63 = .ok (.iload 4, 2) := by decide +kernel
theorem dX12_wordsFor_65 : decode cX12_wordsFor 65 = .ok (.iconst 1, 1) := by decide +kernel
theorem dX12_wordsFor_66 : decode cX12_wordsFor 66 = .ok (.aload_n 0, 1) := by decide +kernel
theorem dX12_wordsFor_67 : decode cX12_wordsFor 67 = .ok (.getfield 341, 3) := by decide +kernel
theorem dX12_wordsFor_70 : decode cX12_wordsFor 70 = .ok (.ifCond .ne 10, 3) := by decide +kernel
theorem dX12_wordsFor_73 : decode cX12_wordsFor 73 = .ok (.aload_n 0, 1) := by decide +kernel
theorem dX12_wordsFor_74 : decode cX12_wordsFor 74 = .ok (.getfield 344, 3) := by decide +kernel
theorem dX12_wordsFor_77 : decode cX12_wordsFor 77 = .ok (.goto 12, 3) := by decide +kernel
theorem dX12_wordsFor_80 : decode cX12_wordsFor 80 = .ok (.aload_n 0, 1) := by decide +kernel
theorem dX12_wordsFor_81 : decode cX12_wordsFor 81 = .ok (.iload_n 1, 1) := by decide +kernel
theorem dX12_wordsFor_82 : decode cX12_wordsFor 82 = .ok (.aload_n 0, 1) := by decide +kernel
theorem dX12_wordsFor_83 : decode cX12_wordsFor 83 = .ok (.getfield 341, 3) := by decide +kernel
theorem dX12_wordsFor_86 : decode cX12_wordsFor 86 = .ok (.invokevirtual 320, 3) := by decide +kernel
theorem dX12_wordsFor_89 : decode cX12_wordsFor 89 = .ok (.ishl, 1) := by decide +kernel
theorem dX12_wordsFor_90 : decode cX12_wordsFor 90 = .ok (.ior, 1) := by decide +kernel
theorem dX12_wordsFor_91 : decode cX12_wordsFor 91 = .ok (.istore 4, 2) := by decide +kernel
theorem dX12_wordsFor_93 : decode cX12_wordsFor 93 = .ok (.aload_n 0, 1) := by decide +kernel
theorem dX12_wordsFor_94 : decode cX12_wordsFor 94 = .ok (.getfield 341, 3) := by decide +kernel
theorem dX12_wordsFor_97 : decode cX12_wordsFor 97 = .ok (.ifCond .ne 7, 3) := by decide +kernel
theorem dX12_wordsFor_100 : decode cX12_wordsFor 100 = .ok (.iconst (-1), 1) := by decide +kernel
theorem dX12_wordsFor_101 : decode cX12_wordsFor 101 = .ok (.goto 7, 3) := by decide +kernel
theorem dX12_wordsFor_104 : decode cX12_wordsFor 104 = .ok (.aload_n 0, 1) := by decide +kernel
theorem dX12_wordsFor_105 : decode cX12_wordsFor 105 = .ok (.getfield 344, 3) := by decide +kernel
theorem dX12_wordsFor_108 : decode cX12_wordsFor 108 = .ok (.istore 6, 2) := by decide +kernel
theorem dX12_wordsFor_110 : decode cX12_wordsFor 110 = .ok (.aload_n 0, 1) := by decide +kernel
theorem dX12_wordsFor_111 : decode cX12_wordsFor 111 = .ok (.getfield 347, 3) := by decide +kernel
theorem dX12_wordsFor_114 : decode cX12_wordsFor 114 = .ok (.istore 7, 2) := by decide +kernel
theorem dX12_wordsFor_116 : decode cX12_wordsFor 116 = .ok (.iload 6, 2) := by decide +kernel
theorem dX12_wordsFor_118 : decode cX12_wordsFor 118 = .ok (.iconst (-1), 1) := by decide +kernel
theorem dX12_wordsFor_119 : decode cX12_wordsFor 119 = .ok (.if_icmp .eq 32, 3) := by decide +kernel
theorem dX12_wordsFor_122 : decode cX12_wordsFor 122 = .ok (.aload_n 0, 1) := by decide +kernel
theorem dX12_wordsFor_123 : decode cX12_wordsFor 123 = .ok (.getfield 105, 3) := by decide +kernel
theorem dX12_wordsFor_126 : decode cX12_wordsFor 126 = .ok (.iload 6, 2) := by decide +kernel
theorem dX12_wordsFor_128 : decode cX12_wordsFor 128 = .ok (.baload, 1) := by decide +kernel
theorem dX12_wordsFor_129 : decode cX12_wordsFor 129 = .ok (.ifCond .ne 22, 3) := by decide +kernel
theorem dX12_wordsFor_132 : decode cX12_wordsFor 132 = .ok (.aload_n 0, 1) := by decide +kernel
theorem dX12_wordsFor_133 : decode cX12_wordsFor 133 = .ok (.getfield 105, 3) := by decide +kernel
theorem dX12_wordsFor_136 : decode cX12_wordsFor 136 = .ok (.iload 6, 2) := by decide +kernel
theorem dX12_wordsFor_138 : decode cX12_wordsFor 138 = .ok (.iconst 1, 1) := by decide +kernel
theorem dX12_wordsFor_139 : decode cX12_wordsFor 139 = .ok (.bastore, 1) := by decide +kernel
theorem dX12_wordsFor_140 : decode cX12_wordsFor 140 = .ok (.aload_n 0, 1) := by decide +kernel
theorem dX12_wordsFor_141 : decode cX12_wordsFor 141 = .ok (.getfield 108, 3) := by decide +kernel
theorem dX12_wordsFor_144 : decode cX12_wordsFor 144 = .ok (.iload_n 3, 1) := by decide +kernel
theorem dX12_wordsFor_145 : decode cX12_wordsFor 145 = .ok (.iload 6, 2) := by decide +kernel
theorem dX12_wordsFor_147 : decode cX12_wordsFor 147 = .ok (.iastore, 1) := by decide +kernel
theorem dX12_wordsFor_148 : decode cX12_wordsFor 148 = .ok (.iinc 3 1, 3) := by decide +kernel
theorem dX12_wordsFor_151 : decode cX12_wordsFor 151 = .ok (.iload 7, 2) := by decide +kernel
theorem dX12_wordsFor_153 : decode cX12_wordsFor 153 = .ok (.iconst (-1), 1) := by decide +kernel
theorem dX12_wordsFor_154 : decode cX12_wordsFor 154 = .ok (.if_icmp .eq 32, 3) := by decide +kernel
theorem dX12_wordsFor_157 : decode cX12_wordsFor 157 = .ok (.aload_n 0, 1) := by decide +kernel
theorem dX12_wordsFor_158 : decode cX12_wordsFor 158 = .ok (.getfield 105, 3) := by decide +kernel
theorem dX12_wordsFor_161 : decode cX12_wordsFor 161 = .ok (.iload 7, 2) := by decide +kernel
theorem dX12_wordsFor_163 : decode cX12_wordsFor 163 = .ok (.baload, 1) := by decide +kernel
theorem dX12_wordsFor_164 : decode cX12_wordsFor 164 = .ok (.ifCond .ne 22, 3) := by decide +kernel
theorem dX12_wordsFor_167 : decode cX12_wordsFor 167 = .ok (.aload_n 0, 1) := by decide +kernel
theorem dX12_wordsFor_168 : decode cX12_wordsFor 168 = .ok (.getfield 105, 3) := by decide +kernel
theorem dX12_wordsFor_171 : decode cX12_wordsFor 171 = .ok (.iload 7, 2) := by decide +kernel
theorem dX12_wordsFor_173 : decode cX12_wordsFor 173 = .ok (.iconst 1, 1) := by decide +kernel
theorem dX12_wordsFor_174 : decode cX12_wordsFor 174 = .ok (.bastore, 1) := by decide +kernel
theorem dX12_wordsFor_175 : decode cX12_wordsFor 175 = .ok (.aload_n 0, 1) := by decide +kernel
theorem dX12_wordsFor_176 : decode cX12_wordsFor 176 = .ok (.getfield 108, 3) := by decide +kernel
theorem dX12_wordsFor_179 : decode cX12_wordsFor 179 = .ok (.iload_n 3, 1) := by decide +kernel
theorem dX12_wordsFor_180 : decode cX12_wordsFor 180 = .ok (.iload 7, 2) := by decide +kernel
theorem dX12_wordsFor_182 : decode cX12_wordsFor 182 = .ok (.iastore, 1) := by decide +kernel
theorem dX12_wordsFor_183 : decode cX12_wordsFor 183 = .ok (.iinc 3 1, 3) := by decide +kernel
theorem dX12_wordsFor_186 : decode cX12_wordsFor 186 = .ok (.iinc 5 1, 3) := by decide +kernel
theorem dX12_wordsFor_189 : decode cX12_wordsFor 189 = .ok (.goto (-144), 3) := by decide +kernel
theorem dX12_wordsFor_192 : decode cX12_wordsFor 192 = .ok (.iload 4, 2) := by decide +kernel
theorem dX12_wordsFor_194 : decode cX12_wordsFor 194 = .ok (.ireturn, 1) := by decide +kernel
theorem dX12_leadsTo_0 : decode cX12_leadsTo 0 = .ok (.aload_n 0, 1) := by decide +kernel
theorem dX12_leadsTo_1 : decode cX12_leadsTo 1 = .ok (.getfield 146, 3) := by decide +kernel
theorem dX12_leadsTo_4 : decode cX12_leadsTo 4 = .ok (.iconst 1, 1) := by decide +kernel
theorem dX12_leadsTo_5 : decode cX12_leadsTo 5 = .ok (.iload_n 1, 1) := by decide +kernel
theorem dX12_leadsTo_6 : decode cX12_leadsTo 6 = .ok (.ishl, 1) := by decide +kernel
theorem dX12_leadsTo_7 : decode cX12_leadsTo 7 = .ok (.iconst (-1), 1) := by decide +kernel
theorem dX12_leadsTo_8 : decode cX12_leadsTo 8 = .ok (.ixor, 1) := by decide +kernel
theorem dX12_leadsTo_9 : decode cX12_leadsTo 9 = .ok (.iand, 1) := by decide +kernel
theorem dX12_leadsTo_10 : decode cX12_leadsTo 10 = .ok (.istore_n 2, 1) := by decide +kernel
theorem dX12_leadsTo_11 : decode cX12_leadsTo 11 = .ok (.aload_n 0, 1) := by decide +kernel
theorem dX12_leadsTo_12 : decode cX12_leadsTo 12 = .ok (.iload_n 2, 1) := by decide +kernel
theorem dX12_leadsTo_13 : decode cX12_leadsTo 13 = .ok (.aload_n 0, 1) := by decide +kernel
theorem dX12_leadsTo_14 : decode cX12_leadsTo 14 = .ok (.getfield 21, 3) := by decide +kernel
theorem dX12_leadsTo_17 : decode cX12_leadsTo 17 = .ok (.iload_n 1, 1) := by decide +kernel
theorem dX12_leadsTo_18 : decode cX12_leadsTo 18 = .ok (.iaload, 1) := by decide +kernel
theorem dX12_leadsTo_19 : decode cX12_leadsTo 19 = .ok (.invokevirtual 338, 3) := by decide +kernel
theorem dX12_leadsTo_22 : decode cX12_leadsTo 22 = .ok (.ldc_w 324, 3) := by decide +kernel
theorem dX12_leadsTo_25 : decode cX12_leadsTo 25 = .ok (.if_icmp .lt 7, 3) := by decide +kernel
theorem dX12_leadsTo_28 : decode cX12_leadsTo 28 = .ok (.iconst 0, 1) := by decide +kernel
theorem dX12_leadsTo_29 : decode cX12_leadsTo 29 = .ok (.goto 14, 3) := by decide +kernel
theorem dX12_leadsTo_32 : decode cX12_leadsTo 32 = .ok (.aload_n 0, 1) := by decide +kernel
theorem dX12_leadsTo_33 : decode cX12_leadsTo 33 = .ok (.iload_n 2, 1) := by decide +kernel
theorem dX12_leadsTo_34 : decode cX12_leadsTo 34 = .ok (.aload_n 0, 1) := by decide +kernel
theorem dX12_leadsTo_35 : decode cX12_leadsTo 35 = .ok (.getfield 21, 3) := by decide +kernel
theorem dX12_leadsTo_38 : decode cX12_leadsTo 38 = .ok (.iload_n 1, 1) := by decide +kernel
theorem dX12_leadsTo_39 : decode cX12_leadsTo 39 = .ok (.iaload, 1) := by decide +kernel
theorem dX12_leadsTo_40 : decode cX12_leadsTo 40 = .ok (.invokevirtual 438, 3) := by decide +kernel
theorem dX12_leadsTo_43 : decode cX12_leadsTo 43 = .ok (.ireturn, 1) := by decide +kernel
theorem dX12_leads_0 : decode cX12_leads 0 = .ok (.aload_n 0, 1) := by decide +kernel
theorem dX12_leads_1 : decode cX12_leads 1 = .ok (.iload_n 1, 1) := by decide +kernel
theorem dX12_leads_2 : decode cX12_leads 2 = .ok (.invokevirtual 435, 3) := by decide +kernel
theorem dX12_leads_5 : decode cX12_leads 5 = .ok (.ifCond .eq 11, 3) := by decide +kernel
theorem dX12_leads_8 : decode cX12_leads 8 = .ok (.aload_n 0, 1) := by decide +kernel
theorem dX12_leads_9 : decode cX12_leads 9 = .ok (.iload_n 1, 1) := by decide +kernel
theorem dX12_leads_10 : decode cX12_leads 10 = .ok (.invokevirtual 441, 3) := by decide +kernel
theorem dX12_leads_13 : decode cX12_leads 13 = .ok (.goto 4, 3) := by decide +kernel
theorem dX12_leads_16 : decode cX12_leads 16 = .ok (.iconst (-1), 1) := by decide +kernel
theorem dX12_leads_17 : decode cX12_leads 17 = .ok (.ireturn, 1) := by decide +kernel
theorem dX12_round_0 : decode cX12_round 0 = .ok (.iconst 0, 1) := by decide +kernel
theorem dX12_round_1 : decode cX12_round 1 = .ok (.istore_n 1, 1) := by decide +kernel
theorem dX12_round_2 : decode cX12_round 2 = .ok (.iconst 0, 1) := by decide +kernel
theorem dX12_round_3 : decode cX12_round 3 = .ok (.istore_n 2, 1) := by decide +kernel
theorem dX12_round_4 : decode cX12_round 4 = .ok (.iload_n 2, 1) := by decide +kernel
theorem dX12_round_5 : decode cX12_round 5 = .ok (.aload_n 0, 1) := by decide +kernel
theorem dX12_round_6 : decode cX12_round 6 = .ok (.getfield 135, 3) := by decide +kernel
theorem dX12_round_9 : decode cX12_round 9 = .ok (.if_icmp .ge 107, 3) := by decide +kernel
theorem dX12_round_12 : decode cX12_round 12 = .ok (.aload_n 0, 1) := by decide +kernel
theorem dX12_round_13 : decode cX12_round 13 = .ok (.iload_n 2, 1) := by decide +kernel
theorem dX12_round_14 : decode cX12_round 14 = .ok (.invokevirtual 435, 3) := by decide +kernel
theorem dX12_round_17 : decode cX12_round 17 = .ok (.ifCond .ne 6, 3) := by decide +kernel
theorem dX12_round_20 : decode cX12_round 20 = .ok (.goto 90, 3) := by decide +kernel
theorem dX12_round_23 : decode cX12_round 23 = .ok (.aload_n 0, 1) := by decide +kernel
theorem dX12_round_24 : decode cX12_round 24 = .ok (.iload_n 2, 1) := by decide +kernel
theorem dX12_round_25 : decode cX12_round 25 = .ok (.invokevirtual 441, 3) := by decide +kernel
theorem dX12_round_28 : decode cX12_round 28 = .ok (.istore_n 3, 1) := by decide +kernel
theorem dX12_round_29 : decode cX12_round 29 = .ok (.iconst 0, 1) := by decide +kernel
theorem dX12_round_30 : decode cX12_round 30 = .ok (.istore 4, 2) := by decide +kernel
theorem dX12_round_32 : decode cX12_round 32 = .ok (.iload 4, 2) := by decide +kernel
theorem dX12_round_34 : decode cX12_round 34 = .ok (.aload_n 0, 1) := by decide +kernel
theorem dX12_round_35 : decode cX12_round 35 = .ok (.getfield 135, 3) := by decide +kernel
theorem dX12_round_38 : decode cX12_round 38 = .ok (.if_icmp .ge 54, 3) := by decide +kernel
theorem dX12_round_41 : decode cX12_round 41 = .ok (.iconst 0, 1) := by decide +kernel
theorem dX12_round_42 : decode cX12_round 42 = .ok (.istore 5, 2) := by decide +kernel
theorem dX12_round_44 : decode cX12_round 44 = .ok (.iload 5, 2) := by decide +kernel
theorem dX12_round_46 : decode cX12_round 46 = .ok (.aload_n 0, 1) := by decide +kernel
theorem dX12_round_47 : decode cX12_round 47 = .ok (.getfield 135, 3) := by decide +kernel
theorem dX12_round_50 : decode cX12_round 50 = .ok (.if_icmp .ge 36, 3) := by decide +kernel
theorem dX12_round_53 : decode cX12_round 53 = .ok (.iload_n 3, 1) := by decide +kernel
theorem dX12_round_54 : decode cX12_round 54 = .ok (.iload 5, 2) := by decide +kernel
theorem dX12_round_56 : decode cX12_round 56 = .ok (.invokestatic 149, 3) := by decide +kernel
theorem dX12_round_59 : decode cX12_round 59 = .ok (.ifCond .eq 21, 3) := by decide +kernel
theorem dX12_round_62 : decode cX12_round 62 = .ok (.aload_n 0, 1) := by decide +kernel
theorem dX12_round_63 : decode cX12_round 63 = .ok (.iload 5, 2) := by decide +kernel
theorem dX12_round_65 : decode cX12_round 65 = .ok (.invokevirtual 435, 3) := by decide +kernel
theorem dX12_round_68 : decode cX12_round 68 = .ok (.ifCond .eq 12, 3) := by decide +kernel
theorem dX12_round_71 : decode cX12_round 71 = .ok (.iload_n 3, 1) := by decide +kernel
theorem dX12_round_72 : decode cX12_round 72 = .ok (.aload_n 0, 1) := by decide +kernel
theorem dX12_round_73 : decode cX12_round 73 = .ok (.iload 5, 2) := by decide +kernel
theorem dX12_round_75 : decode cX12_round 75 = .ok (.invokevirtual 441, 3) := by decide +kernel
theorem dX12_round_78 : decode cX12_round 78 = .ok (.ior, 1) := by decide +kernel
theorem dX12_round_79 : decode cX12_round 79 = .ok (.istore_n 3, 1) := by decide +kernel
theorem dX12_round_80 : decode cX12_round 80 = .ok (.iinc 5 1, 3) := by decide +kernel
theorem dX12_round_83 : decode cX12_round 83 = .ok (.goto (-39), 3) := by decide +kernel
theorem dX12_round_86 : decode cX12_round 86 = .ok (.iinc 4 1, 3) := by decide +kernel
theorem dX12_round_89 : decode cX12_round 89 = .ok (.goto (-57), 3) := by decide +kernel
theorem dX12_round_92 : decode cX12_round 92 = .ok (.iload_n 1, 1) := by decide +kernel
theorem dX12_round_93 : decode cX12_round 93 = .ok (.iload_n 3, 1) := by decide +kernel
theorem dX12_round_94 : decode cX12_round 94 = .ok (.iload_n 2, 1) := by decide +kernel
theorem dX12_round_95 : decode cX12_round 95 = .ok (.invokestatic 149, 3) := by decide +kernel
theorem dX12_round_98 : decode cX12_round 98 = .ok (.ifCond .eq 9, 3) := by decide +kernel
theorem dX12_round_101 : decode cX12_round 101 = .ok (.iconst 1, 1) := by decide +kernel
theorem dX12_round_102 : decode cX12_round 102 = .ok (.iload_n 2, 1) := by decide +kernel
theorem dX12_round_103 : decode cX12_round 103 = .ok (.ishl, 1) := by decide +kernel
theorem dX12_round_104 : decode cX12_round 104 = .ok (.goto 4, 3) := by decide +kernel
theorem dX12_round_107 : decode cX12_round 107 = .ok (.iconst 0, 1) := by decide +kernel
theorem dX12_round_108 : decode cX12_round 108 = .ok (.ior, 1) := by decide +kernel
theorem dX12_round_109 : decode cX12_round 109 = .ok (.istore_n 1, 1) := by decide +kernel
theorem dX12_round_110 : decode cX12_round 110 = .ok (.iinc 2 1, 3) := by decide +kernel
theorem dX12_round_113 : decode cX12_round 113 = .ok (.goto (-109), 3) := by decide +kernel
theorem dX12_round_116 : decode cX12_round 116 = .ok (.iload_n 1, 1) := by decide +kernel
theorem dX12_round_117 : decode cX12_round 117 = .ok (.ireturn, 1) := by decide +kernel
theorem dX12_tellsAll_0 : decode cX12_tellsAll 0 = .ok (.iconst 0, 1) := by decide +kernel
theorem dX12_tellsAll_1 : decode cX12_tellsAll 1 = .ok (.istore_n 2, 1) := by decide +kernel
theorem dX12_tellsAll_2 : decode cX12_tellsAll 2 = .ok (.iload_n 2, 1) := by decide +kernel
theorem dX12_tellsAll_3 : decode cX12_tellsAll 3 = .ok (.aload_n 0, 1) := by decide +kernel
theorem dX12_tellsAll_4 : decode cX12_tellsAll 4 = .ok (.getfield 135, 3) := by decide +kernel
theorem dX12_tellsAll_7 : decode cX12_tellsAll 7 = .ok (.if_icmp .ge 44, 3) := by decide +kernel
theorem dX12_tellsAll_10 : decode cX12_tellsAll 10 = .ok (.aload_n 0, 1) := by decide +kernel
theorem dX12_tellsAll_11 : decode cX12_tellsAll 11 = .ok (.iload_n 2, 1) := by decide +kernel
theorem dX12_tellsAll_12 : decode cX12_tellsAll 12 = .ok (.invokevirtual 435, 3) := by decide +kernel
theorem dX12_tellsAll_15 : decode cX12_tellsAll 15 = .ok (.ifCond .eq 30, 3) := by decide +kernel
theorem dX12_tellsAll_18 : decode cX12_tellsAll 18 = .ok (.iload_n 1, 1) := by decide +kernel
theorem dX12_tellsAll_19 : decode cX12_tellsAll 19 = .ok (.iload_n 2, 1) := by decide +kernel
theorem dX12_tellsAll_20 : decode cX12_tellsAll 20 = .ok (.invokestatic 149, 3) := by decide +kernel
theorem dX12_tellsAll_23 : decode cX12_tellsAll 23 = .ok (.ifCond .ne 22, 3) := by decide +kernel
theorem dX12_tellsAll_26 : decode cX12_tellsAll 26 = .ok (.aload_n 0, 1) := by decide +kernel
theorem dX12_tellsAll_27 : decode cX12_tellsAll 27 = .ok (.iload_n 1, 1) := by decide +kernel
theorem dX12_tellsAll_28 : decode cX12_tellsAll 28 = .ok (.aload_n 0, 1) := by decide +kernel
theorem dX12_tellsAll_29 : decode cX12_tellsAll 29 = .ok (.getfield 21, 3) := by decide +kernel
theorem dX12_tellsAll_32 : decode cX12_tellsAll 32 = .ok (.iload_n 2, 1) := by decide +kernel
theorem dX12_tellsAll_33 : decode cX12_tellsAll 33 = .ok (.iaload, 1) := by decide +kernel
theorem dX12_tellsAll_34 : decode cX12_tellsAll 34 = .ok (.invokevirtual 338, 3) := by decide +kernel
theorem dX12_tellsAll_37 : decode cX12_tellsAll 37 = .ok (.ldc_w 324, 3) := by decide +kernel
theorem dX12_tellsAll_40 : decode cX12_tellsAll 40 = .ok (.if_icmp .lt 5, 3) := by decide +kernel
theorem dX12_tellsAll_43 : decode cX12_tellsAll 43 = .ok (.iconst 0, 1) := by decide +kernel
theorem dX12_tellsAll_44 : decode cX12_tellsAll 44 = .ok (.ireturn, 1) := by decide +kernel
theorem dX12_tellsAll_45 : decode cX12_tellsAll 45 = .ok (.iinc 2 1, 3) := by decide +kernel
theorem dX12_tellsAll_48 : decode cX12_tellsAll 48 = .ok (.goto (-46), 3) := by decide +kernel
theorem dX12_tellsAll_51 : decode cX12_tellsAll 51 = .ok (.iconst 1, 1) := by decide +kernel
theorem dX12_tellsAll_52 : decode cX12_tellsAll 52 = .ok (.ireturn, 1) := by decide +kernel
theorem dX12_fewest_0 : decode cX12_fewest 0 = .ok (.aload_n 0, 1) := by decide +kernel
theorem dX12_fewest_1 : decode cX12_fewest 1 = .ok (.getfield 146, 3) := by decide +kernel
theorem dX12_fewest_4 : decode cX12_fewest 4 = .ok (.istore_n 1, 1) := by decide +kernel
theorem dX12_fewest_5 : decode cX12_fewest 5 = .ok (.iconst 0, 1) := by decide +kernel
theorem dX12_fewest_6 : decode cX12_fewest 6 = .ok (.istore_n 2, 1) := by decide +kernel
theorem dX12_fewest_7 : decode cX12_fewest 7 = .ok (.iload_n 2, 1) := by decide +kernel
theorem dX12_fewest_8 : decode cX12_fewest 8 = .ok (.aload_n 0, 1) := by decide +kernel
theorem dX12_fewest_9 : decode cX12_fewest 9 = .ok (.getfield 146, 3) := by decide +kernel
theorem dX12_fewest_12 : decode cX12_fewest 12 = .ok (.if_icmp .ge 57, 3) := by decide +kernel
theorem dX12_fewest_15 : decode cX12_fewest 15 = .ok (.iload_n 2, 1) := by decide +kernel
theorem dX12_fewest_16 : decode cX12_fewest 16 = .ok (.aload_n 0, 1) := by decide +kernel
theorem dX12_fewest_17 : decode cX12_fewest 17 = .ok (.getfield 146, 3) := by decide +kernel
theorem dX12_fewest_20 : decode cX12_fewest 20 = .ok (.iconst (-1), 1) := by decide +kernel
theorem dX12_fewest_21 : decode cX12_fewest 21 = .ok (.ixor, 1) := by decide +kernel
theorem dX12_fewest_22 : decode cX12_fewest 22 = .ok (.iand, 1) := by decide +kernel
theorem dX12_fewest_23 : decode cX12_fewest 23 = .ok (.ifCond .ne 40, 3) := by decide +kernel
theorem dX12_fewest_26 : decode cX12_fewest 26 = .ok (.iload_n 2, 1) := by decide +kernel
theorem dX12_fewest_27 : decode cX12_fewest 27 = .ok (.invokestatic 297, 3) := by decide +kernel
theorem dX12_fewest_30 : decode cX12_fewest 30 = .ok (.iload_n 1, 1) := by decide +kernel
theorem dX12_fewest_31 : decode cX12_fewest 31 = .ok (.invokestatic 297, 3) := by decide +kernel
theorem dX12_fewest_34 : decode cX12_fewest 34 = .ok (.if_icmp .lt 19, 3) := by decide +kernel
theorem dX12_fewest_37 : decode cX12_fewest 37 = .ok (.iload_n 2, 1) := by decide +kernel
theorem dX12_fewest_38 : decode cX12_fewest 38 = .ok (.invokestatic 297, 3) := by decide +kernel
theorem dX12_fewest_41 : decode cX12_fewest 41 = .ok (.iload_n 1, 1) := by decide +kernel
theorem dX12_fewest_42 : decode cX12_fewest 42 = .ok (.invokestatic 297, 3) := by decide +kernel
theorem dX12_fewest_45 : decode cX12_fewest 45 = .ok (.if_icmp .ne 18, 3) := by decide +kernel
theorem dX12_fewest_48 : decode cX12_fewest 48 = .ok (.iload_n 2, 1) := by decide +kernel
theorem dX12_fewest_49 : decode cX12_fewest 49 = .ok (.iload_n 1, 1) := by decide +kernel
theorem dX12_fewest_50 : decode cX12_fewest 50 = .ok (.if_icmp .ge 13, 3) := by decide +kernel
theorem dX12_fewest_53 : decode cX12_fewest 53 = .ok (.aload_n 0, 1) := by decide +kernel
theorem dX12_fewest_54 : decode cX12_fewest 54 = .ok (.iload_n 2, 1) := by decide +kernel
theorem dX12_fewest_55 : decode cX12_fewest 55 = .ok (.invokevirtual 444, 3) := by decide +kernel
theorem dX12_fewest_58 : decode cX12_fewest 58 = .ok (.ifCond .eq 5, 3) := by decide +kernel
theorem dX12_fewest_61 : decode cX12_fewest 61 = .ok (.iload_n 2, 1) := by decide +kernel
theorem dX12_fewest_62 : decode cX12_fewest 62 = .ok (.istore_n 1, 1) := by decide +kernel
theorem dX12_fewest_63 : decode cX12_fewest 63 = .ok (.iinc 2 1, 3) := by decide +kernel
theorem dX12_fewest_66 : decode cX12_fewest 66 = .ok (.goto (-59), 3) := by decide +kernel
theorem dX12_fewest_69 : decode cX12_fewest 69 = .ok (.iload_n 1, 1) := by decide +kernel
theorem dX12_fewest_70 : decode cX12_fewest 70 = .ok (.ireturn, 1) := by decide +kernel
theorem dX12_startsD_0 : decode cX12_startsD 0 = .ok (.iload_n 0, 1) := by decide +kernel
theorem dX12_startsD_1 : decode cX12_startsD 1 = .ok (.bipush 45, 2) := by decide +kernel
theorem dX12_startsD_3 : decode cX12_startsD 3 = .ok (.if_icmp .eq 21, 3) := by decide +kernel
theorem dX12_startsD_6 : decode cX12_startsD 6 = .ok (.iload_n 0, 1) := by decide +kernel
theorem dX12_startsD_7 : decode cX12_startsD 7 = .ok (.bipush 40, 2) := by decide +kernel
theorem dX12_startsD_9 : decode cX12_startsD 9 = .ok (.if_icmp .eq 15, 3) := by decide +kernel
theorem dX12_startsD_12 : decode cX12_startsD 12 = .ok (.iload_n 0, 1) := by decide +kernel
theorem dX12_startsD_13 : decode cX12_startsD 13 = .ok (.bipush 97, 2) := by decide +kernel
theorem dX12_startsD_15 : decode cX12_startsD 15 = .ok (.if_icmp .lt 13, 3) := by decide +kernel
theorem dX12_startsD_18 : decode cX12_startsD 18 = .ok (.iload_n 0, 1) := by decide +kernel
theorem dX12_startsD_19 : decode cX12_startsD 19 = .ok (.bipush 106, 2) := by decide +kernel
theorem dX12_startsD_21 : decode cX12_startsD 21 = .ok (.if_icmp .gt 7, 3) := by decide +kernel
theorem dX12_startsD_24 : decode cX12_startsD 24 = .ok (.iconst 1, 1) := by decide +kernel
theorem dX12_startsD_25 : decode cX12_startsD 25 = .ok (.goto 4, 3) := by decide +kernel
theorem dX12_startsD_28 : decode cX12_startsD 28 = .ok (.iconst 0, 1) := by decide +kernel
theorem dX12_startsD_29 : decode cX12_startsD 29 = .ok (.ireturn, 1) := by decide +kernel
theorem dX12_joinsValues_0 : decode cX12_joinsValues 0 = .ok (.aload_n 0, 1) := by decide +kernel
theorem dX12_joinsValues_1 : decode cX12_joinsValues 1 = .ok (.invokevirtual 221, 3) := by decide +kernel
theorem dX12_joinsValues_4 : decode cX12_joinsValues 4 = .ok (.bipush 42, 2) := by decide +kernel
theorem dX12_joinsValues_6 : decode cX12_joinsValues 6 = .ok (.if_icmp .eq 16, 3) := by decide +kernel
theorem dX12_joinsValues_9 : decode cX12_joinsValues 9 = .ok (.iload_n 1, 1) := by decide +kernel
theorem dX12_joinsValues_10 : decode cX12_joinsValues 10 = .ok (.ifCond .eq 117, 3) := by decide +kernel
theorem dX12_joinsValues_13 : decode cX12_joinsValues 13 = .ok (.aload_n 0, 1) := by decide +kernel
theorem dX12_joinsValues_14 : decode cX12_joinsValues 14 = .ok (.invokevirtual 221, 3) := by decide +kernel
theorem dX12_joinsValues_17 : decode cX12_joinsValues 17 = .ok (.bipush 43, 2) := by decide +kernel
theorem dX12_joinsValues_19 : decode cX12_joinsValues 19 = .ok (.if_icmp .ne 108, 3) := by decide +kernel
theorem dX12_joinsValues_22 : decode cX12_joinsValues 22 = .ok (.aload_n 0, 1) := by decide +kernel
theorem dX12_joinsValues_23 : decode cX12_joinsValues 23 = .ok (.dup, 1) := by decide +kernel
theorem dX12_joinsValues_24 : decode cX12_joinsValues 24 = .ok (.getfield 447, 3) := by decide +kernel
theorem dX12_joinsValues_27 : decode cX12_joinsValues 27 = .ok (.iconst 1, 1) := by decide +kernel
theorem dX12_joinsValues_28 : decode cX12_joinsValues 28 = .ok (.isub, 1) := by decide +kernel
theorem dX12_joinsValues_29 : decode cX12_joinsValues 29 = .ok (.putfield 447, 3) := by decide +kernel
theorem dX12_joinsValues_32 : decode cX12_joinsValues 32 = .ok (.aload_n 0, 1) := by decide +kernel
theorem dX12_joinsValues_33 : decode cX12_joinsValues 33 = .ok (.getfield 129, 3) := by decide +kernel
theorem dX12_joinsValues_36 : decode cX12_joinsValues 36 = .ok (.aload_n 0, 1) := by decide +kernel
theorem dX12_joinsValues_37 : decode cX12_joinsValues 37 = .ok (.getfield 447, 3) := by decide +kernel
theorem dX12_joinsValues_40 : decode cX12_joinsValues 40 = .ok (.iaload, 1) := by decide +kernel
theorem dX12_joinsValues_41 : decode cX12_joinsValues 41 = .ok (.istore_n 2, 1) := by decide +kernel
theorem dX12_joinsValues_42 : decode cX12_joinsValues 42 = .ok (.aload_n 0, 1) := by decide +kernel
theorem dX12_joinsValues_43 : decode cX12_joinsValues 43 = .ok (.getfield 129, 3) := by decide +kernel
theorem dX12_joinsValues_46 : decode cX12_joinsValues 46 = .ok (.aload_n 0, 1) := by decide +kernel
theorem dX12_joinsValues_47 : decode cX12_joinsValues 47 = .ok (.getfield 447, 3) := by decide +kernel
theorem dX12_joinsValues_50 : decode cX12_joinsValues 50 = .ok (.iconst 1, 1) := by decide +kernel
theorem dX12_joinsValues_51 : decode cX12_joinsValues 51 = .ok (.isub, 1) := by decide +kernel
theorem dX12_joinsValues_52 : decode cX12_joinsValues 52 = .ok (.aload_n 0, 1) := by decide +kernel
theorem dX12_joinsValues_53 : decode cX12_joinsValues 53 = .ok (.invokevirtual 221, 3) := by decide +kernel
theorem dX12_joinsValues_56 : decode cX12_joinsValues 56 = .ok (.bipush 42, 2) := by decide +kernel
theorem dX12_joinsValues_58 : decode cX12_joinsValues 58 = .ok (.if_icmp .ne 19, 3) := by decide +kernel
theorem dX12_joinsValues_61 : decode cX12_joinsValues 61 = .ok (.aload_n 0, 1) := by decide +kernel
theorem dX12_joinsValues_62 : decode cX12_joinsValues 62 = .ok (.getfield 129, 3) := by decide +kernel
theorem dX12_joinsValues_65 : decode cX12_joinsValues 65 = .ok (.aload_n 0, 1) := by decide +kernel
theorem dX12_joinsValues_66 : decode cX12_joinsValues 66 = .ok (.getfield 447, 3) := by decide +kernel
theorem dX12_joinsValues_69 : decode cX12_joinsValues 69 = .ok (.iconst 1, 1) := by decide +kernel
theorem dX12_joinsValues_70 : decode cX12_joinsValues 70 = .ok (.isub, 1) := by decide +kernel
theorem dX12_joinsValues_71 : decode cX12_joinsValues 71 = .ok (.iaload, 1) := by decide +kernel
theorem dX12_joinsValues_72 : decode cX12_joinsValues 72 = .ok (.iload_n 2, 1) := by decide +kernel
theorem dX12_joinsValues_73 : decode cX12_joinsValues 73 = .ok (.iand, 1) := by decide +kernel
theorem dX12_joinsValues_74 : decode cX12_joinsValues 74 = .ok (.goto 16, 3) := by decide +kernel
theorem dX12_joinsValues_77 : decode cX12_joinsValues 77 = .ok (.aload_n 0, 1) := by decide +kernel
theorem dX12_joinsValues_78 : decode cX12_joinsValues 78 = .ok (.getfield 129, 3) := by decide +kernel
theorem dX12_joinsValues_81 : decode cX12_joinsValues 81 = .ok (.aload_n 0, 1) := by decide +kernel
theorem dX12_joinsValues_82 : decode cX12_joinsValues 82 = .ok (.getfield 447, 3) := by decide +kernel
theorem dX12_joinsValues_85 : decode cX12_joinsValues 85 = .ok (.iconst 1, 1) := by decide +kernel
theorem dX12_joinsValues_86 : decode cX12_joinsValues 86 = .ok (.isub, 1) := by decide +kernel
theorem dX12_joinsValues_87 : decode cX12_joinsValues 87 = .ok (.iaload, 1) := by decide +kernel
theorem dX12_joinsValues_88 : decode cX12_joinsValues 88 = .ok (.iload_n 2, 1) := by decide +kernel
theorem dX12_joinsValues_89 : decode cX12_joinsValues 89 = .ok (.ior, 1) := by decide +kernel
theorem dX12_joinsValues_90 : decode cX12_joinsValues 90 = .ok (.iastore, 1) := by decide +kernel
theorem dX12_joinsValues_91 : decode cX12_joinsValues 91 = .ok (.aload_n 0, 1) := by decide +kernel
theorem dX12_joinsValues_92 : decode cX12_joinsValues 92 = .ok (.getfield 126, 3) := by decide +kernel
theorem dX12_joinsValues_95 : decode cX12_joinsValues 95 = .ok (.aload_n 0, 1) := by decide +kernel
theorem dX12_joinsValues_96 : decode cX12_joinsValues 96 = .ok (.invokevirtual 221, 3) := by decide +kernel
theorem dX12_joinsValues_99 : decode cX12_joinsValues 99 = .ok (.bipush 42, 2) := by decide +kernel
theorem dX12_joinsValues_101 : decode cX12_joinsValues 101 = .ok (.if_icmp .ne 7, 3) := by decide +kernel
theorem dX12_joinsValues_104 : decode cX12_joinsValues 104 = .ok (.iconst 2, 1) := by decide +kernel
theorem dX12_joinsValues_105 : decode cX12_joinsValues 105 = .ok (.goto 4, 3) := by decide +kernel
theorem dX12_joinsValues_108 : decode cX12_joinsValues 108 = .ok (.iconst 3, 1) := by decide +kernel
theorem dX12_joinsValues_109 : decode cX12_joinsValues 109 = .ok (.dup2, 1) := by decide +kernel
theorem dX12_joinsValues_110 : decode cX12_joinsValues 110 = .ok (.iaload, 1) := by decide +kernel
theorem dX12_joinsValues_111 : decode cX12_joinsValues 111 = .ok (.iconst 1, 1) := by decide +kernel
theorem dX12_joinsValues_112 : decode cX12_joinsValues 112 = .ok (.iadd, 1) := by decide +kernel
theorem dX12_joinsValues_113 : decode cX12_joinsValues 113 = .ok (.iastore, 1) := by decide +kernel
theorem dX12_joinsValues_114 : decode cX12_joinsValues 114 = .ok (.aload_n 0, 1) := by decide +kernel
theorem dX12_joinsValues_115 : decode cX12_joinsValues 115 = .ok (.dup, 1) := by decide +kernel
theorem dX12_joinsValues_116 : decode cX12_joinsValues 116 = .ok (.getfield 197, 3) := by decide +kernel
theorem dX12_joinsValues_119 : decode cX12_joinsValues 119 = .ok (.iconst 1, 1) := by decide +kernel
theorem dX12_joinsValues_120 : decode cX12_joinsValues 120 = .ok (.isub, 1) := by decide +kernel
theorem dX12_joinsValues_121 : decode cX12_joinsValues 121 = .ok (.putfield 197, 3) := by decide +kernel
theorem dX12_joinsValues_124 : decode cX12_joinsValues 124 = .ok (.goto (-124), 3) := by decide +kernel
theorem dX12_joinsValues_127 : decode cX12_joinsValues 127 = .ok (.return_, 1) := by decide +kernel
theorem dX12_endsD_0 : decode cX12_endsD 0 = .ok (.aload_n 0, 1) := by decide +kernel
theorem dX12_endsD_1 : decode cX12_endsD 1 = .ok (.invokevirtual 221, 3) := by decide +kernel
theorem dX12_endsD_4 : decode cX12_endsD 4 = .ok (.bipush 45, 2) := by decide +kernel
theorem dX12_endsD_6 : decode cX12_endsD 6 = .ok (.if_icmp .ne 61, 3) := by decide +kernel
theorem dX12_endsD_9 : decode cX12_endsD 9 = .ok (.aload_n 0, 1) := by decide +kernel
theorem dX12_endsD_10 : decode cX12_endsD 10 = .ok (.getfield 129, 3) := by decide +kernel
theorem dX12_endsD_13 : decode cX12_endsD 13 = .ok (.aload_n 0, 1) := by decide +kernel
theorem dX12_endsD_14 : decode cX12_endsD 14 = .ok (.getfield 447, 3) := by decide +kernel
theorem dX12_endsD_17 : decode cX12_endsD 17 = .ok (.iconst 1, 1) := by decide +kernel
theorem dX12_endsD_18 : decode cX12_endsD 18 = .ok (.isub, 1) := by decide +kernel
theorem dX12_endsD_19 : decode cX12_endsD 19 = .ok (.bipush 63, 2) := by decide +kernel
theorem dX12_endsD_21 : decode cX12_endsD 21 = .ok (.aload_n 0, 1) := by decide +kernel
theorem dX12_endsD_22 : decode cX12_endsD 22 = .ok (.getfield 129, 3) := by decide +kernel
theorem dX12_endsD_25 : decode cX12_endsD 25 = .ok (.aload_n 0, 1) := by decide +kernel
theorem dX12_endsD_26 : decode cX12_endsD 26 = .ok (.getfield 447, 3) := by decide +kernel
theorem dX12_endsD_29 : decode cX12_endsD 29 = .ok (.iconst 1, 1) := by decide +kernel
theorem dX12_endsD_30 : decode cX12_endsD 30 = .ok (.isub, 1) := by decide +kernel
theorem dX12_endsD_31 : decode cX12_endsD 31 = .ok (.iaload, 1) := by decide +kernel
theorem dX12_endsD_32 : decode cX12_endsD 32 = .ok (.ixor, 1) := by decide +kernel
theorem dX12_endsD_33 : decode cX12_endsD 33 = .ok (.iastore, 1) := by decide +kernel
theorem dX12_endsD_34 : decode cX12_endsD 34 = .ok (.aload_n 0, 1) := by decide +kernel
theorem dX12_endsD_35 : decode cX12_endsD 35 = .ok (.getfield 126, 3) := by decide +kernel
theorem dX12_endsD_38 : decode cX12_endsD 38 = .ok (.iconst 1, 1) := by decide +kernel
theorem dX12_endsD_39 : decode cX12_endsD 39 = .ok (.dup2, 1) := by decide +kernel
theorem dX12_endsD_40 : decode cX12_endsD 40 = .ok (.iaload, 1) := by decide +kernel
theorem dX12_endsD_41 : decode cX12_endsD 41 = .ok (.iconst 1, 1) := by decide +kernel
theorem dX12_endsD_42 : decode cX12_endsD 42 = .ok (.iadd, 1) := by decide +kernel
theorem dX12_endsD_43 : decode cX12_endsD 43 = .ok (.iastore, 1) := by decide +kernel
theorem dX12_endsD_44 : decode cX12_endsD 44 = .ok (.aload_n 0, 1) := by decide +kernel
theorem dX12_endsD_45 : decode cX12_endsD 45 = .ok (.dup, 1) := by decide +kernel
theorem dX12_endsD_46 : decode cX12_endsD 46 = .ok (.getfield 197, 3) := by decide +kernel
theorem dX12_endsD_49 : decode cX12_endsD 49 = .ok (.iconst 1, 1) := by decide +kernel
theorem dX12_endsD_50 : decode cX12_endsD 50 = .ok (.isub, 1) := by decide +kernel
theorem dX12_endsD_51 : decode cX12_endsD 51 = .ok (.putfield 197, 3) := by decide +kernel
theorem dX12_endsD_54 : decode cX12_endsD 54 = .ok (.aload_n 0, 1) := by decide +kernel
theorem dX12_endsD_55 : decode cX12_endsD 55 = .ok (.dup, 1) := by decide +kernel
theorem dX12_endsD_56 : decode cX12_endsD 56 = .ok (.getfield 200, 3) := by decide +kernel
theorem dX12_endsD_59 : decode cX12_endsD 59 = .ok (.iconst 1, 1) := by decide +kernel
theorem dX12_endsD_60 : decode cX12_endsD 60 = .ok (.isub, 1) := by decide +kernel
theorem dX12_endsD_61 : decode cX12_endsD 61 = .ok (.putfield 200, 3) := by decide +kernel
theorem dX12_endsD_64 : decode cX12_endsD 64 = .ok (.goto (-64), 3) := by decide +kernel
theorem dX12_endsD_67 : decode cX12_endsD 67 = .ok (.return_, 1) := by decide +kernel
theorem dX12_readsD_0 : decode cX12_readsD 0 = .ok (.aload_n 0, 1) := by decide +kernel
theorem dX12_readsD_1 : decode cX12_readsD 1 = .ok (.invokevirtual 190, 3) := by decide +kernel
theorem dX12_readsD_4 : decode cX12_readsD 4 = .ok (.ifCond .eq 28, 3) := by decide +kernel
theorem dX12_readsD_7 : decode cX12_readsD 7 = .ok (.aload_n 0, 1) := by decide +kernel
theorem dX12_readsD_8 : decode cX12_readsD 8 = .ok (.invokevirtual 207, 3) := by decide +kernel
theorem dX12_readsD_11 : decode cX12_readsD 11 = .ok (.bipush 45, 2) := by decide +kernel
theorem dX12_readsD_13 : decode cX12_readsD 13 = .ok (.if_icmp .eq 12, 3) := by decide +kernel
theorem dX12_readsD_16 : decode cX12_readsD 16 = .ok (.aload_n 0, 1) := by decide +kernel
theorem dX12_readsD_17 : decode cX12_readsD 17 = .ok (.invokevirtual 207, 3) := by decide +kernel
theorem dX12_readsD_20 : decode cX12_readsD 20 = .ok (.bipush 40, 2) := by decide +kernel
theorem dX12_readsD_22 : decode cX12_readsD 22 = .ok (.if_icmp .ne 10, 3) := by decide +kernel
theorem dX12_readsD_25 : decode cX12_readsD 25 = .ok (.aload_n 0, 1) := by decide +kernel
theorem dX12_readsD_26 : decode cX12_readsD 26 = .ok (.invokevirtual 233, 3) := by decide +kernel
theorem dX12_readsD_29 : decode cX12_readsD 29 = .ok (.goto (-29), 3) := by decide +kernel
theorem dX12_readsD_32 : decode cX12_readsD 32 = .ok (.aload_n 0, 1) := by decide +kernel
theorem dX12_readsD_33 : decode cX12_readsD 33 = .ok (.invokevirtual 190, 3) := by decide +kernel
theorem dX12_readsD_36 : decode cX12_readsD 36 = .ok (.ifCond .ne 4, 3) := by decide +kernel
theorem dX12_readsD_39 : decode cX12_readsD 39 = .ok (.return_, 1) := by decide +kernel
theorem dX12_readsD_40 : decode cX12_readsD 40 = .ok (.aload_n 0, 1) := by decide +kernel
theorem dX12_readsD_41 : decode cX12_readsD 41 = .ok (.invokevirtual 207, 3) := by decide +kernel
theorem dX12_readsD_44 : decode cX12_readsD 44 = .ok (.bipush 97, 2) := by decide +kernel
theorem dX12_readsD_46 : decode cX12_readsD 46 = .ok (.isub, 1) := by decide +kernel
theorem dX12_readsD_47 : decode cX12_readsD 47 = .ok (.istore_n 1, 1) := by decide +kernel
theorem dX12_readsD_48 : decode cX12_readsD 48 = .ok (.iload_n 1, 1) := by decide +kernel
theorem dX12_readsD_49 : decode cX12_readsD 49 = .ok (.i2l, 1) := by decide +kernel
theorem dX12_readsD_50 : decode cX12_readsD 50 = .ok (.lconst 0, 1) := by decide +kernel
theorem dX12_readsD_51 : decode cX12_readsD 51 = .ok (.ldc2_w 157, 3) := by decide +kernel
theorem dX12_readsD_54 : decode cX12_readsD 54 = .ok (.invokestatic 138, 3) := by decide +kernel
theorem dX12_readsD_57 : decode cX12_readsD 57 = .ok (.ifCond .ne 15, 3) := by decide +kernel
theorem dX12_readsD_60 : decode cX12_readsD 60 = .ok (.aload_n 0, 1) := by decide +kernel
theorem dX12_readsD_61 : decode cX12_readsD 61 = .ok (.iconst 1, 1) := by decide +kernel
theorem dX12_readsD_62 : decode cX12_readsD 62 = .ok (.aload_n 0, 1) := by decide +kernel
theorem dX12_readsD_63 : decode cX12_readsD 63 = .ok (.getfield 181, 3) := by decide +kernel
theorem dX12_readsD_66 : decode cX12_readsD 66 = .ok (.invokevirtual 203, 3) := by decide +kernel
theorem dX12_readsD_69 : decode cX12_readsD 69 = .ok (.goto 29, 3) := by decide +kernel
theorem dX12_readsD_72 : decode cX12_readsD 72 = .ok (.iload_n 1, 1) := by decide +kernel
theorem dX12_readsD_73 : decode cX12_readsD 73 = .ok (.aload_n 0, 1) := by decide +kernel
theorem dX12_readsD_74 : decode cX12_readsD 74 = .ok (.getfield 135, 3) := by decide +kernel
theorem dX12_readsD_77 : decode cX12_readsD 77 = .ok (.if_icmp .ge 12, 3) := by decide +kernel
theorem dX12_readsD_80 : decode cX12_readsD 80 = .ok (.aload_n 0, 1) := by decide +kernel
theorem dX12_readsD_81 : decode cX12_readsD 81 = .ok (.getfield 17, 3) := by decide +kernel
theorem dX12_readsD_84 : decode cX12_readsD 84 = .ok (.iload_n 1, 1) := by decide +kernel
theorem dX12_readsD_85 : decode cX12_readsD 85 = .ok (.iaload, 1) := by decide +kernel
theorem dX12_readsD_86 : decode cX12_readsD 86 = .ok (.ifCond .eq 12, 3) := by decide +kernel
theorem dX12_readsD_89 : decode cX12_readsD 89 = .ok (.aload_n 0, 1) := by decide +kernel
theorem dX12_readsD_90 : decode cX12_readsD 90 = .ok (.iconst 2, 1) := by decide +kernel
theorem dX12_readsD_91 : decode cX12_readsD 91 = .ok (.aload_n 0, 1) := by decide +kernel
theorem dX12_readsD_92 : decode cX12_readsD 92 = .ok (.getfield 181, 3) := by decide +kernel
theorem dX12_readsD_95 : decode cX12_readsD 95 = .ok (.invokevirtual 203, 3) := by decide +kernel
theorem dX12_readsD_98 : decode cX12_readsD 98 = .ok (.aload_n 0, 1) := by decide +kernel
theorem dX12_readsD_99 : decode cX12_readsD 99 = .ok (.invokevirtual 190, 3) := by decide +kernel
theorem dX12_readsD_102 : decode cX12_readsD 102 = .ok (.ifCond .ne 4, 3) := by decide +kernel
theorem dX12_readsD_105 : decode cX12_readsD 105 = .ok (.return_, 1) := by decide +kernel
theorem dX12_readsD_106 : decode cX12_readsD 106 = .ok (.aload_n 0, 1) := by decide +kernel
theorem dX12_readsD_107 : decode cX12_readsD 107 = .ok (.getfield 129, 3) := by decide +kernel
theorem dX12_readsD_110 : decode cX12_readsD 110 = .ok (.aload_n 0, 1) := by decide +kernel
theorem dX12_readsD_111 : decode cX12_readsD 111 = .ok (.getfield 447, 3) := by decide +kernel
theorem dX12_readsD_114 : decode cX12_readsD 114 = .ok (.aload_n 0, 1) := by decide +kernel
theorem dX12_readsD_115 : decode cX12_readsD 115 = .ok (.getfield 21, 3) := by decide +kernel
theorem dX12_readsD_118 : decode cX12_readsD 118 = .ok (.iload_n 1, 1) := by decide +kernel
theorem dX12_readsD_119 : decode cX12_readsD 119 = .ok (.iaload, 1) := by decide +kernel
theorem dX12_readsD_120 : decode cX12_readsD 120 = .ok (.iastore, 1) := by decide +kernel
theorem dX12_readsD_121 : decode cX12_readsD 121 = .ok (.aload_n 0, 1) := by decide +kernel
theorem dX12_readsD_122 : decode cX12_readsD 122 = .ok (.dup, 1) := by decide +kernel
theorem dX12_readsD_123 : decode cX12_readsD 123 = .ok (.getfield 447, 3) := by decide +kernel
theorem dX12_readsD_126 : decode cX12_readsD 126 = .ok (.iconst 1, 1) := by decide +kernel
theorem dX12_readsD_127 : decode cX12_readsD 127 = .ok (.iadd, 1) := by decide +kernel
theorem dX12_readsD_128 : decode cX12_readsD 128 = .ok (.putfield 447, 3) := by decide +kernel
theorem dX12_readsD_131 : decode cX12_readsD 131 = .ok (.aload_n 0, 1) := by decide +kernel
theorem dX12_readsD_132 : decode cX12_readsD 132 = .ok (.getfield 123, 3) := by decide +kernel
theorem dX12_readsD_135 : decode cX12_readsD 135 = .ok (.iload_n 1, 1) := by decide +kernel
theorem dX12_readsD_136 : decode cX12_readsD 136 = .ok (.dup2, 1) := by decide +kernel
theorem dX12_readsD_137 : decode cX12_readsD 137 = .ok (.iaload, 1) := by decide +kernel
theorem dX12_readsD_138 : decode cX12_readsD 138 = .ok (.iconst 1, 1) := by decide +kernel
theorem dX12_readsD_139 : decode cX12_readsD 139 = .ok (.iadd, 1) := by decide +kernel
theorem dX12_readsD_140 : decode cX12_readsD 140 = .ok (.iastore, 1) := by decide +kernel
theorem dX12_readsD_141 : decode cX12_readsD 141 = .ok (.aload_n 0, 1) := by decide +kernel
theorem dX12_readsD_142 : decode cX12_readsD 142 = .ok (.dup, 1) := by decide +kernel
theorem dX12_readsD_143 : decode cX12_readsD 143 = .ok (.getfield 181, 3) := by decide +kernel
theorem dX12_readsD_146 : decode cX12_readsD 146 = .ok (.iconst 1, 1) := by decide +kernel
theorem dX12_readsD_147 : decode cX12_readsD 147 = .ok (.iadd, 1) := by decide +kernel
theorem dX12_readsD_148 : decode cX12_readsD 148 = .ok (.putfield 181, 3) := by decide +kernel
theorem dX12_readsD_151 : decode cX12_readsD 151 = .ok (.aload_n 0, 1) := by decide +kernel
theorem dX12_readsD_152 : decode cX12_readsD 152 = .ok (.invokevirtual 450, 3) := by decide +kernel
theorem dX12_readsD_155 : decode cX12_readsD 155 = .ok (.return_, 1) := by decide +kernel
theorem dX12_followsD_0 : decode cX12_followsD 0 = .ok (.iconst 1, 1) := by decide +kernel
theorem dX12_followsD_1 : decode cX12_followsD 1 = .ok (.istore_n 1, 1) := by decide +kernel
theorem dX12_followsD_2 : decode cX12_followsD 2 = .ok (.iload_n 1, 1) := by decide +kernel
theorem dX12_followsD_3 : decode cX12_followsD 3 = .ok (.ifCond .eq 95, 3) := by decide +kernel
theorem dX12_followsD_6 : decode cX12_followsD 6 = .ok (.aload_n 0, 1) := by decide +kernel
theorem dX12_followsD_7 : decode cX12_followsD 7 = .ok (.invokevirtual 190, 3) := by decide +kernel
theorem dX12_followsD_10 : decode cX12_followsD 10 = .ok (.ifCond .eq 88, 3) := by decide +kernel
theorem dX12_followsD_13 : decode cX12_followsD 13 = .ok (.aload_n 0, 1) := by decide +kernel
theorem dX12_followsD_14 : decode cX12_followsD 14 = .ok (.invokevirtual 207, 3) := by decide +kernel
theorem dX12_followsD_17 : decode cX12_followsD 17 = .ok (.bipush 41, 2) := by decide +kernel
theorem dX12_followsD_19 : decode cX12_followsD 19 = .ok (.if_icmp .ne 7, 3) := by decide +kernel
theorem dX12_followsD_22 : decode cX12_followsD 22 = .ok (.iconst 1, 1) := by decide +kernel
theorem dX12_followsD_23 : decode cX12_followsD 23 = .ok (.goto 4, 3) := by decide +kernel
theorem dX12_followsD_26 : decode cX12_followsD 26 = .ok (.iconst 0, 1) := by decide +kernel
theorem dX12_followsD_27 : decode cX12_followsD 27 = .ok (.istore_n 1, 1) := by decide +kernel
theorem dX12_followsD_28 : decode cX12_followsD 28 = .ok (.iload_n 1, 1) := by decide +kernel
theorem dX12_followsD_29 : decode cX12_followsD 29 = .ok (.ifCond .ne 6, 3) := by decide +kernel
theorem dX12_followsD_32 : decode cX12_followsD 32 = .ok (.goto (-30), 3) := by decide +kernel
theorem dX12_followsD_35 : decode cX12_followsD 35 = .ok (.aload_n 0, 1) := by decide +kernel
theorem dX12_followsD_36 : decode cX12_followsD 36 = .ok (.iconst 1, 1) := by decide +kernel
theorem dX12_followsD_37 : decode cX12_followsD 37 = .ok (.invokevirtual 453, 3) := by decide +kernel
theorem dX12_followsD_40 : decode cX12_followsD 40 = .ok (.aload_n 0, 1) := by decide +kernel
theorem dX12_followsD_41 : decode cX12_followsD 41 = .ok (.invokevirtual 221, 3) := by decide +kernel
theorem dX12_followsD_44 : decode cX12_followsD 44 = .ok (.bipush 40, 2) := by decide +kernel
theorem dX12_followsD_46 : decode cX12_followsD 46 = .ok (.if_icmp .eq 15, 3) := by decide +kernel
theorem dX12_followsD_49 : decode cX12_followsD 49 = .ok (.aload_n 0, 1) := by decide +kernel
theorem dX12_followsD_50 : decode cX12_followsD 50 = .ok (.iconst 1, 1) := by decide +kernel
theorem dX12_followsD_51 : decode cX12_followsD 51 = .ok (.aload_n 0, 1) := by decide +kernel
theorem dX12_followsD_52 : decode cX12_followsD 52 = .ok (.getfield 181, 3) := by decide +kernel
theorem dX12_followsD_55 : decode cX12_followsD 55 = .ok (.invokevirtual 203, 3) := by decide +kernel
theorem dX12_followsD_58 : decode cX12_followsD 58 = .ok (.goto (-56), 3) := by decide +kernel
theorem dX12_followsD_61 : decode cX12_followsD 61 = .ok (.aload_n 0, 1) := by decide +kernel
theorem dX12_followsD_62 : decode cX12_followsD 62 = .ok (.dup, 1) := by decide +kernel
theorem dX12_followsD_63 : decode cX12_followsD 63 = .ok (.getfield 197, 3) := by decide +kernel
theorem dX12_followsD_66 : decode cX12_followsD 66 = .ok (.iconst 1, 1) := by decide +kernel
theorem dX12_followsD_67 : decode cX12_followsD 67 = .ok (.isub, 1) := by decide +kernel
theorem dX12_followsD_68 : decode cX12_followsD 68 = .ok (.putfield 197, 3) := by decide +kernel
theorem dX12_followsD_71 : decode cX12_followsD 71 = .ok (.aload_n 0, 1) := by decide +kernel
theorem dX12_followsD_72 : decode cX12_followsD 72 = .ok (.dup, 1) := by decide +kernel
theorem dX12_followsD_73 : decode cX12_followsD 73 = .ok (.getfield 200, 3) := by decide +kernel
theorem dX12_followsD_76 : decode cX12_followsD 76 = .ok (.iconst 1, 1) := by decide +kernel
theorem dX12_followsD_77 : decode cX12_followsD 77 = .ok (.isub, 1) := by decide +kernel
theorem dX12_followsD_78 : decode cX12_followsD 78 = .ok (.putfield 200, 3) := by decide +kernel
theorem dX12_followsD_81 : decode cX12_followsD 81 = .ok (.aload_n 0, 1) := by decide +kernel
theorem dX12_followsD_82 : decode cX12_followsD 82 = .ok (.dup, 1) := by decide +kernel
theorem dX12_followsD_83 : decode cX12_followsD 83 = .ok (.getfield 181, 3) := by decide +kernel
theorem dX12_followsD_86 : decode cX12_followsD 86 = .ok (.iconst 1, 1) := by decide +kernel
theorem dX12_followsD_87 : decode cX12_followsD 87 = .ok (.iadd, 1) := by decide +kernel
theorem dX12_followsD_88 : decode cX12_followsD 88 = .ok (.putfield 181, 3) := by decide +kernel
theorem dX12_followsD_91 : decode cX12_followsD 91 = .ok (.aload_n 0, 1) := by decide +kernel
theorem dX12_followsD_92 : decode cX12_followsD 92 = .ok (.invokevirtual 450, 3) := by decide +kernel
theorem dX12_followsD_95 : decode cX12_followsD 95 = .ok (.goto (-93), 3) := by decide +kernel
theorem dX12_followsD_98 : decode cX12_followsD 98 = .ok (.aload_n 0, 1) := by decide +kernel
theorem dX12_followsD_99 : decode cX12_followsD 99 = .ok (.invokevirtual 190, 3) := by decide +kernel
theorem dX12_followsD_102 : decode cX12_followsD 102 = .ok (.ifCond .eq 14, 3) := by decide +kernel
theorem dX12_followsD_105 : decode cX12_followsD 105 = .ok (.aload_n 0, 1) := by decide +kernel
theorem dX12_followsD_106 : decode cX12_followsD 106 = .ok (.getfield 181, 3) := by decide +kernel
theorem dX12_followsD_109 : decode cX12_followsD 109 = .ok (.aload_n 0, 1) := by decide +kernel
theorem dX12_followsD_110 : decode cX12_followsD 110 = .ok (.getfield 184, 3) := by decide +kernel
theorem dX12_followsD_113 : decode cX12_followsD 113 = .ok (.if_icmp .ne 5, 3) := by decide +kernel
theorem dX12_followsD_116 : decode cX12_followsD 116 = .ok (.iconst 0, 1) := by decide +kernel
theorem dX12_followsD_117 : decode cX12_followsD 117 = .ok (.ireturn, 1) := by decide +kernel
theorem dX12_followsD_118 : decode cX12_followsD 118 = .ok (.aload_n 0, 1) := by decide +kernel
theorem dX12_followsD_119 : decode cX12_followsD 119 = .ok (.invokevirtual 207, 3) := by decide +kernel
theorem dX12_followsD_122 : decode cX12_followsD 122 = .ok (.istore_n 2, 1) := by decide +kernel
theorem dX12_followsD_123 : decode cX12_followsD 123 = .ok (.iload_n 2, 1) := by decide +kernel
theorem dX12_followsD_124 : decode cX12_followsD 124 = .ok (.bipush 43, 2) := by decide +kernel
theorem dX12_followsD_126 : decode cX12_followsD 126 = .ok (.if_icmp .eq 21, 3) := by decide +kernel
theorem dX12_followsD_129 : decode cX12_followsD 129 = .ok (.iload_n 2, 1) := by decide +kernel
theorem dX12_followsD_130 : decode cX12_followsD 130 = .ok (.invokestatic 456, 3) := by decide +kernel
theorem dX12_followsD_133 : decode cX12_followsD 133 = .ok (.ifCond .ne 14, 3) := by decide +kernel
theorem dX12_followsD_136 : decode cX12_followsD 136 = .ok (.aload_n 0, 1) := by decide +kernel
theorem dX12_followsD_137 : decode cX12_followsD 137 = .ok (.iconst 1, 1) := by decide +kernel
theorem dX12_followsD_138 : decode cX12_followsD 138 = .ok (.aload_n 0, 1) := by decide +kernel
theorem dX12_followsD_139 : decode cX12_followsD 139 = .ok (.getfield 181, 3) := by decide +kernel
theorem dX12_followsD_142 : decode cX12_followsD 142 = .ok (.invokevirtual 203, 3) := by decide +kernel
theorem dX12_followsD_145 : decode cX12_followsD 145 = .ok (.iconst 0, 1) := by decide +kernel
theorem dX12_followsD_146 : decode cX12_followsD 146 = .ok (.ireturn, 1) := by decide +kernel
theorem dX12_followsD_147 : decode cX12_followsD 147 = .ok (.aload_n 0, 1) := by decide +kernel
theorem dX12_followsD_148 : decode cX12_followsD 148 = .ok (.iload_n 2, 1) := by decide +kernel
theorem dX12_followsD_149 : decode cX12_followsD 149 = .ok (.bipush 43, 2) := by decide +kernel
theorem dX12_followsD_151 : decode cX12_followsD 151 = .ok (.if_icmp .ne 7, 3) := by decide +kernel
theorem dX12_followsD_154 : decode cX12_followsD 154 = .ok (.iconst 1, 1) := by decide +kernel
theorem dX12_followsD_155 : decode cX12_followsD 155 = .ok (.goto 4, 3) := by decide +kernel
theorem dX12_followsD_158 : decode cX12_followsD 158 = .ok (.iconst 0, 1) := by decide +kernel
theorem dX12_followsD_159 : decode cX12_followsD 159 = .ok (.invokevirtual 453, 3) := by decide +kernel
theorem dX12_followsD_162 : decode cX12_followsD 162 = .ok (.aload_n 0, 1) := by decide +kernel
theorem dX12_followsD_163 : decode cX12_followsD 163 = .ok (.getfield 75, 3) := by decide +kernel
theorem dX12_followsD_166 : decode cX12_followsD 166 = .ok (.aload_n 0, 1) := by decide +kernel
theorem dX12_followsD_167 : decode cX12_followsD 167 = .ok (.getfield 197, 3) := by decide +kernel
theorem dX12_followsD_170 : decode cX12_followsD 170 = .ok (.iload_n 2, 1) := by decide +kernel
theorem dX12_followsD_171 : decode cX12_followsD 171 = .ok (.bipush 43, 2) := by decide +kernel
theorem dX12_followsD_173 : decode cX12_followsD 173 = .ok (.if_icmp .ne 8, 3) := by decide +kernel
theorem dX12_followsD_176 : decode cX12_followsD 176 = .ok (.bipush 43, 2) := by decide +kernel
theorem dX12_followsD_178 : decode cX12_followsD 178 = .ok (.goto 5, 3) := by decide +kernel
theorem dX12_followsD_181 : decode cX12_followsD 181 = .ok (.bipush 42, 2) := by decide +kernel
theorem dX12_followsD_183 : decode cX12_followsD 183 = .ok (.iastore, 1) := by decide +kernel
theorem dX12_followsD_184 : decode cX12_followsD 184 = .ok (.aload_n 0, 1) := by decide +kernel
theorem dX12_followsD_185 : decode cX12_followsD 185 = .ok (.dup, 1) := by decide +kernel
theorem dX12_followsD_186 : decode cX12_followsD 186 = .ok (.getfield 197, 3) := by decide +kernel
theorem dX12_followsD_189 : decode cX12_followsD 189 = .ok (.iconst 1, 1) := by decide +kernel
theorem dX12_followsD_190 : decode cX12_followsD 190 = .ok (.iadd, 1) := by decide +kernel
theorem dX12_followsD_191 : decode cX12_followsD 191 = .ok (.putfield 197, 3) := by decide +kernel
theorem dX12_followsD_194 : decode cX12_followsD 194 = .ok (.aload_n 0, 1) := by decide +kernel
theorem dX12_followsD_195 : decode cX12_followsD 195 = .ok (.dup, 1) := by decide +kernel
theorem dX12_followsD_196 : decode cX12_followsD 196 = .ok (.getfield 181, 3) := by decide +kernel
theorem dX12_followsD_199 : decode cX12_followsD 199 = .ok (.iload_n 2, 1) := by decide +kernel
theorem dX12_followsD_200 : decode cX12_followsD 200 = .ok (.bipush 43, 2) := by decide +kernel
theorem dX12_followsD_202 : decode cX12_followsD 202 = .ok (.if_icmp .ne 7, 3) := by decide +kernel
theorem dX12_followsD_205 : decode cX12_followsD 205 = .ok (.iconst 1, 1) := by decide +kernel
theorem dX12_followsD_206 : decode cX12_followsD 206 = .ok (.goto 4, 3) := by decide +kernel
theorem dX12_followsD_209 : decode cX12_followsD 209 = .ok (.iconst 0, 1) := by decide +kernel
theorem dX12_followsD_210 : decode cX12_followsD 210 = .ok (.iadd, 1) := by decide +kernel
theorem dX12_followsD_211 : decode cX12_followsD 211 = .ok (.putfield 181, 3) := by decide +kernel
theorem dX12_followsD_214 : decode cX12_followsD 214 = .ok (.iconst 1, 1) := by decide +kernel
theorem dX12_followsD_215 : decode cX12_followsD 215 = .ok (.ireturn, 1) := by decide +kernel
theorem dX12_law_0 : decode cX12_law 0 = .ok (.iload_n 1, 1) := by decide +kernel
theorem dX12_law_1 : decode cX12_law 1 = .ok (.i2l, 1) := by decide +kernel
theorem dX12_law_2 : decode cX12_law 2 = .ok (.lconst 0, 1) := by decide +kernel
theorem dX12_law_3 : decode cX12_law 3 = .ok (.ldc2_w 144, 3) := by decide +kernel
theorem dX12_law_6 : decode cX12_law 6 = .ok (.invokestatic 138, 3) := by decide +kernel
theorem dX12_law_9 : decode cX12_law 9 = .ok (.ifCond .eq 23, 3) := by decide +kernel
theorem dX12_law_12 : decode cX12_law 12 = .ok (.iload_n 2, 1) := by decide +kernel
theorem dX12_law_13 : decode cX12_law 13 = .ok (.i2l, 1) := by decide +kernel
theorem dX12_law_14 : decode cX12_law 14 = .ok (.lconst 1, 1) := by decide +kernel
theorem dX12_law_15 : decode cX12_law 15 = .ok (.ldc2_w 459, 3) := by decide +kernel
theorem dX12_law_18 : decode cX12_law 18 = .ok (.invokestatic 138, 3) := by decide +kernel
theorem dX12_law_21 : decode cX12_law 21 = .ok (.ifCond .eq 11, 3) := by decide +kernel
theorem dX12_law_24 : decode cX12_law 24 = .ok (.iload_n 2, 1) := by decide +kernel
theorem dX12_law_25 : decode cX12_law 25 = .ok (.aload_n 0, 1) := by decide +kernel
theorem dX12_law_26 : decode cX12_law 26 = .ok (.getfield 174, 3) := by decide +kernel
theorem dX12_law_29 : decode cX12_law 29 = .ok (.if_icmp .le 5, 3) := by decide +kernel
theorem dX12_law_32 : decode cX12_law 32 = .ok (.iconst (-1), 1) := by decide +kernel
theorem dX12_law_33 : decode cX12_law 33 = .ok (.ireturn, 1) := by decide +kernel
theorem dX12_law_34 : decode cX12_law 34 = .ok (.aload_n 0, 1) := by decide +kernel
theorem dX12_law_35 : decode cX12_law 35 = .ok (.iload_n 2, 1) := by decide +kernel
theorem dX12_law_36 : decode cX12_law 36 = .ok (.invokevirtual 285, 3) := by decide +kernel
theorem dX12_law_39 : decode cX12_law 39 = .ok (.aload_n 0, 1) := by decide +kernel
theorem dX12_law_40 : decode cX12_law 40 = .ok (.iconst 0, 1) := by decide +kernel
theorem dX12_law_41 : decode cX12_law 41 = .ok (.putfield 447, 3) := by decide +kernel
theorem dX12_law_44 : decode cX12_law 44 = .ok (.iconst 0, 1) := by decide +kernel
theorem dX12_law_45 : decode cX12_law 45 = .ok (.istore_n 3, 1) := by decide +kernel
theorem dX12_law_46 : decode cX12_law 46 = .ok (.iload_n 3, 1) := by decide +kernel
theorem dX12_law_47 : decode cX12_law 47 = .ok (.bipush 10, 2) := by decide +kernel
theorem dX12_law_49 : decode cX12_law 49 = .ok (.if_icmp .ge 16, 3) := by decide +kernel
theorem dX12_law_52 : decode cX12_law 52 = .ok (.aload_n 0, 1) := by decide +kernel
theorem dX12_law_53 : decode cX12_law 53 = .ok (.getfield 123, 3) := by decide +kernel
theorem dX12_law_56 : decode cX12_law 56 = .ok (.iload_n 3, 1) := by decide +kernel
theorem dX12_law_57 : decode cX12_law 57 = .ok (.iconst 0, 1) := by decide +kernel
theorem dX12_law_58 : decode cX12_law 58 = .ok (.iastore, 1) := by decide +kernel
theorem dX12_law_59 : decode cX12_law 59 = .ok (.iinc 3 1, 3) := by decide +kernel
theorem dX12_law_62 : decode cX12_law 62 = .ok (.goto (-16), 3) := by decide +kernel
theorem dX12_law_65 : decode cX12_law 65 = .ok (.iconst 0, 1) := by decide +kernel
theorem dX12_law_66 : decode cX12_law 66 = .ok (.istore_n 3, 1) := by decide +kernel
theorem dX12_law_67 : decode cX12_law 67 = .ok (.iload_n 3, 1) := by decide +kernel
theorem dX12_law_68 : decode cX12_law 68 = .ok (.iconst 4, 1) := by decide +kernel
theorem dX12_law_69 : decode cX12_law 69 = .ok (.if_icmp .ge 16, 3) := by decide +kernel
theorem dX12_law_72 : decode cX12_law 72 = .ok (.aload_n 0, 1) := by decide +kernel
theorem dX12_law_73 : decode cX12_law 73 = .ok (.getfield 126, 3) := by decide +kernel
theorem dX12_law_76 : decode cX12_law 76 = .ok (.iload_n 3, 1) := by decide +kernel
theorem dX12_law_77 : decode cX12_law 77 = .ok (.iconst 0, 1) := by decide +kernel
theorem dX12_law_78 : decode cX12_law 78 = .ok (.iastore, 1) := by decide +kernel
theorem dX12_law_79 : decode cX12_law 79 = .ok (.iinc 3 1, 3) := by decide +kernel
theorem dX12_law_82 : decode cX12_law 82 = .ok (.goto (-15), 3) := by decide +kernel
theorem dX12_law_85 : decode cX12_law 85 = .ok (.iconst 1, 1) := by decide +kernel
theorem dX12_law_86 : decode cX12_law 86 = .ok (.istore_n 3, 1) := by decide +kernel
theorem dX12_law_87 : decode cX12_law 87 = .ok (.iload_n 3, 1) := by decide +kernel
theorem dX12_law_88 : decode cX12_law 88 = .ok (.ifCond .eq 37, 3) := by decide +kernel
theorem dX12_law_91 : decode cX12_law 91 = .ok (.aload_n 0, 1) := by decide +kernel
theorem dX12_law_92 : decode cX12_law 92 = .ok (.invokevirtual 190, 3) := by decide +kernel
theorem dX12_law_95 : decode cX12_law 95 = .ok (.ifCond .eq 30, 3) := by decide +kernel
theorem dX12_law_98 : decode cX12_law 98 = .ok (.aload_n 0, 1) := by decide +kernel
theorem dX12_law_99 : decode cX12_law 99 = .ok (.invokevirtual 461, 3) := by decide +kernel
theorem dX12_law_102 : decode cX12_law 102 = .ok (.aload_n 0, 1) := by decide +kernel
theorem dX12_law_103 : decode cX12_law 103 = .ok (.invokevirtual 190, 3) := by decide +kernel
theorem dX12_law_106 : decode cX12_law 106 = .ok (.ifCond .eq 14, 3) := by decide +kernel
theorem dX12_law_109 : decode cX12_law 109 = .ok (.aload_n 0, 1) := by decide +kernel
theorem dX12_law_110 : decode cX12_law 110 = .ok (.invokevirtual 464, 3) := by decide +kernel
theorem dX12_law_113 : decode cX12_law 113 = .ok (.ifCond .eq 7, 3) := by decide +kernel
theorem dX12_law_116 : decode cX12_law 116 = .ok (.iconst 1, 1) := by decide +kernel
theorem dX12_law_117 : decode cX12_law 117 = .ok (.goto 4, 3) := by decide +kernel
theorem dX12_law_120 : decode cX12_law 120 = .ok (.iconst 0, 1) := by decide +kernel
theorem dX12_law_121 : decode cX12_law 121 = .ok (.istore_n 3, 1) := by decide +kernel
theorem dX12_law_122 : decode cX12_law 122 = .ok (.goto (-35), 3) := by decide +kernel
theorem dX12_law_125 : decode cX12_law 125 = .ok (.aload_n 0, 1) := by decide +kernel
theorem dX12_law_126 : decode cX12_law 126 = .ok (.invokevirtual 190, 3) := by decide +kernel
theorem dX12_law_129 : decode cX12_law 129 = .ok (.ifCond .eq 8, 3) := by decide +kernel
theorem dX12_law_132 : decode cX12_law 132 = .ok (.aload_n 0, 1) := by decide +kernel
theorem dX12_law_133 : decode cX12_law 133 = .ok (.iconst 1, 1) := by decide +kernel
theorem dX12_law_134 : decode cX12_law 134 = .ok (.invokevirtual 453, 3) := by decide +kernel
theorem dX12_law_137 : decode cX12_law 137 = .ok (.aload_n 0, 1) := by decide +kernel
theorem dX12_law_138 : decode cX12_law 138 = .ok (.invokevirtual 190, 3) := by decide +kernel
theorem dX12_law_141 : decode cX12_law 141 = .ok (.ifCond .eq 19, 3) := by decide +kernel
theorem dX12_law_144 : decode cX12_law 144 = .ok (.aload_n 0, 1) := by decide +kernel
theorem dX12_law_145 : decode cX12_law 145 = .ok (.getfield 197, 3) := by decide +kernel
theorem dX12_law_148 : decode cX12_law 148 = .ok (.ifCond .le 12, 3) := by decide +kernel
theorem dX12_law_151 : decode cX12_law 151 = .ok (.aload_n 0, 1) := by decide +kernel
theorem dX12_law_152 : decode cX12_law 152 = .ok (.iconst 1, 1) := by decide +kernel
theorem dX12_law_153 : decode cX12_law 153 = .ok (.aload_n 0, 1) := by decide +kernel
theorem dX12_law_154 : decode cX12_law 154 = .ok (.getfield 181, 3) := by decide +kernel
theorem dX12_law_157 : decode cX12_law 157 = .ok (.invokevirtual 203, 3) := by decide +kernel
theorem dX12_law_160 : decode cX12_law 160 = .ok (.aload_n 0, 1) := by decide +kernel
theorem dX12_law_161 : decode cX12_law 161 = .ok (.getfield 187, 3) := by decide +kernel
theorem dX12_law_164 : decode cX12_law 164 = .ok (.ifCond .ge 8, 3) := by decide +kernel
theorem dX12_law_167 : decode cX12_law 167 = .ok (.aload_n 0, 1) := by decide +kernel
theorem dX12_law_168 : decode cX12_law 168 = .ok (.getfield 187, 3) := by decide +kernel
theorem dX12_law_171 : decode cX12_law 171 = .ok (.ireturn, 1) := by decide +kernel
theorem dX12_law_172 : decode cX12_law 172 = .ok (.aload_n 0, 1) := by decide +kernel
theorem dX12_law_173 : decode cX12_law 173 = .ok (.getfield 111, 3) := by decide +kernel
theorem dX12_law_176 : decode cX12_law 176 = .ok (.iload_n 1, 1) := by decide +kernel
theorem dX12_law_177 : decode cX12_law 177 = .ok (.iconst 1, 1) := by decide +kernel
theorem dX12_law_178 : decode cX12_law 178 = .ok (.bastore, 1) := by decide +kernel
theorem dX12_law_179 : decode cX12_law 179 = .ok (.aload_n 0, 1) := by decide +kernel
theorem dX12_law_180 : decode cX12_law 180 = .ok (.getfield 114, 3) := by decide +kernel
theorem dX12_law_183 : decode cX12_law 183 = .ok (.iload_n 1, 1) := by decide +kernel
theorem dX12_law_184 : decode cX12_law 184 = .ok (.aload_n 0, 1) := by decide +kernel
theorem dX12_law_185 : decode cX12_law 185 = .ok (.getfield 129, 3) := by decide +kernel
theorem dX12_law_188 : decode cX12_law 188 = .ok (.iconst 0, 1) := by decide +kernel
theorem dX12_law_189 : decode cX12_law 189 = .ok (.iaload, 1) := by decide +kernel
theorem dX12_law_190 : decode cX12_law 190 = .ok (.iastore, 1) := by decide +kernel
theorem dX12_law_191 : decode cX12_law 191 = .ok (.iconst 0, 1) := by decide +kernel
theorem dX12_law_192 : decode cX12_law 192 = .ok (.istore 4, 2) := by decide +kernel
theorem dX12_law_194 : decode cX12_law 194 = .ok (.iload 4, 2) := by decide +kernel
theorem dX12_law_196 : decode cX12_law 196 = .ok (.bipush 10, 2) := by decide +kernel
theorem dX12_law_198 : decode cX12_law 198 = .ok (.if_icmp .ge 28, 3) := by decide +kernel
theorem dX12_law_201 : decode cX12_law 201 = .ok (.aload_n 0, 1) := by decide +kernel
theorem dX12_law_202 : decode cX12_law 202 = .ok (.getfield 117, 3) := by decide +kernel
theorem dX12_law_205 : decode cX12_law 205 = .ok (.bipush 10, 2) := by decide +kernel
theorem dX12_law_207 : decode cX12_law 207 = .ok (.iload_n 1, 1) := by decide +kernel
theorem dX12_law_208 : decode cX12_law 208 = .ok (.imul, 1) := by decide +kernel
theorem dX12_law_209 : decode cX12_law 209 = .ok (.iload 4, 2) := by decide +kernel
theorem dX12_law_211 : decode cX12_law 211 = .ok (.iadd, 1) := by decide +kernel
theorem dX12_law_212 : decode cX12_law 212 = .ok (.aload_n 0, 1) := by decide +kernel
theorem dX12_law_213 : decode cX12_law 213 = .ok (.getfield 123, 3) := by decide +kernel
theorem dX12_law_216 : decode cX12_law 216 = .ok (.iload 4, 2) := by decide +kernel
theorem dX12_law_218 : decode cX12_law 218 = .ok (.iaload, 1) := by decide +kernel
theorem dX12_law_219 : decode cX12_law 219 = .ok (.iastore, 1) := by decide +kernel
theorem dX12_law_220 : decode cX12_law 220 = .ok (.iinc 4 1, 3) := by decide +kernel
theorem dX12_law_223 : decode cX12_law 223 = .ok (.goto (-29), 3) := by decide +kernel
theorem dX12_law_226 : decode cX12_law 226 = .ok (.iconst 0, 1) := by decide +kernel
theorem dX12_law_227 : decode cX12_law 227 = .ok (.istore 4, 2) := by decide +kernel
theorem dX12_law_229 : decode cX12_law 229 = .ok (.iload 4, 2) := by decide +kernel
theorem dX12_law_231 : decode cX12_law 231 = .ok (.iconst 4, 1) := by decide +kernel
theorem dX12_law_232 : decode cX12_law 232 = .ok (.if_icmp .ge 27, 3) := by decide +kernel
theorem dX12_law_235 : decode cX12_law 235 = .ok (.aload_n 0, 1) := by decide +kernel
theorem dX12_law_236 : decode cX12_law 236 = .ok (.getfield 120, 3) := by decide +kernel
theorem dX12_law_239 : decode cX12_law 239 = .ok (.iconst 4, 1) := by decide +kernel
theorem dX12_law_240 : decode cX12_law 240 = .ok (.iload_n 1, 1) := by decide +kernel
theorem dX12_law_241 : decode cX12_law 241 = .ok (.imul, 1) := by decide +kernel
theorem dX12_law_242 : decode cX12_law 242 = .ok (.iload 4, 2) := by decide +kernel
theorem dX12_law_244 : decode cX12_law 244 = .ok (.iadd, 1) := by decide +kernel
theorem dX12_law_245 : decode cX12_law 245 = .ok (.aload_n 0, 1) := by decide +kernel
theorem dX12_law_246 : decode cX12_law 246 = .ok (.getfield 126, 3) := by decide +kernel
theorem dX12_law_249 : decode cX12_law 249 = .ok (.iload 4, 2) := by decide +kernel
theorem dX12_law_251 : decode cX12_law 251 = .ok (.iaload, 1) := by decide +kernel
theorem dX12_law_252 : decode cX12_law 252 = .ok (.iastore, 1) := by decide +kernel
theorem dX12_law_253 : decode cX12_law 253 = .ok (.iinc 4 1, 3) := by decide +kernel
theorem dX12_law_256 : decode cX12_law 256 = .ok (.goto (-27), 3) := by decide +kernel
theorem dX12_law_259 : decode cX12_law 259 = .ok (.aload_n 0, 1) := by decide +kernel
theorem dX12_law_260 : decode cX12_law 260 = .ok (.getfield 114, 3) := by decide +kernel
theorem dX12_law_263 : decode cX12_law 263 = .ok (.iload_n 1, 1) := by decide +kernel
theorem dX12_law_264 : decode cX12_law 264 = .ok (.iaload, 1) := by decide +kernel
theorem dX12_law_265 : decode cX12_law 265 = .ok (.ireturn, 1) := by decide +kernel
theorem dX12_lawLength_0 : decode cX12_lawLength 0 = .ok (.iconst 1, 1) := by decide +kernel
theorem dX12_lawLength_1 : decode cX12_lawLength 1 = .ok (.aload_n 0, 1) := by decide +kernel
theorem dX12_lawLength_2 : decode cX12_lawLength 2 = .ok (.getfield 135, 3) := by decide +kernel
theorem dX12_lawLength_5 : decode cX12_lawLength 5 = .ok (.ishl, 1) := by decide +kernel
theorem dX12_lawLength_6 : decode cX12_lawLength 6 = .ok (.iconst 1, 1) := by decide +kernel
theorem dX12_lawLength_7 : decode cX12_lawLength 7 = .ok (.isub, 1) := by decide +kernel
theorem dX12_lawLength_8 : decode cX12_lawLength 8 = .ok (.istore_n 2, 1) := by decide +kernel
theorem dX12_lawLength_9 : decode cX12_lawLength 9 = .ok (.iconst 0, 1) := by decide +kernel
theorem dX12_lawLength_10 : decode cX12_lawLength 10 = .ok (.istore_n 3, 1) := by decide +kernel
theorem dX12_lawLength_11 : decode cX12_lawLength 11 = .ok (.iconst 0, 1) := by decide +kernel
theorem dX12_lawLength_12 : decode cX12_lawLength 12 = .ok (.istore 4, 2) := by decide +kernel
theorem dX12_lawLength_14 : decode cX12_lawLength 14 = .ok (.iload 4, 2) := by decide +kernel
theorem dX12_lawLength_16 : decode cX12_lawLength 16 = .ok (.aload_n 0, 1) := by decide +kernel
theorem dX12_lawLength_17 : decode cX12_lawLength 17 = .ok (.getfield 135, 3) := by decide +kernel
theorem dX12_lawLength_20 : decode cX12_lawLength 20 = .ok (.if_icmp .ge 32, 3) := by decide +kernel
theorem dX12_lawLength_23 : decode cX12_lawLength 23 = .ok (.iload_n 3, 1) := by decide +kernel
theorem dX12_lawLength_24 : decode cX12_lawLength 24 = .ok (.aload_n 0, 1) := by decide +kernel
theorem dX12_lawLength_25 : decode cX12_lawLength 25 = .ok (.getfield 117, 3) := by decide +kernel
theorem dX12_lawLength_28 : decode cX12_lawLength 28 = .ok (.bipush 10, 2) := by decide +kernel
theorem dX12_lawLength_30 : decode cX12_lawLength 30 = .ok (.iload_n 1, 1) := by decide +kernel
theorem dX12_lawLength_31 : decode cX12_lawLength 31 = .ok (.imul, 1) := by decide +kernel
theorem dX12_lawLength_32 : decode cX12_lawLength 32 = .ok (.iload 4, 2) := by decide +kernel
theorem dX12_lawLength_34 : decode cX12_lawLength 34 = .ok (.iadd, 1) := by decide +kernel
theorem dX12_lawLength_35 : decode cX12_lawLength 35 = .ok (.iaload, 1) := by decide +kernel
theorem dX12_lawLength_36 : decode cX12_lawLength 36 = .ok (.aload_n 0, 1) := by decide +kernel
theorem dX12_lawLength_37 : decode cX12_lawLength 37 = .ok (.getfield 24, 3) := by decide +kernel
theorem dX12_lawLength_40 : decode cX12_lawLength 40 = .ok (.iload 4, 2) := by decide +kernel
theorem dX12_lawLength_42 : decode cX12_lawLength 42 = .ok (.iaload, 1) := by decide +kernel
theorem dX12_lawLength_43 : decode cX12_lawLength 43 = .ok (.imul, 1) := by decide +kernel
theorem dX12_lawLength_44 : decode cX12_lawLength 44 = .ok (.iadd, 1) := by decide +kernel
theorem dX12_lawLength_45 : decode cX12_lawLength 45 = .ok (.istore_n 3, 1) := by decide +kernel
theorem dX12_lawLength_46 : decode cX12_lawLength 46 = .ok (.iinc 4 1, 3) := by decide +kernel
theorem dX12_lawLength_49 : decode cX12_lawLength 49 = .ok (.goto (-35), 3) := by decide +kernel
theorem dX12_lawLength_52 : decode cX12_lawLength 52 = .ok (.iconst 1, 1) := by decide +kernel
theorem dX12_lawLength_53 : decode cX12_lawLength 53 = .ok (.istore 4, 2) := by decide +kernel
theorem dX12_lawLength_55 : decode cX12_lawLength 55 = .ok (.iload 4, 2) := by decide +kernel
theorem dX12_lawLength_57 : decode cX12_lawLength 57 = .ok (.iconst 3, 1) := by decide +kernel
theorem dX12_lawLength_58 : decode cX12_lawLength 58 = .ok (.if_icmp .gt 48, 3) := by decide +kernel
theorem dX12_lawLength_61 : decode cX12_lawLength 61 = .ok (.iload_n 3, 1) := by decide +kernel
theorem dX12_lawLength_62 : decode cX12_lawLength 62 = .ok (.aload_n 0, 1) := by decide +kernel
theorem dX12_lawLength_63 : decode cX12_lawLength 63 = .ok (.iload_n 2, 1) := by decide +kernel
theorem dX12_lawLength_64 : decode cX12_lawLength 64 = .ok (.iload 4, 2) := by decide +kernel
theorem dX12_lawLength_66 : decode cX12_lawLength 66 = .ok (.invokevirtual 325, 3) := by decide +kernel
theorem dX12_lawLength_69 : decode cX12_lawLength 69 = .ok (.ldc_w 324, 3) := by decide +kernel
theorem dX12_lawLength_72 : decode cX12_lawLength 72 = .ok (.if_icmp .ge 25, 3) := by decide +kernel
theorem dX12_lawLength_75 : decode cX12_lawLength 75 = .ok (.aload_n 0, 1) := by decide +kernel
theorem dX12_lawLength_76 : decode cX12_lawLength 76 = .ok (.getfield 120, 3) := by decide +kernel
theorem dX12_lawLength_79 : decode cX12_lawLength 79 = .ok (.iconst 4, 1) := by decide +kernel
theorem dX12_lawLength_80 : decode cX12_lawLength 80 = .ok (.iload_n 1, 1) := by decide +kernel
theorem dX12_lawLength_81 : decode cX12_lawLength 81 = .ok (.imul, 1) := by decide +kernel
theorem dX12_lawLength_82 : decode cX12_lawLength 82 = .ok (.iload 4, 2) := by decide +kernel
theorem dX12_lawLength_84 : decode cX12_lawLength 84 = .ok (.iadd, 1) := by decide +kernel
theorem dX12_lawLength_85 : decode cX12_lawLength 85 = .ok (.iaload, 1) := by decide +kernel
theorem dX12_lawLength_86 : decode cX12_lawLength 86 = .ok (.aload_n 0, 1) := by decide +kernel
theorem dX12_lawLength_87 : decode cX12_lawLength 87 = .ok (.iload_n 2, 1) := by decide +kernel
theorem dX12_lawLength_88 : decode cX12_lawLength 88 = .ok (.iload 4, 2) := by decide +kernel
theorem dX12_lawLength_90 : decode cX12_lawLength 90 = .ok (.invokevirtual 325, 3) := by decide +kernel
theorem dX12_lawLength_93 : decode cX12_lawLength 93 = .ok (.imul, 1) := by decide +kernel
theorem dX12_lawLength_94 : decode cX12_lawLength 94 = .ok (.goto 4, 3) := by decide +kernel
theorem dX12_lawLength_97 : decode cX12_lawLength 97 = .ok (.iconst 0, 1) := by decide +kernel
theorem dX12_lawLength_98 : decode cX12_lawLength 98 = .ok (.iadd, 1) := by decide +kernel
theorem dX12_lawLength_99 : decode cX12_lawLength 99 = .ok (.istore_n 3, 1) := by decide +kernel
theorem dX12_lawLength_100 : decode cX12_lawLength 100 = .ok (.iinc 4 1, 3) := by decide +kernel
theorem dX12_lawLength_103 : decode cX12_lawLength 103 = .ok (.goto (-48), 3) := by decide +kernel
theorem dX12_lawLength_106 : decode cX12_lawLength 106 = .ok (.iload_n 3, 1) := by decide +kernel
theorem dX12_lawLength_107 : decode cX12_lawLength 107 = .ok (.ireturn, 1) := by decide +kernel
theorem dX12_lawIs_0 : decode cX12_lawIs 0 = .ok (.iload_n 1, 1) := by decide +kernel
theorem dX12_lawIs_1 : decode cX12_lawIs 1 = .ok (.i2l, 1) := by decide +kernel
theorem dX12_lawIs_2 : decode cX12_lawIs 2 = .ok (.lconst 0, 1) := by decide +kernel
theorem dX12_lawIs_3 : decode cX12_lawIs 3 = .ok (.ldc2_w 144, 3) := by decide +kernel
theorem dX12_lawIs_6 : decode cX12_lawIs 6 = .ok (.invokestatic 138, 3) := by decide +kernel
theorem dX12_lawIs_9 : decode cX12_lawIs 9 = .ok (.ifCond .eq 24, 3) := by decide +kernel
theorem dX12_lawIs_12 : decode cX12_lawIs 12 = .ok (.aload_n 0, 1) := by decide +kernel
theorem dX12_lawIs_13 : decode cX12_lawIs 13 = .ok (.getfield 111, 3) := by decide +kernel
theorem dX12_lawIs_16 : decode cX12_lawIs 16 = .ok (.iload_n 1, 1) := by decide +kernel
theorem dX12_lawIs_17 : decode cX12_lawIs 17 = .ok (.baload, 1) := by decide +kernel
theorem dX12_lawIs_18 : decode cX12_lawIs 18 = .ok (.ifCond .eq 15, 3) := by decide +kernel
theorem dX12_lawIs_21 : decode cX12_lawIs 21 = .ok (.iload_n 2, 1) := by decide +kernel
theorem dX12_lawIs_22 : decode cX12_lawIs 22 = .ok (.i2l, 1) := by decide +kernel
theorem dX12_lawIs_23 : decode cX12_lawIs 23 = .ok (.lconst 0, 1) := by decide +kernel
theorem dX12_lawIs_24 : decode cX12_lawIs 24 = .ok (.ldc2_w 144, 3) := by decide +kernel
theorem dX12_lawIs_27 : decode cX12_lawIs 27 = .ok (.invokestatic 138, 3) := by decide +kernel
theorem dX12_lawIs_30 : decode cX12_lawIs 30 = .ok (.ifCond .ne 5, 3) := by decide +kernel
theorem dX12_lawIs_33 : decode cX12_lawIs 33 = .ok (.iconst (-1), 1) := by decide +kernel
theorem dX12_lawIs_34 : decode cX12_lawIs 34 = .ok (.ireturn, 1) := by decide +kernel
theorem dX12_lawIs_35 : decode cX12_lawIs 35 = .ok (.iconst 0, 1) := by decide +kernel
theorem dX12_lawIs_36 : decode cX12_lawIs 36 = .ok (.istore_n 3, 1) := by decide +kernel
theorem dX12_lawIs_37 : decode cX12_lawIs 37 = .ok (.iconst 0, 1) := by decide +kernel
theorem dX12_lawIs_38 : decode cX12_lawIs 38 = .ok (.istore 4, 2) := by decide +kernel
theorem dX12_lawIs_40 : decode cX12_lawIs 40 = .ok (.iload 4, 2) := by decide +kernel
theorem dX12_lawIs_42 : decode cX12_lawIs 42 = .ok (.aload_n 0, 1) := by decide +kernel
theorem dX12_lawIs_43 : decode cX12_lawIs 43 = .ok (.getfield 135, 3) := by decide +kernel
theorem dX12_lawIs_46 : decode cX12_lawIs 46 = .ok (.if_icmp .ge 47, 3) := by decide +kernel
theorem dX12_lawIs_49 : decode cX12_lawIs 49 = .ok (.iload_n 3, 1) := by decide +kernel
theorem dX12_lawIs_50 : decode cX12_lawIs 50 = .ok (.aload_n 0, 1) := by decide +kernel
theorem dX12_lawIs_51 : decode cX12_lawIs 51 = .ok (.getfield 117, 3) := by decide +kernel
theorem dX12_lawIs_54 : decode cX12_lawIs 54 = .ok (.bipush 10, 2) := by decide +kernel
theorem dX12_lawIs_56 : decode cX12_lawIs 56 = .ok (.iload_n 1, 1) := by decide +kernel
theorem dX12_lawIs_57 : decode cX12_lawIs 57 = .ok (.imul, 1) := by decide +kernel
theorem dX12_lawIs_58 : decode cX12_lawIs 58 = .ok (.iload 4, 2) := by decide +kernel
theorem dX12_lawIs_60 : decode cX12_lawIs 60 = .ok (.iadd, 1) := by decide +kernel
theorem dX12_lawIs_61 : decode cX12_lawIs 61 = .ok (.iaload, 1) := by decide +kernel
theorem dX12_lawIs_62 : decode cX12_lawIs 62 = .ok (.ifCond .le 22, 3) := by decide +kernel
theorem dX12_lawIs_65 : decode cX12_lawIs 65 = .ok (.aload_n 0, 1) := by decide +kernel
theorem dX12_lawIs_66 : decode cX12_lawIs 66 = .ok (.getfield 146, 3) := by decide +kernel
theorem dX12_lawIs_69 : decode cX12_lawIs 69 = .ok (.iload 4, 2) := by decide +kernel
theorem dX12_lawIs_71 : decode cX12_lawIs 71 = .ok (.invokestatic 149, 3) := by decide +kernel
theorem dX12_lawIs_74 : decode cX12_lawIs 74 = .ok (.ifCond .ne 10, 3) := by decide +kernel
theorem dX12_lawIs_77 : decode cX12_lawIs 77 = .ok (.iconst 1, 1) := by decide +kernel
theorem dX12_lawIs_78 : decode cX12_lawIs 78 = .ok (.iload 4, 2) := by decide +kernel
theorem dX12_lawIs_80 : decode cX12_lawIs 80 = .ok (.ishl, 1) := by decide +kernel
theorem dX12_lawIs_81 : decode cX12_lawIs 81 = .ok (.goto 4, 3) := by decide +kernel
theorem dX12_lawIs_84 : decode cX12_lawIs 84 = .ok (.iconst 0, 1) := by decide +kernel
theorem dX12_lawIs_85 : decode cX12_lawIs 85 = .ok (.ior, 1) := by decide +kernel
theorem dX12_lawIs_86 : decode cX12_lawIs 86 = .ok (.istore_n 3, 1) := by decide +kernel
theorem dX12_lawIs_87 : decode cX12_lawIs 87 = .ok (.iinc 4 1, 3) := by decide +kernel
theorem dX12_lawIs_90 : decode cX12_lawIs 90 = .ok (.goto (-50), 3) := by decide +kernel
theorem dX12_lawIs_93 : decode cX12_lawIs 93 = .ok (.aload_n 0, 1) := by decide +kernel
theorem dX12_lawIs_94 : decode cX12_lawIs 94 = .ok (.aload_n 0, 1) := by decide +kernel
theorem dX12_lawIs_95 : decode cX12_lawIs 95 = .ok (.getfield 146, 3) := by decide +kernel
theorem dX12_lawIs_98 : decode cX12_lawIs 98 = .ok (.aload_n 0, 1) := by decide +kernel
theorem dX12_lawIs_99 : decode cX12_lawIs 99 = .ok (.getfield 114, 3) := by decide +kernel
theorem dX12_lawIs_102 : decode cX12_lawIs 102 = .ok (.iload_n 1, 1) := by decide +kernel
theorem dX12_lawIs_103 : decode cX12_lawIs 103 = .ok (.iaload, 1) := by decide +kernel
theorem dX12_lawIs_104 : decode cX12_lawIs 104 = .ok (.invokevirtual 338, 3) := by decide +kernel
