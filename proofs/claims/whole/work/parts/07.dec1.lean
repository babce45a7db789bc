theorem dX0_init_0 : decode cX0_init 0 = .ok (.aload_n 0, 1) := by decide +kernel
theorem dX0_init_1 : decode cX0_init 1 = .ok (.invokespecial 3, 3) := by decide +kernel
theorem dX0_init_4 : decode cX0_init 4 = .ok (.aload_n 0, 1) := by decide +kernel
theorem dX0_init_5 : decode cX0_init 5 = .ok (.bipush 10, 2) := by decide +kernel
theorem dX0_init_7 : decode cX0_init 7 = .ok (.newarray .long, 2) := by decide +kernel
theorem dX0_init_9 : decode cX0_init 9 = .ok (.putfield 9, 3) := by decide +kernel
theorem dX0_init_12 : decode cX0_init 12 = .ok (.aload_n 0, 1) := by decide +kernel
theorem dX0_init_13 : decode cX0_init 13 = .ok (.bipush 40, 2) := by decide +kernel
theorem dX0_init_15 : decode cX0_init 15 = .ok (.newarray .int, 2) := by decide +kernel
theorem dX0_init_17 : decode cX0_init 17 = .ok (.putfield 15, 3) := by decide +kernel
theorem dX0_init_20 : decode cX0_init 20 = .ok (.aload_n 0, 1) := by decide +kernel
theorem dX0_init_21 : decode cX0_init 21 = .ok (.aload_n 1, 1) := by decide +kernel
theorem dX0_init_22 : decode cX0_init 22 = .ok (.putfield 19, 3) := by decide +kernel
theorem dX0_init_25 : decode cX0_init 25 = .ok (.aload_n 0, 1) := by decide +kernel
theorem dX0_init_26 : decode cX0_init 26 = .ok (.aload_n 2, 1) := by decide +kernel
theorem dX0_init_27 : decode cX0_init 27 = .ok (.putfield 23, 3) := by decide +kernel
theorem dX0_init_30 : decode cX0_init 30 = .ok (.aload_n 0, 1) := by decide +kernel
theorem dX0_init_31 : decode cX0_init 31 = .ok (.aload_n 3, 1) := by decide +kernel
theorem dX0_init_32 : decode cX0_init 32 = .ok (.putfield 27, 3) := by decide +kernel
theorem dX0_init_35 : decode cX0_init 35 = .ok (.return_, 1) := by decide +kernel
theorem dX0_spiteful_0 : decode cX0_spiteful 0 = .ok (.iconst (-1), 1) := by decide +kernel
theorem dX0_spiteful_1 : decode cX0_spiteful 1 = .ok (.istore_n 2, 1) := by decide +kernel
theorem dX0_spiteful_2 : decode cX0_spiteful 2 = .ok (.lconst 0, 1) := by decide +kernel
theorem dX0_spiteful_3 : decode cX0_spiteful 3 = .ok (.lstore_n 3, 1) := by decide +kernel
theorem dX0_spiteful_4 : decode cX0_spiteful 4 = .ok (.aload_n 0, 1) := by decide +kernel
theorem dX0_spiteful_5 : decode cX0_spiteful 5 = .ok (.getfield 27, 3) := by decide +kernel
theorem dX0_spiteful_8 : decode cX0_spiteful 8 = .ok (.aload_n 0, 1) := by decide +kernel
theorem dX0_spiteful_9 : decode cX0_spiteful 9 = .ok (.getfield 19, 3) := by decide +kernel
theorem dX0_spiteful_12 : decode cX0_spiteful 12 = .ok (.getfield 31, 3) := by decide +kernel
theorem dX0_spiteful_15 : decode cX0_spiteful 15 = .ok (.invokevirtual 37, 3) := by decide +kernel
theorem dX0_spiteful_18 : decode cX0_spiteful 18 = .ok (.astore 5, 2) := by decide +kernel
theorem dX0_spiteful_20 : decode cX0_spiteful 20 = .ok (.aload_n 0, 1) := by decide +kernel
theorem dX0_spiteful_21 : decode cX0_spiteful 21 = .ok (.getfield 27, 3) := by decide +kernel
theorem dX0_spiteful_24 : decode cX0_spiteful 24 = .ok (.aload 5, 2) := by decide +kernel
theorem dX0_spiteful_26 : decode cX0_spiteful 26 = .ok (.iload_n 1, 1) := by decide +kernel
theorem dX0_spiteful_27 : decode cX0_spiteful 27 = .ok (.invokevirtual 43, 3) := by decide +kernel
theorem dX0_spiteful_30 : decode cX0_spiteful 30 = .ok (.lstore 6, 2) := by decide +kernel
theorem dX0_spiteful_32 : decode cX0_spiteful 32 = .ok (.aload_n 0, 1) := by decide +kernel
theorem dX0_spiteful_33 : decode cX0_spiteful 33 = .ok (.getfield 27, 3) := by decide +kernel
theorem dX0_spiteful_36 : decode cX0_spiteful 36 = .ok (.aload 5, 2) := by decide +kernel
theorem dX0_spiteful_38 : decode cX0_spiteful 38 = .ok (.iconst (-1), 1) := by decide +kernel
theorem dX0_spiteful_39 : decode cX0_spiteful 39 = .ok (.invokevirtual 43, 3) := by decide +kernel
theorem dX0_spiteful_42 : decode cX0_spiteful 42 = .ok (.lstore 8, 2) := by decide +kernel
theorem dX0_spiteful_44 : decode cX0_spiteful 44 = .ok (.iconst 0, 1) := by decide +kernel
theorem dX0_spiteful_45 : decode cX0_spiteful 45 = .ok (.istore 10, 2) := by decide +kernel
theorem dX0_spiteful_47 : decode cX0_spiteful 47 = .ok (.iload 10, 2) := by decide +kernel
theorem dX0_spiteful_49 : decode cX0_spiteful 49 = .ok (.bipush 10, 2) := by decide +kernel
theorem dX0_spiteful_51 : decode cX0_spiteful 51 = .ok (.if_icmp .ge 107, 3) := by decide +kernel
theorem dX0_spiteful_54 : decode cX0_spiteful 54 = .ok (.aload_n 0, 1) := by decide +kernel
theorem dX0_spiteful_55 : decode cX0_spiteful 55 = .ok (.getfield 19, 3) := by decide +kernel
theorem dX0_spiteful_58 : decode cX0_spiteful 58 = .ok (.getfield 31, 3) := by decide +kernel
theorem dX0_spiteful_61 : decode cX0_spiteful 61 = .ok (.iload 10, 2) := by decide +kernel
theorem dX0_spiteful_63 : decode cX0_spiteful 63 = .ok (.invokestatic 47, 3) := by decide +kernel
theorem dX0_spiteful_66 : decode cX0_spiteful 66 = .ok (.ifCond .eq 86, 3) := by decide +kernel
theorem dX0_spiteful_69 : decode cX0_spiteful 69 = .ok (.aload_n 0, 1) := by decide +kernel
theorem dX0_spiteful_70 : decode cX0_spiteful 70 = .ok (.getfield 27, 3) := by decide +kernel
theorem dX0_spiteful_73 : decode cX0_spiteful 73 = .ok (.aload_n 0, 1) := by decide +kernel
theorem dX0_spiteful_74 : decode cX0_spiteful 74 = .ok (.getfield 19, 3) := by decide +kernel
theorem dX0_spiteful_77 : decode cX0_spiteful 77 = .ok (.getfield 31, 3) := by decide +kernel
theorem dX0_spiteful_80 : decode cX0_spiteful 80 = .ok (.iload 10, 2) := by decide +kernel
theorem dX0_spiteful_82 : decode cX0_spiteful 82 = .ok (.invokestatic 51, 3) := by decide +kernel
theorem dX0_spiteful_85 : decode cX0_spiteful 85 = .ok (.invokevirtual 37, 3) := by decide +kernel
theorem dX0_spiteful_88 : decode cX0_spiteful 88 = .ok (.astore 11, 2) := by decide +kernel
theorem dX0_spiteful_90 : decode cX0_spiteful 90 = .ok (.aload_n 0, 1) := by decide +kernel
theorem dX0_spiteful_91 : decode cX0_spiteful 91 = .ok (.getfield 27, 3) := by decide +kernel
theorem dX0_spiteful_94 : decode cX0_spiteful 94 = .ok (.aload 11, 2) := by decide +kernel
theorem dX0_spiteful_96 : decode cX0_spiteful 96 = .ok (.iload_n 1, 1) := by decide +kernel
theorem dX0_spiteful_97 : decode cX0_spiteful 97 = .ok (.invokevirtual 43, 3) := by decide +kernel
theorem dX0_spiteful_100 : decode cX0_spiteful 100 = .ok (.lload 6, 2) := by decide +kernel
theorem dX0_spiteful_102 : decode cX0_spiteful 102 = .ok (.lsub, 1) := by decide +kernel
theorem dX0_spiteful_103 : decode cX0_spiteful 103 = .ok (.lstore 12, 2) := by decide +kernel
theorem dX0_spiteful_105 : decode cX0_spiteful 105 = .ok (.aload_n 0, 1) := by decide +kernel
theorem dX0_spiteful_106 : decode cX0_spiteful 106 = .ok (.getfield 27, 3) := by decide +kernel
theorem dX0_spiteful_109 : decode cX0_spiteful 109 = .ok (.aload 11, 2) := by decide +kernel
theorem dX0_spiteful_111 : decode cX0_spiteful 111 = .ok (.iconst (-1), 1) := by decide +kernel
theorem dX0_spiteful_112 : decode cX0_spiteful 112 = .ok (.invokevirtual 43, 3) := by decide +kernel
theorem dX0_spiteful_115 : decode cX0_spiteful 115 = .ok (.lload 8, 2) := by decide +kernel
theorem dX0_spiteful_117 : decode cX0_spiteful 117 = .ok (.lsub, 1) := by decide +kernel
theorem dX0_spiteful_118 : decode cX0_spiteful 118 = .ok (.lload 12, 2) := by decide +kernel
theorem dX0_spiteful_120 : decode cX0_spiteful 120 = .ok (.lsub, 1) := by decide +kernel
theorem dX0_spiteful_121 : decode cX0_spiteful 121 = .ok (.lstore 14, 2) := by decide +kernel
theorem dX0_spiteful_123 : decode cX0_spiteful 123 = .ok (.lload 14, 2) := by decide +kernel
theorem dX0_spiteful_125 : decode cX0_spiteful 125 = .ok (.ldc2_w 55, 3) := by decide +kernel
theorem dX0_spiteful_128 : decode cX0_spiteful 128 = .ok (.lload 12, 2) := by decide +kernel
theorem dX0_spiteful_130 : decode cX0_spiteful 130 = .ok (.lmul, 1) := by decide +kernel
theorem dX0_spiteful_131 : decode cX0_spiteful 131 = .ok (.lsub, 1) := by decide +kernel
theorem dX0_spiteful_132 : decode cX0_spiteful 132 = .ok (.lstore 16, 2) := by decide +kernel
theorem dX0_spiteful_134 : decode cX0_spiteful 134 = .ok (.iload_n 2, 1) := by decide +kernel
theorem dX0_spiteful_135 : decode cX0_spiteful 135 = .ok (.iconst (-1), 1) := by decide +kernel
theorem dX0_spiteful_136 : decode cX0_spiteful 136 = .ok (.if_icmp .eq 10, 3) := by decide +kernel
theorem dX0_spiteful_139 : decode cX0_spiteful 139 = .ok (.lload 16, 2) := by decide +kernel
theorem dX0_spiteful_141 : decode cX0_spiteful 141 = .ok (.lload_n 3, 1) := by decide +kernel
theorem dX0_spiteful_142 : decode cX0_spiteful 142 = .ok (.lcmp, 1) := by decide +kernel
theorem dX0_spiteful_143 : decode cX0_spiteful 143 = .ok (.ifCond .le 9, 3) := by decide +kernel
theorem dX0_spiteful_146 : decode cX0_spiteful 146 = .ok (.iload 10, 2) := by decide +kernel
theorem dX0_spiteful_148 : decode cX0_spiteful 148 = .ok (.istore_n 2, 1) := by decide +kernel
theorem dX0_spiteful_149 : decode cX0_spiteful 149 = .ok (.lload 16, 2) := by decide +kernel
theorem dX0_spiteful_151 : decode cX0_spiteful 151 = .ok (.lstore_n 3, 1) := by decide +kernel
theorem dX0_spiteful_152 : decode cX0_spiteful 152 = .ok (.iinc 10 1, 3) := by decide +kernel
theorem dX0_spiteful_155 : decode cX0_spiteful 155 = .ok (.goto (-108), 3) := by decide +kernel
theorem dX0_spiteful_158 : decode cX0_spiteful 158 = .ok (.iload_n 2, 1) := by decide +kernel
theorem dX0_spiteful_159 : decode cX0_spiteful 159 = .ok (.ireturn, 1) := by decide +kernel
theorem dX0_elect_0 : decode cX0_elect 0 = .ok (.iconst 0, 1) := by decide +kernel
theorem dX0_elect_1 : decode cX0_elect 1 = .ok (.istore_n 2, 1) := by decide +kernel
theorem dX0_elect_2 : decode cX0_elect 2 = .ok (.iload_n 2, 1) := by decide +kernel
theorem dX0_elect_3 : decode cX0_elect 3 = .ok (.iconst 4, 1) := by decide +kernel
theorem dX0_elect_4 : decode cX0_elect 4 = .ok (.if_icmp .ge 14, 3) := by decide +kernel
theorem dX0_elect_7 : decode cX0_elect 7 = .ok (.aload_n 0, 1) := by decide +kernel
theorem dX0_elect_8 : decode cX0_elect 8 = .ok (.iload_n 2, 1) := by decide +kernel
theorem dX0_elect_9 : decode cX0_elect 9 = .ok (.invokevirtual 57, 3) := by decide +kernel
theorem dX0_elect_12 : decode cX0_elect 12 = .ok (.iinc 2 1, 3) := by decide +kernel
theorem dX0_elect_15 : decode cX0_elect 15 = .ok (.goto (-13), 3) := by decide +kernel
theorem dX0_elect_18 : decode cX0_elect 18 = .ok (.iload_n 1, 1) := by decide +kernel
theorem dX0_elect_19 : decode cX0_elect 19 = .ok (.tableswitch 41 0 2 #[25, 31, 36], 25) := by decide +kernel
theorem dX0_elect_44 : decode cX0_elect 44 = .ok (.aload_n 0, 1) := by decide +kernel
theorem dX0_elect_45 : decode cX0_elect 45 = .ok (.iconst (-1), 1) := by decide +kernel
theorem dX0_elect_46 : decode cX0_elect 46 = .ok (.invokevirtual 61, 3) := by decide +kernel
theorem dX0_elect_49 : decode cX0_elect 49 = .ok (.ireturn, 1) := by decide +kernel
theorem dX0_elect_50 : decode cX0_elect 50 = .ok (.aload_n 0, 1) := by decide +kernel
theorem dX0_elect_51 : decode cX0_elect 51 = .ok (.invokevirtual 65, 3) := by decide +kernel
theorem dX0_elect_54 : decode cX0_elect 54 = .ok (.ireturn, 1) := by decide +kernel
theorem dX0_elect_55 : decode cX0_elect 55 = .ok (.aload_n 0, 1) := by decide +kernel
theorem dX0_elect_56 : decode cX0_elect 56 = .ok (.invokevirtual 69, 3) := by decide +kernel
theorem dX0_elect_59 : decode cX0_elect 59 = .ok (.ireturn, 1) := by decide +kernel
theorem dX0_elect_60 : decode cX0_elect 60 = .ok (.aload_n 0, 1) := by decide +kernel
theorem dX0_elect_61 : decode cX0_elect 61 = .ok (.invokevirtual 72, 3) := by decide +kernel
theorem dX0_elect_64 : decode cX0_elect 64 = .ok (.ireturn, 1) := by decide +kernel
theorem dX0_rank_0 : decode cX0_rank 0 = .ok (.aload_n 0, 1) := by decide +kernel
theorem dX0_rank_1 : decode cX0_rank 1 = .ok (.getfield 27, 3) := by decide +kernel
theorem dX0_rank_4 : decode cX0_rank 4 = .ok (.aload_n 0, 1) := by decide +kernel
theorem dX0_rank_5 : decode cX0_rank 5 = .ok (.getfield 27, 3) := by decide +kernel
theorem dX0_rank_8 : decode cX0_rank 8 = .ok (.aload_n 0, 1) := by decide +kernel
theorem dX0_rank_9 : decode cX0_rank 9 = .ok (.getfield 19, 3) := by decide +kernel
theorem dX0_rank_12 : decode cX0_rank 12 = .ok (.getfield 31, 3) := by decide +kernel
theorem dX0_rank_15 : decode cX0_rank 15 = .ok (.invokevirtual 37, 3) := by decide +kernel
theorem dX0_rank_18 : decode cX0_rank 18 = .ok (.iload_n 1, 1) := by decide +kernel
theorem dX0_rank_19 : decode cX0_rank 19 = .ok (.invokevirtual 43, 3) := by decide +kernel
theorem dX0_rank_22 : decode cX0_rank 22 = .ok (.lstore_n 2, 1) := by decide +kernel
theorem dX0_rank_23 : decode cX0_rank 23 = .ok (.iconst 0, 1) := by decide +kernel
theorem dX0_rank_24 : decode cX0_rank 24 = .ok (.istore 4, 2) := by decide +kernel
theorem dX0_rank_26 : decode cX0_rank 26 = .ok (.iload 4, 2) := by decide +kernel
theorem dX0_rank_28 : decode cX0_rank 28 = .ok (.bipush 10, 2) := by decide +kernel
theorem dX0_rank_30 : decode cX0_rank 30 = .ok (.if_icmp .ge 64, 3) := by decide +kernel
theorem dX0_rank_33 : decode cX0_rank 33 = .ok (.aload_n 0, 1) := by decide +kernel
theorem dX0_rank_34 : decode cX0_rank 34 = .ok (.getfield 9, 3) := by decide +kernel
theorem dX0_rank_37 : decode cX0_rank 37 = .ok (.iload 4, 2) := by decide +kernel
theorem dX0_rank_39 : decode cX0_rank 39 = .ok (.aload_n 0, 1) := by decide +kernel
theorem dX0_rank_40 : decode cX0_rank 40 = .ok (.getfield 19, 3) := by decide +kernel
theorem dX0_rank_43 : decode cX0_rank 43 = .ok (.getfield 31, 3) := by decide +kernel
theorem dX0_rank_46 : decode cX0_rank 46 = .ok (.iload 4, 2) := by decide +kernel
theorem dX0_rank_48 : decode cX0_rank 48 = .ok (.invokestatic 47, 3) := by decide +kernel
theorem dX0_rank_51 : decode cX0_rank 51 = .ok (.ifCond .eq 35, 3) := by decide +kernel
theorem dX0_rank_54 : decode cX0_rank 54 = .ok (.aload_n 0, 1) := by decide +kernel
theorem dX0_rank_55 : decode cX0_rank 55 = .ok (.getfield 27, 3) := by decide +kernel
theorem dX0_rank_58 : decode cX0_rank 58 = .ok (.aload_n 0, 1) := by decide +kernel
theorem dX0_rank_59 : decode cX0_rank 59 = .ok (.getfield 27, 3) := by decide +kernel
theorem dX0_rank_62 : decode cX0_rank 62 = .ok (.aload_n 0, 1) := by decide +kernel
theorem dX0_rank_63 : decode cX0_rank 63 = .ok (.getfield 19, 3) := by decide +kernel
theorem dX0_rank_66 : decode cX0_rank 66 = .ok (.getfield 31, 3) := by decide +kernel
theorem dX0_rank_69 : decode cX0_rank 69 = .ok (.iload 4, 2) := by decide +kernel
theorem dX0_rank_71 : decode cX0_rank 71 = .ok (.invokestatic 51, 3) := by decide +kernel
theorem dX0_rank_74 : decode cX0_rank 74 = .ok (.invokevirtual 37, 3) := by decide +kernel
theorem dX0_rank_77 : decode cX0_rank 77 = .ok (.iload_n 1, 1) := by decide +kernel
theorem dX0_rank_78 : decode cX0_rank 78 = .ok (.invokevirtual 43, 3) := by decide +kernel
theorem dX0_rank_81 : decode cX0_rank 81 = .ok (.lload_n 2, 1) := by decide +kernel
theorem dX0_rank_82 : decode cX0_rank 82 = .ok (.lsub, 1) := by decide +kernel
theorem dX0_rank_83 : decode cX0_rank 83 = .ok (.goto 4, 3) := by decide +kernel
theorem dX0_rank_86 : decode cX0_rank 86 = .ok (.lconst 0, 1) := by decide +kernel
theorem dX0_rank_87 : decode cX0_rank 87 = .ok (.lastore, 1) := by decide +kernel
theorem dX0_rank_88 : decode cX0_rank 88 = .ok (.iinc 4 1, 3) := by decide +kernel
theorem dX0_rank_91 : decode cX0_rank 91 = .ok (.goto (-65), 3) := by decide +kernel
theorem dX0_rank_94 : decode cX0_rank 94 = .ok (.iconst 0, 1) := by decide +kernel
theorem dX0_rank_95 : decode cX0_rank 95 = .ok (.istore 4, 2) := by decide +kernel
theorem dX0_rank_97 : decode cX0_rank 97 = .ok (.iload 4, 2) := by decide +kernel
theorem dX0_rank_99 : decode cX0_rank 99 = .ok (.bipush 10, 2) := by decide +kernel
theorem dX0_rank_101 : decode cX0_rank 101 = .ok (.if_icmp .ge 119, 3) := by decide +kernel
theorem dX0_rank_104 : decode cX0_rank 104 = .ok (.iconst 0, 1) := by decide +kernel
theorem dX0_rank_105 : decode cX0_rank 105 = .ok (.istore 5, 2) := by decide +kernel
theorem dX0_rank_107 : decode cX0_rank 107 = .ok (.iconst 0, 1) := by decide +kernel
theorem dX0_rank_108 : decode cX0_rank 108 = .ok (.istore 6, 2) := by decide +kernel
theorem dX0_rank_110 : decode cX0_rank 110 = .ok (.iload 6, 2) := by decide +kernel
theorem dX0_rank_112 : decode cX0_rank 112 = .ok (.bipush 10, 2) := by decide +kernel
theorem dX0_rank_114 : decode cX0_rank 114 = .ok (.if_icmp .ge 70, 3) := by decide +kernel
theorem dX0_rank_117 : decode cX0_rank 117 = .ok (.aload_n 0, 1) := by decide +kernel
theorem dX0_rank_118 : decode cX0_rank 118 = .ok (.getfield 19, 3) := by decide +kernel
theorem dX0_rank_121 : decode cX0_rank 121 = .ok (.getfield 31, 3) := by decide +kernel
theorem dX0_rank_124 : decode cX0_rank 124 = .ok (.iload 6, 2) := by decide +kernel
theorem dX0_rank_126 : decode cX0_rank 126 = .ok (.invokestatic 47, 3) := by decide +kernel
theorem dX0_rank_129 : decode cX0_rank 129 = .ok (.ifCond .eq 49, 3) := by decide +kernel
theorem dX0_rank_132 : decode cX0_rank 132 = .ok (.aload_n 0, 1) := by decide +kernel
theorem dX0_rank_133 : decode cX0_rank 133 = .ok (.getfield 9, 3) := by decide +kernel
theorem dX0_rank_136 : decode cX0_rank 136 = .ok (.iload 6, 2) := by decide +kernel
theorem dX0_rank_138 : decode cX0_rank 138 = .ok (.laload, 1) := by decide +kernel
theorem dX0_rank_139 : decode cX0_rank 139 = .ok (.aload_n 0, 1) := by decide +kernel
theorem dX0_rank_140 : decode cX0_rank 140 = .ok (.getfield 9, 3) := by decide +kernel
theorem dX0_rank_143 : decode cX0_rank 143 = .ok (.iload 4, 2) := by decide +kernel
theorem dX0_rank_145 : decode cX0_rank 145 = .ok (.laload, 1) := by decide +kernel
theorem dX0_rank_146 : decode cX0_rank 146 = .ok (.lcmp, 1) := by decide +kernel
theorem dX0_rank_147 : decode cX0_rank 147 = .ok (.ifCond .lt 28, 3) := by decide +kernel
theorem dX0_rank_150 : decode cX0_rank 150 = .ok (.aload_n 0, 1) := by decide +kernel
theorem dX0_rank_151 : decode cX0_rank 151 = .ok (.getfield 9, 3) := by decide +kernel
theorem dX0_rank_154 : decode cX0_rank 154 = .ok (.iload 6, 2) := by decide +kernel
theorem dX0_rank_156 : decode cX0_rank 156 = .ok (.laload, 1) := by decide +kernel
theorem dX0_rank_157 : decode cX0_rank 157 = .ok (.aload_n 0, 1) := by decide +kernel
theorem dX0_rank_158 : decode cX0_rank 158 = .ok (.getfield 9, 3) := by decide +kernel
theorem dX0_rank_161 : decode cX0_rank 161 = .ok (.iload 4, 2) := by decide +kernel
theorem dX0_rank_163 : decode cX0_rank 163 = .ok (.laload, 1) := by decide +kernel
theorem dX0_rank_164 : decode cX0_rank 164 = .ok (.lcmp, 1) := by decide +kernel
theorem dX0_rank_165 : decode cX0_rank 165 = .ok (.ifCond .ne 13, 3) := by decide +kernel
theorem dX0_rank_168 : decode cX0_rank 168 = .ok (.iload 6, 2) := by decide +kernel
theorem dX0_rank_170 : decode cX0_rank 170 = .ok (.iload 4, 2) := by decide +kernel
theorem dX0_rank_172 : decode cX0_rank 172 = .ok (.if_icmp .ge 6, 3) := by decide +kernel
theorem dX0_rank_175 : decode cX0_rank 175 = .ok (.iinc 5 1, 3) := by decide +kernel
theorem dX0_rank_178 : decode cX0_rank 178 = .ok (.iinc 6 1, 3) := by decide +kernel
theorem dX0_rank_181 : decode cX0_rank 181 = .ok (.goto (-71), 3) := by decide +kernel
theorem dX0_rank_184 : decode cX0_rank 184 = .ok (.bipush 10, 2) := by decide +kernel
theorem dX0_rank_186 : decode cX0_rank 186 = .ok (.iload_n 1, 1) := by decide +kernel
theorem dX0_rank_187 : decode cX0_rank 187 = .ok (.imul, 1) := by decide +kernel
theorem dX0_rank_188 : decode cX0_rank 188 = .ok (.iload 4, 2) := by decide +kernel
theorem dX0_rank_190 : decode cX0_rank 190 = .ok (.iadd, 1) := by decide +kernel
theorem dX0_rank_191 : decode cX0_rank 191 = .ok (.istore 6, 2) := by decide +kernel
theorem dX0_rank_193 : decode cX0_rank 193 = .ok (.iload 6, 2) := by decide +kernel
theorem dX0_rank_195 : decode cX0_rank 195 = .ok (.ifCond .lt 19, 3) := by decide +kernel
theorem dX0_rank_198 : decode cX0_rank 198 = .ok (.iload 6, 2) := by decide +kernel
theorem dX0_rank_200 : decode cX0_rank 200 = .ok (.bipush 40, 2) := by decide +kernel
theorem dX0_rank_202 : decode cX0_rank 202 = .ok (.if_icmp .ge 12, 3) := by decide +kernel
theorem dX0_rank_205 : decode cX0_rank 205 = .ok (.aload_n 0, 1) := by decide +kernel
theorem dX0_rank_206 : decode cX0_rank 206 = .ok (.getfield 15, 3) := by decide +kernel
theorem dX0_rank_209 : decode cX0_rank 209 = .ok (.iload 6, 2) := by decide +kernel
theorem dX0_rank_211 : decode cX0_rank 211 = .ok (.iload 5, 2) := by decide +kernel
theorem dX0_rank_213 : decode cX0_rank 213 = .ok (.iastore, 1) := by decide +kernel
theorem dX0_rank_214 : decode cX0_rank 214 = .ok (.iinc 4 1, 3) := by decide +kernel
theorem dX0_rank_217 : decode cX0_rank 217 = .ok (.goto (-120), 3) := by decide +kernel
theorem dX0_rank_220 : decode cX0_rank 220 = .ok (.return_, 1) := by decide +kernel
theorem dX0_placeOf_0 : decode cX0_placeOf 0 = .ok (.bipush 10, 2) := by decide +kernel
theorem dX0_placeOf_2 : decode cX0_placeOf 2 = .ok (.iload_n 1, 1) := by decide +kernel
theorem dX0_placeOf_3 : decode cX0_placeOf 3 = .ok (.imul, 1) := by decide +kernel
theorem dX0_placeOf_4 : decode cX0_placeOf 4 = .ok (.iload_n 2, 1) := by decide +kernel
theorem dX0_placeOf_5 : decode cX0_placeOf 5 = .ok (.iadd, 1) := by decide +kernel
theorem dX0_placeOf_6 : decode cX0_placeOf 6 = .ok (.istore_n 3, 1) := by decide +kernel
theorem dX0_placeOf_7 : decode cX0_placeOf 7 = .ok (.iload_n 3, 1) := by decide +kernel
theorem dX0_placeOf_8 : decode cX0_placeOf 8 = .ok (.ifCond .lt 18, 3) := by decide +kernel
theorem dX0_placeOf_11 : decode cX0_placeOf 11 = .ok (.iload_n 3, 1) := by decide +kernel
theorem dX0_placeOf_12 : decode cX0_placeOf 12 = .ok (.bipush 40, 2) := by decide +kernel
theorem dX0_placeOf_14 : decode cX0_placeOf 14 = .ok (.if_icmp .ge 12, 3) := by decide +kernel
theorem dX0_placeOf_17 : decode cX0_placeOf 17 = .ok (.aload_n 0, 1) := by decide +kernel
theorem dX0_placeOf_18 : decode cX0_placeOf 18 = .ok (.getfield 15, 3) := by decide +kernel
theorem dX0_placeOf_21 : decode cX0_placeOf 21 = .ok (.iload_n 3, 1) := by decide +kernel
theorem dX0_placeOf_22 : decode cX0_placeOf 22 = .ok (.iaload, 1) := by decide +kernel
theorem dX0_placeOf_23 : decode cX0_placeOf 23 = .ok (.goto 4, 3) := by decide +kernel
theorem dX0_placeOf_26 : decode cX0_placeOf 26 = .ok (.iconst 0, 1) := by decide +kernel
theorem dX0_placeOf_27 : decode cX0_placeOf 27 = .ok (.ireturn, 1) := by decide +kernel
theorem dX0_firstWithMost_0 : decode cX0_firstWithMost 0 = .ok (.iconst (-1), 1) := by decide +kernel
theorem dX0_firstWithMost_1 : decode cX0_firstWithMost 1 = .ok (.istore_n 2, 1) := by decide +kernel
theorem dX0_firstWithMost_2 : decode cX0_firstWithMost 2 = .ok (.iconst (-1), 1) := by decide +kernel
theorem dX0_firstWithMost_3 : decode cX0_firstWithMost 3 = .ok (.istore_n 3, 1) := by decide +kernel
theorem dX0_firstWithMost_4 : decode cX0_firstWithMost 4 = .ok (.iconst 0, 1) := by decide +kernel
theorem dX0_firstWithMost_5 : decode cX0_firstWithMost 5 = .ok (.istore 4, 2) := by decide +kernel
theorem dX0_firstWithMost_7 : decode cX0_firstWithMost 7 = .ok (.iload 4, 2) := by decide +kernel
theorem dX0_firstWithMost_9 : decode cX0_firstWithMost 9 = .ok (.bipush 10, 2) := by decide +kernel
theorem dX0_firstWithMost_11 : decode cX0_firstWithMost 11 = .ok (.if_icmp .ge 90, 3) := by decide +kernel
theorem dX0_firstWithMost_14 : decode cX0_firstWithMost 14 = .ok (.aload_n 0, 1) := by decide +kernel
theorem dX0_firstWithMost_15 : decode cX0_firstWithMost 15 = .ok (.getfield 19, 3) := by decide +kernel
theorem dX0_firstWithMost_18 : decode cX0_firstWithMost 18 = .ok (.getfield 31, 3) := by decide +kernel
theorem dX0_firstWithMost_21 : decode cX0_firstWithMost 21 = .ok (.iload 4, 2) := by decide +kernel
theorem dX0_firstWithMost_23 : decode cX0_firstWithMost 23 = .ok (.invokestatic 47, 3) := by decide +kernel
theorem dX0_firstWithMost_26 : decode cX0_firstWithMost 26 = .ok (.ifCond .eq 69, 3) := by decide +kernel
theorem dX0_firstWithMost_29 : decode cX0_firstWithMost 29 = .ok (.iload 4, 2) := by decide +kernel
theorem dX0_firstWithMost_31 : decode cX0_firstWithMost 31 = .ok (.iload_n 1, 1) := by decide +kernel
theorem dX0_firstWithMost_32 : decode cX0_firstWithMost 32 = .ok (.if_icmp .eq 63, 3) := by decide +kernel
theorem dX0_firstWithMost_35 : decode cX0_firstWithMost 35 = .ok (.iconst 0, 1) := by decide +kernel
theorem dX0_firstWithMost_36 : decode cX0_firstWithMost 36 = .ok (.istore 5, 2) := by decide +kernel
theorem dX0_firstWithMost_38 : decode cX0_firstWithMost 38 = .ok (.iconst 0, 1) := by decide +kernel
theorem dX0_firstWithMost_39 : decode cX0_firstWithMost 39 = .ok (.istore 6, 2) := by decide +kernel
theorem dX0_firstWithMost_41 : decode cX0_firstWithMost 41 = .ok (.iload 6, 2) := by decide +kernel
theorem dX0_firstWithMost_43 : decode cX0_firstWithMost 43 = .ok (.iconst 4, 1) := by decide +kernel
theorem dX0_firstWithMost_44 : decode cX0_firstWithMost 44 = .ok (.if_icmp .ge 39, 3) := by decide +kernel
theorem dX0_firstWithMost_47 : decode cX0_firstWithMost 47 = .ok (.iload 5, 2) := by decide +kernel
theorem dX0_firstWithMost_49 : decode cX0_firstWithMost 49 = .ok (.aload_n 0, 1) := by decide +kernel
theorem dX0_firstWithMost_50 : decode cX0_firstWithMost 50 = .ok (.iload 6, 2) := by decide +kernel
theorem dX0_firstWithMost_52 : decode cX0_firstWithMost 52 = .ok (.iload 4, 2) := by decide +kernel
theorem dX0_firstWithMost_54 : decode cX0_firstWithMost 54 = .ok (.invokevirtual 75, 3) := by decide +kernel
theorem dX0_firstWithMost_57 : decode cX0_firstWithMost 57 = .ok (.ifCond .ne 16, 3) := by decide +kernel
theorem dX0_firstWithMost_60 : decode cX0_firstWithMost 60 = .ok (.aload_n 0, 1) := by decide +kernel
theorem dX0_firstWithMost_61 : decode cX0_firstWithMost 61 = .ok (.getfield 23, 3) := by decide +kernel
theorem dX0_firstWithMost_64 : decode cX0_firstWithMost 64 = .ok (.getfield 78, 3) := by decide +kernel
theorem dX0_firstWithMost_67 : decode cX0_firstWithMost 67 = .ok (.iload 6, 2) := by decide +kernel
theorem dX0_firstWithMost_69 : decode cX0_firstWithMost 69 = .ok (.iaload, 1) := by decide +kernel
theorem dX0_firstWithMost_70 : decode cX0_firstWithMost 70 = .ok (.goto 4, 3) := by decide +kernel
theorem dX0_firstWithMost_73 : decode cX0_firstWithMost 73 = .ok (.iconst 0, 1) := by decide +kernel
theorem dX0_firstWithMost_74 : decode cX0_firstWithMost 74 = .ok (.iadd, 1) := by decide +kernel
theorem dX0_firstWithMost_75 : decode cX0_firstWithMost 75 = .ok (.istore 5, 2) := by decide +kernel
theorem dX0_firstWithMost_77 : decode cX0_firstWithMost 77 = .ok (.iinc 6 1, 3) := by decide +kernel
theorem dX0_firstWithMost_80 : decode cX0_firstWithMost 80 = .ok (.goto (-39), 3) := by decide +kernel
theorem dX0_firstWithMost_83 : decode cX0_firstWithMost 83 = .ok (.iload 5, 2) := by decide +kernel
theorem dX0_firstWithMost_85 : decode cX0_firstWithMost 85 = .ok (.iload_n 3, 1) := by decide +kernel
theorem dX0_firstWithMost_86 : decode cX0_firstWithMost 86 = .ok (.if_icmp .le 9, 3) := by decide +kernel
theorem dX0_firstWithMost_89 : decode cX0_firstWithMost 89 = .ok (.iload 4, 2) := by decide +kernel
theorem dX0_firstWithMost_91 : decode cX0_firstWithMost 91 = .ok (.istore_n 2, 1) := by decide +kernel
theorem dX0_firstWithMost_92 : decode cX0_firstWithMost 92 = .ok (.iload 5, 2) := by decide +kernel
theorem dX0_firstWithMost_94 : decode cX0_firstWithMost 94 = .ok (.istore_n 3, 1) := by decide +kernel
theorem dX0_firstWithMost_95 : decode cX0_firstWithMost 95 = .ok (.iinc 4 1, 3) := by decide +kernel
theorem dX0_firstWithMost_98 : decode cX0_firstWithMost 98 = .ok (.goto (-91), 3) := by decide +kernel
theorem dX0_firstWithMost_101 : decode cX0_firstWithMost 101 = .ok (.iload_n 2, 1) := by decide +kernel
theorem dX0_firstWithMost_102 : decode cX0_firstWithMost 102 = .ok (.ireturn, 1) := by decide +kernel
theorem dX0_runoff_0 : decode cX0_runoff 0 = .ok (.aload_n 0, 1) := by decide +kernel
theorem dX0_runoff_1 : decode cX0_runoff 1 = .ok (.iconst (-1), 1) := by decide +kernel
theorem dX0_runoff_2 : decode cX0_runoff 2 = .ok (.invokevirtual 61, 3) := by decide +kernel
theorem dX0_runoff_5 : decode cX0_runoff 5 = .ok (.istore_n 1, 1) := by decide +kernel
theorem dX0_runoff_6 : decode cX0_runoff 6 = .ok (.aload_n 0, 1) := by decide +kernel
theorem dX0_runoff_7 : decode cX0_runoff 7 = .ok (.iload_n 1, 1) := by decide +kernel
theorem dX0_runoff_8 : decode cX0_runoff 8 = .ok (.invokevirtual 61, 3) := by decide +kernel
theorem dX0_runoff_11 : decode cX0_runoff 11 = .ok (.istore_n 2, 1) := by decide +kernel
theorem dX0_runoff_12 : decode cX0_runoff 12 = .ok (.iload_n 2, 1) := by decide +kernel
theorem dX0_runoff_13 : decode cX0_runoff 13 = .ok (.iconst (-1), 1) := by decide +kernel
theorem dX0_runoff_14 : decode cX0_runoff 14 = .ok (.if_icmp .ne 5, 3) := by decide +kernel
theorem dX0_runoff_17 : decode cX0_runoff 17 = .ok (.iload_n 1, 1) := by decide +kernel
theorem dX0_runoff_18 : decode cX0_runoff 18 = .ok (.ireturn, 1) := by decide +kernel
theorem dX0_runoff_19 : decode cX0_runoff 19 = .ok (.aload_n 0, 1) := by decide +kernel
theorem dX0_runoff_20 : decode cX0_runoff 20 = .ok (.iload_n 2, 1) := by decide +kernel
theorem dX0_runoff_21 : decode cX0_runoff 21 = .ok (.iload_n 1, 1) := by decide +kernel
theorem dX0_runoff_22 : decode cX0_runoff 22 = .ok (.invokevirtual 83, 3) := by decide +kernel
theorem dX0_runoff_25 : decode cX0_runoff 25 = .ok (.aload_n 0, 1) := by decide +kernel
theorem dX0_runoff_26 : decode cX0_runoff 26 = .ok (.iload_n 1, 1) := by decide +kernel
theorem dX0_runoff_27 : decode cX0_runoff 27 = .ok (.iload_n 2, 1) := by decide +kernel
theorem dX0_runoff_28 : decode cX0_runoff 28 = .ok (.invokevirtual 83, 3) := by decide +kernel
theorem dX0_runoff_31 : decode cX0_runoff 31 = .ok (.if_icmp .le 7, 3) := by decide +kernel
theorem dX0_runoff_34 : decode cX0_runoff 34 = .ok (.iload_n 2, 1) := by decide +kernel
theorem dX0_runoff_35 : decode cX0_runoff 35 = .ok (.goto 4, 3) := by decide +kernel
theorem dX0_runoff_38 : decode cX0_runoff 38 = .ok (.iload_n 1, 1) := by decide +kernel
theorem dX0_runoff_39 : decode cX0_runoff 39 = .ok (.ireturn, 1) := by decide +kernel
theorem dX0_votersFor_0 : decode cX0_votersFor 0 = .ok (.iconst 0, 1) := by decide +kernel
theorem dX0_votersFor_1 : decode cX0_votersFor 1 = .ok (.istore_n 3, 1) := by decide +kernel
theorem dX0_votersFor_2 : decode cX0_votersFor 2 = .ok (.iconst 0, 1) := by decide +kernel
theorem dX0_votersFor_3 : decode cX0_votersFor 3 = .ok (.istore 4, 2) := by decide +kernel
theorem dX0_votersFor_5 : decode cX0_votersFor 5 = .ok (.iload 4, 2) := by decide +kernel
theorem dX0_votersFor_7 : decode cX0_votersFor 7 = .ok (.iconst 4, 1) := by decide +kernel
theorem dX0_votersFor_8 : decode cX0_votersFor 8 = .ok (.if_icmp .ge 43, 3) := by decide +kernel
theorem dX0_votersFor_11 : decode cX0_votersFor 11 = .ok (.iload_n 3, 1) := by decide +kernel
theorem dX0_votersFor_12 : decode cX0_votersFor 12 = .ok (.aload_n 0, 1) := by decide +kernel
theorem dX0_votersFor_13 : decode cX0_votersFor 13 = .ok (.iload 4, 2) := by decide +kernel
theorem dX0_votersFor_15 : decode cX0_votersFor 15 = .ok (.iload_n 1, 1) := by decide +kernel
theorem dX0_votersFor_16 : decode cX0_votersFor 16 = .ok (.invokevirtual 75, 3) := by decide +kernel
theorem dX0_votersFor_19 : decode cX0_votersFor 19 = .ok (.aload_n 0, 1) := by decide +kernel
theorem dX0_votersFor_20 : decode cX0_votersFor 20 = .ok (.iload 4, 2) := by decide +kernel
theorem dX0_votersFor_22 : decode cX0_votersFor 22 = .ok (.iload_n 2, 1) := by decide +kernel
theorem dX0_votersFor_23 : decode cX0_votersFor 23 = .ok (.invokevirtual 75, 3) := by decide +kernel
theorem dX0_votersFor_26 : decode cX0_votersFor 26 = .ok (.if_icmp .ge 16, 3) := by decide +kernel
theorem dX0_votersFor_29 : decode cX0_votersFor 29 = .ok (.aload_n 0, 1) := by decide +kernel
theorem dX0_votersFor_30 : decode cX0_votersFor 30 = .ok (.getfield 23, 3) := by decide +kernel
theorem dX0_votersFor_33 : decode cX0_votersFor 33 = .ok (.getfield 78, 3) := by decide +kernel
theorem dX0_votersFor_36 : decode cX0_votersFor 36 = .ok (.iload 4, 2) := by decide +kernel
theorem dX0_votersFor_38 : decode cX0_votersFor 38 = .ok (.iaload, 1) := by decide +kernel
theorem dX0_votersFor_39 : decode cX0_votersFor 39 = .ok (.goto 4, 3) := by decide +kernel
theorem dX0_votersFor_42 : decode cX0_votersFor 42 = .ok (.iconst 0, 1) := by decide +kernel
theorem dX0_votersFor_43 : decode cX0_votersFor 43 = .ok (.iadd, 1) := by decide +kernel
theorem dX0_votersFor_44 : decode cX0_votersFor 44 = .ok (.istore_n 3, 1) := by decide +kernel
theorem dX0_votersFor_45 : decode cX0_votersFor 45 = .ok (.iinc 4 1, 3) := by decide +kernel
theorem dX0_votersFor_48 : decode cX0_votersFor 48 = .ok (.goto (-43), 3) := by decide +kernel
theorem dX0_votersFor_51 : decode cX0_votersFor 51 = .ok (.iload_n 3, 1) := by decide +kernel
theorem dX0_votersFor_52 : decode cX0_votersFor 52 = .ok (.ireturn, 1) := by decide +kernel
theorem dX0_withMostPoints_0 : decode cX0_withMostPoints 0 = .ok (.aload_n 0, 1) := by decide +kernel
theorem dX0_withMostPoints_1 : decode cX0_withMostPoints 1 = .ok (.getfield 19, 3) := by decide +kernel
theorem dX0_withMostPoints_4 : decode cX0_withMostPoints 4 = .ok (.getfield 31, 3) := by decide +kernel
theorem dX0_withMostPoints_7 : decode cX0_withMostPoints 7 = .ok (.invokestatic 86, 3) := by decide +kernel
theorem dX0_withMostPoints_10 : decode cX0_withMostPoints 10 = .ok (.iconst 1, 1) := by decide +kernel
theorem dX0_withMostPoints_11 : decode cX0_withMostPoints 11 = .ok (.isub, 1) := by decide +kernel
theorem dX0_withMostPoints_12 : decode cX0_withMostPoints 12 = .ok (.istore_n 1, 1) := by decide +kernel
theorem dX0_withMostPoints_13 : decode cX0_withMostPoints 13 = .ok (.iconst (-1), 1) := by decide +kernel
theorem dX0_withMostPoints_14 : decode cX0_withMostPoints 14 = .ok (.istore_n 2, 1) := by decide +kernel
theorem dX0_withMostPoints_15 : decode cX0_withMostPoints 15 = .ok (.iconst (-1), 1) := by decide +kernel
theorem dX0_withMostPoints_16 : decode cX0_withMostPoints 16 = .ok (.istore_n 3, 1) := by decide +kernel
theorem dX0_withMostPoints_17 : decode cX0_withMostPoints 17 = .ok (.iconst 0, 1) := by decide +kernel
theorem dX0_withMostPoints_18 : decode cX0_withMostPoints 18 = .ok (.istore 4, 2) := by decide +kernel
theorem dX0_withMostPoints_20 : decode cX0_withMostPoints 20 = .ok (.iload 4, 2) := by decide +kernel
theorem dX0_withMostPoints_22 : decode cX0_withMostPoints 22 = .ok (.bipush 10, 2) := by decide +kernel
theorem dX0_withMostPoints_24 : decode cX0_withMostPoints 24 = .ok (.if_icmp .ge 80, 3) := by decide +kernel
theorem dX0_withMostPoints_27 : decode cX0_withMostPoints 27 = .ok (.aload_n 0, 1) := by decide +kernel
theorem dX0_withMostPoints_28 : decode cX0_withMostPoints 28 = .ok (.getfield 19, 3) := by decide +kernel
theorem dX0_withMostPoints_31 : decode cX0_withMostPoints 31 = .ok (.getfield 31, 3) := by decide +kernel
theorem dX0_withMostPoints_34 : decode cX0_withMostPoints 34 = .ok (.iload 4, 2) := by decide +kernel
theorem dX0_withMostPoints_36 : decode cX0_withMostPoints 36 = .ok (.invokestatic 47, 3) := by decide +kernel
theorem dX0_withMostPoints_39 : decode cX0_withMostPoints 39 = .ok (.ifCond .eq 59, 3) := by decide +kernel
theorem dX0_withMostPoints_42 : decode cX0_withMostPoints 42 = .ok (.iconst 0, 1) := by decide +kernel
theorem dX0_withMostPoints_43 : decode cX0_withMostPoints 43 = .ok (.istore 5, 2) := by decide +kernel
theorem dX0_withMostPoints_45 : decode cX0_withMostPoints 45 = .ok (.iconst 0, 1) := by decide +kernel
theorem dX0_withMostPoints_46 : decode cX0_withMostPoints 46 = .ok (.istore 6, 2) := by decide +kernel
theorem dX0_withMostPoints_48 : decode cX0_withMostPoints 48 = .ok (.iload 6, 2) := by decide +kernel
theorem dX0_withMostPoints_50 : decode cX0_withMostPoints 50 = .ok (.iconst 4, 1) := by decide +kernel
theorem dX0_withMostPoints_51 : decode cX0_withMostPoints 51 = .ok (.if_icmp .ge 35, 3) := by decide +kernel
theorem dX0_withMostPoints_54 : decode cX0_withMostPoints 54 = .ok (.iload 5, 2) := by decide +kernel
theorem dX0_withMostPoints_56 : decode cX0_withMostPoints 56 = .ok (.aload_n 0, 1) := by decide +kernel
theorem dX0_withMostPoints_57 : decode cX0_withMostPoints 57 = .ok (.getfield 23, 3) := by decide +kernel
theorem dX0_withMostPoints_60 : decode cX0_withMostPoints 60 = .ok (.getfield 78, 3) := by decide +kernel
theorem dX0_withMostPoints_63 : decode cX0_withMostPoints 63 = .ok (.iload 6, 2) := by decide +kernel
theorem dX0_withMostPoints_65 : decode cX0_withMostPoints 65 = .ok (.iaload, 1) := by decide +kernel
theorem dX0_withMostPoints_66 : decode cX0_withMostPoints 66 = .ok (.iload_n 1, 1) := by decide +kernel
theorem dX0_withMostPoints_67 : decode cX0_withMostPoints 67 = .ok (.aload_n 0, 1) := by decide +kernel
theorem dX0_withMostPoints_68 : decode cX0_withMostPoints 68 = .ok (.iload 6, 2) := by decide +kernel
theorem dX0_withMostPoints_70 : decode cX0_withMostPoints 70 = .ok (.iload 4, 2) := by decide +kernel
theorem dX0_withMostPoints_72 : decode cX0_withMostPoints 72 = .ok (.invokevirtual 75, 3) := by decide +kernel
theorem dX0_withMostPoints_75 : decode cX0_withMostPoints 75 = .ok (.isub, 1) := by decide +kernel
theorem dX0_withMostPoints_76 : decode cX0_withMostPoints 76 = .ok (.imul, 1) := by decide +kernel
theorem dX0_withMostPoints_77 : decode cX0_withMostPoints 77 = .ok (.iadd, 1) := by decide +kernel
theorem dX0_withMostPoints_78 : decode cX0_withMostPoints 78 = .ok (.istore 5, 2) := by decide +kernel
theorem dX0_withMostPoints_80 : decode cX0_withMostPoints 80 = .ok (.iinc 6 1, 3) := by decide +kernel
theorem dX0_withMostPoints_83 : decode cX0_withMostPoints 83 = .ok (.goto (-35), 3) := by decide +kernel
theorem dX0_withMostPoints_86 : decode cX0_withMostPoints 86 = .ok (.iload 5, 2) := by decide +kernel
theorem dX0_withMostPoints_88 : decode cX0_withMostPoints 88 = .ok (.iload_n 3, 1) := by decide +kernel
theorem dX0_withMostPoints_89 : decode cX0_withMostPoints 89 = .ok (.if_icmp .le 9, 3) := by decide +kernel
theorem dX0_withMostPoints_92 : decode cX0_withMostPoints 92 = .ok (.iload 4, 2) := by decide +kernel
theorem dX0_withMostPoints_94 : decode cX0_withMostPoints 94 = .ok (.istore_n 2, 1) := by decide +kernel
theorem dX0_withMostPoints_95 : decode cX0_withMostPoints 95 = .ok (.iload 5, 2) := by decide +kernel
theorem dX0_withMostPoints_97 : decode cX0_withMostPoints 97 = .ok (.istore_n 3, 1) := by decide +kernel
theorem dX0_withMostPoints_98 : decode cX0_withMostPoints 98 = .ok (.iinc 4 1, 3) := by decide +kernel
theorem dX0_withMostPoints_101 : decode cX0_withMostPoints 101 = .ok (.goto (-81), 3) := by decide +kernel
theorem dX0_withMostPoints_104 : decode cX0_withMostPoints 104 = .ok (.iload_n 2, 1) := by decide +kernel
theorem dX0_withMostPoints_105 : decode cX0_withMostPoints 105 = .ok (.ireturn, 1) := by decide +kernel
theorem dX0_aheadOfAll_0 : decode cX0_aheadOfAll 0 = .ok (.aload_n 0, 1) := by decide +kernel
theorem dX0_aheadOfAll_1 : decode cX0_aheadOfAll 1 = .ok (.getfield 23, 3) := by decide +kernel
theorem dX0_aheadOfAll_4 : decode cX0_aheadOfAll 4 = .ok (.invokevirtual 91, 3) := by decide +kernel
theorem dX0_aheadOfAll_7 : decode cX0_aheadOfAll 7 = .ok (.istore_n 1, 1) := by decide +kernel
theorem dX0_aheadOfAll_8 : decode cX0_aheadOfAll 8 = .ok (.iconst 0, 1) := by decide +kernel
theorem dX0_aheadOfAll_9 : decode cX0_aheadOfAll 9 = .ok (.istore_n 2, 1) := by decide +kernel
theorem dX0_aheadOfAll_10 : decode cX0_aheadOfAll 10 = .ok (.iload_n 2, 1) := by decide +kernel
theorem dX0_aheadOfAll_11 : decode cX0_aheadOfAll 11 = .ok (.bipush 10, 2) := by decide +kernel
theorem dX0_aheadOfAll_13 : decode cX0_aheadOfAll 13 = .ok (.if_icmp .ge 87, 3) := by decide +kernel
theorem dX0_aheadOfAll_16 : decode cX0_aheadOfAll 16 = .ok (.aload_n 0, 1) := by decide +kernel
theorem dX0_aheadOfAll_17 : decode cX0_aheadOfAll 17 = .ok (.getfield 19, 3) := by decide +kernel
theorem dX0_aheadOfAll_20 : decode cX0_aheadOfAll 20 = .ok (.getfield 31, 3) := by decide +kernel
theorem dX0_aheadOfAll_23 : decode cX0_aheadOfAll 23 = .ok (.iload_n 2, 1) := by decide +kernel
theorem dX0_aheadOfAll_24 : decode cX0_aheadOfAll 24 = .ok (.invokestatic 47, 3) := by decide +kernel
theorem dX0_aheadOfAll_27 : decode cX0_aheadOfAll 27 = .ok (.istore_n 3, 1) := by decide +kernel
theorem dX0_aheadOfAll_28 : decode cX0_aheadOfAll 28 = .ok (.iconst 0, 1) := by decide +kernel
theorem dX0_aheadOfAll_29 : decode cX0_aheadOfAll 29 = .ok (.istore 4, 2) := by decide +kernel
theorem dX0_aheadOfAll_31 : decode cX0_aheadOfAll 31 = .ok (.iload 4, 2) := by decide +kernel
theorem dX0_aheadOfAll_33 : decode cX0_aheadOfAll 33 = .ok (.bipush 10, 2) := by decide +kernel
theorem dX0_aheadOfAll_35 : decode cX0_aheadOfAll 35 = .ok (.if_icmp .ge 53, 3) := by decide +kernel
theorem dX0_aheadOfAll_38 : decode cX0_aheadOfAll 38 = .ok (.iload_n 3, 1) := by decide +kernel
theorem dX0_aheadOfAll_39 : decode cX0_aheadOfAll 39 = .ok (.ifCond .eq 49, 3) := by decide +kernel
theorem dX0_aheadOfAll_42 : decode cX0_aheadOfAll 42 = .ok (.iload 4, 2) := by decide +kernel
theorem dX0_aheadOfAll_44 : decode cX0_aheadOfAll 44 = .ok (.iload_n 2, 1) := by decide +kernel
theorem dX0_aheadOfAll_45 : decode cX0_aheadOfAll 45 = .ok (.if_icmp .eq 37, 3) := by decide +kernel
theorem dX0_aheadOfAll_48 : decode cX0_aheadOfAll 48 = .ok (.aload_n 0, 1) := by decide +kernel
theorem dX0_aheadOfAll_49 : decode cX0_aheadOfAll 49 = .ok (.getfield 19, 3) := by decide +kernel
theorem dX0_aheadOfAll_52 : decode cX0_aheadOfAll 52 = .ok (.getfield 31, 3) := by decide +kernel
theorem dX0_aheadOfAll_55 : decode cX0_aheadOfAll 55 = .ok (.iload 4, 2) := by decide +kernel
theorem dX0_aheadOfAll_57 : decode cX0_aheadOfAll 57 = .ok (.invokestatic 47, 3) := by decide +kernel
theorem dX0_aheadOfAll_60 : decode cX0_aheadOfAll 60 = .ok (.ifCond .eq 22, 3) := by decide +kernel
theorem dX0_aheadOfAll_63 : decode cX0_aheadOfAll 63 = .ok (.iconst 2, 1) := by decide +kernel
theorem dX0_aheadOfAll_64 : decode cX0_aheadOfAll 64 = .ok (.aload_n 0, 1) := by decide +kernel
theorem dX0_aheadOfAll_65 : decode cX0_aheadOfAll 65 = .ok (.iload_n 2, 1) := by decide +kernel
theorem dX0_aheadOfAll_66 : decode cX0_aheadOfAll 66 = .ok (.iload 4, 2) := by decide +kernel
theorem dX0_aheadOfAll_68 : decode cX0_aheadOfAll 68 = .ok (.invokevirtual 83, 3) := by decide +kernel
theorem dX0_aheadOfAll_71 : decode cX0_aheadOfAll 71 = .ok (.imul, 1) := by decide +kernel
theorem dX0_aheadOfAll_72 : decode cX0_aheadOfAll 72 = .ok (.iload_n 1, 1) := by decide +kernel
theorem dX0_aheadOfAll_73 : decode cX0_aheadOfAll 73 = .ok (.if_icmp .le 7, 3) := by decide +kernel
theorem dX0_aheadOfAll_76 : decode cX0_aheadOfAll 76 = .ok (.iconst 1, 1) := by decide +kernel
theorem dX0_aheadOfAll_77 : decode cX0_aheadOfAll 77 = .ok (.goto 4, 3) := by decide +kernel
theorem dX0_aheadOfAll_80 : decode cX0_aheadOfAll 80 = .ok (.iconst 0, 1) := by decide +kernel
theorem dX0_aheadOfAll_81 : decode cX0_aheadOfAll 81 = .ok (.istore_n 3, 1) := by decide +kernel
theorem dX0_aheadOfAll_82 : decode cX0_aheadOfAll 82 = .ok (.iinc 4 1, 3) := by decide +kernel
theorem dX0_aheadOfAll_85 : decode cX0_aheadOfAll 85 = .ok (.goto (-54), 3) := by decide +kernel
theorem dX0_aheadOfAll_88 : decode cX0_aheadOfAll 88 = .ok (.iload_n 3, 1) := by decide +kernel
theorem dX0_aheadOfAll_89 : decode cX0_aheadOfAll 89 = .ok (.ifCond .eq 5, 3) := by decide +kernel
theorem dX0_aheadOfAll_92 : decode cX0_aheadOfAll 92 = .ok (.iload_n 2, 1) := by decide +kernel
theorem dX0_aheadOfAll_93 : decode cX0_aheadOfAll 93 = .ok (.ireturn, 1) := by decide +kernel
theorem dX0_aheadOfAll_94 : decode cX0_aheadOfAll 94 = .ok (.iinc 2 1, 3) := by decide +kernel
theorem dX0_aheadOfAll_97 : decode cX0_aheadOfAll 97 = .ok (.goto (-87), 3) := by decide +kernel
theorem dX0_aheadOfAll_100 : decode cX0_aheadOfAll 100 = .ok (.iconst (-1), 1) := by decide +kernel
theorem dX0_aheadOfAll_101 : decode cX0_aheadOfAll 101 = .ok (.ireturn, 1) := by decide +kernel
theorem dX1_init_0 : decode cX1_init 0 = .ok (.aload_n 0, 1) := by decide +kernel
theorem dX1_init_1 : decode cX1_init 1 = .ok (.invokespecial 3, 3) := by decide +kernel
theorem dX1_init_4 : decode cX1_init 4 = .ok (.aload_n 0, 1) := by decide +kernel
theorem dX1_init_5 : decode cX1_init 5 = .ok (.iconst 4, 1) := by decide +kernel
theorem dX1_init_6 : decode cX1_init 6 = .ok (.newarray .int, 2) := by decide +kernel
theorem dX1_init_8 : decode cX1_init 8 = .ok (.putfield 9, 3) := by decide +kernel
theorem dX1_init_11 : decode cX1_init 11 = .ok (.aload_n 0, 1) := by decide +kernel
theorem dX1_init_12 : decode cX1_init 12 = .ok (.bipush 24, 2) := by decide +kernel
theorem dX1_init_14 : decode cX1_init 14 = .ok (.newarray .int, 2) := by decide +kernel
theorem dX1_init_16 : decode cX1_init 16 = .ok (.putfield 15, 3) := by decide +kernel
theorem dX1_init_19 : decode cX1_init 19 = .ok (.aload_n 0, 1) := by decide +kernel
theorem dX1_init_20 : decode cX1_init 20 = .ok (.bipush 24, 2) := by decide +kernel
theorem dX1_init_22 : decode cX1_init 22 = .ok (.newarray .int, 2) := by decide +kernel
theorem dX1_init_24 : decode cX1_init 24 = .ok (.putfield 18, 3) := by decide +kernel
theorem dX1_init_27 : decode cX1_init 27 = .ok (.aload_n 0, 1) := by decide +kernel
theorem dX1_init_28 : decode cX1_init 28 = .ok (.bipush 24, 2) := by decide +kernel
theorem dX1_init_30 : decode cX1_init 30 = .ok (.newarray .int, 2) := by decide +kernel
theorem dX1_init_32 : decode cX1_init 32 = .ok (.putfield 21, 3) := by decide +kernel
theorem dX1_init_35 : decode cX1_init 35 = .ok (.aload_n 0, 1) := by decide +kernel
theorem dX1_init_36 : decode cX1_init 36 = .ok (.bipush 24, 2) := by decide +kernel
theorem dX1_init_38 : decode cX1_init 38 = .ok (.newarray .int, 2) := by decide +kernel
theorem dX1_init_40 : decode cX1_init 40 = .ok (.putfield 24, 3) := by decide +kernel
theorem dX1_init_43 : decode cX1_init 43 = .ok (.aload_n 0, 1) := by decide +kernel
theorem dX1_init_44 : decode cX1_init 44 = .ok (.sipush 1000, 3) := by decide +kernel
theorem dX1_init_47 : decode cX1_init 47 = .ok (.putfield 27, 3) := by decide +kernel
theorem dX1_init_50 : decode cX1_init 50 = .ok (.return_, 1) := by decide +kernel
theorem dX1_add_0 : decode cX1_add 0 = .ok (.aload_n 0, 1) := by decide +kernel
theorem dX1_add_1 : decode cX1_add 1 = .ok (.getfield 31, 3) := by decide +kernel
theorem dX1_add_4 : decode cX1_add 4 = .ok (.ifCond .lt 12, 3) := by decide +kernel
theorem dX1_add_7 : decode cX1_add 7 = .ok (.aload_n 0, 1) := by decide +kernel
theorem dX1_add_8 : decode cX1_add 8 = .ok (.getfield 31, 3) := by decide +kernel
theorem dX1_add_11 : decode cX1_add 11 = .ok (.bipush 24, 2) := by decide +kernel
theorem dX1_add_13 : decode cX1_add 13 = .ok (.if_icmp .lt 5, 3) := by decide +kernel
theorem dX1_add_16 : decode cX1_add 16 = .ok (.iconst (-1), 1) := by decide +kernel
theorem dX1_add_17 : decode cX1_add 17 = .ok (.ireturn, 1) := by decide +kernel
theorem dX1_add_18 : decode cX1_add 18 = .ok (.aload_n 0, 1) := by decide +kernel
theorem dX1_add_19 : decode cX1_add 19 = .ok (.getfield 15, 3) := by decide +kernel
theorem dX1_add_22 : decode cX1_add 22 = .ok (.aload_n 0, 1) := by decide +kernel
theorem dX1_add_23 : decode cX1_add 23 = .ok (.getfield 31, 3) := by decide +kernel
theorem dX1_add_26 : decode cX1_add 26 = .ok (.iload_n 1, 1) := by decide +kernel
theorem dX1_add_27 : decode cX1_add 27 = .ok (.iastore, 1) := by decide +kernel
theorem dX1_add_28 : decode cX1_add 28 = .ok (.aload_n 0, 1) := by decide +kernel
theorem dX1_add_29 : decode cX1_add 29 = .ok (.getfield 18, 3) := by decide +kernel
theorem dX1_add_32 : decode cX1_add 32 = .ok (.aload_n 0, 1) := by decide +kernel
theorem dX1_add_33 : decode cX1_add 33 = .ok (.getfield 31, 3) := by decide +kernel
theorem dX1_add_36 : decode cX1_add 36 = .ok (.iload_n 2, 1) := by decide +kernel
theorem dX1_add_37 : decode cX1_add 37 = .ok (.iastore, 1) := by decide +kernel
theorem dX1_add_38 : decode cX1_add 38 = .ok (.aload_n 0, 1) := by decide +kernel
theorem dX1_add_39 : decode cX1_add 39 = .ok (.getfield 21, 3) := by decide +kernel
theorem dX1_add_42 : decode cX1_add 42 = .ok (.aload_n 0, 1) := by decide +kernel
theorem dX1_add_43 : decode cX1_add 43 = .ok (.getfield 31, 3) := by decide +kernel
theorem dX1_add_46 : decode cX1_add 46 = .ok (.iload_n 3, 1) := by decide +kernel
theorem dX1_add_47 : decode cX1_add 47 = .ok (.iastore, 1) := by decide +kernel
theorem dX1_add_48 : decode cX1_add 48 = .ok (.aload_n 0, 1) := by decide +kernel
theorem dX1_add_49 : decode cX1_add 49 = .ok (.getfield 24, 3) := by decide +kernel
theorem dX1_add_52 : decode cX1_add 52 = .ok (.aload_n 0, 1) := by decide +kernel
theorem dX1_add_53 : decode cX1_add 53 = .ok (.getfield 31, 3) := by decide +kernel
theorem dX1_add_56 : decode cX1_add 56 = .ok (.iload 4, 2) := by decide +kernel
theorem dX1_add_58 : decode cX1_add 58 = .ok (.iastore, 1) := by decide +kernel
theorem dX1_add_59 : decode cX1_add 59 = .ok (.aload_n 0, 1) := by decide +kernel
theorem dX1_add_60 : decode cX1_add 60 = .ok (.dup, 1) := by decide +kernel
theorem dX1_add_61 : decode cX1_add 61 = .ok (.getfield 31, 3) := by decide +kernel
theorem dX1_add_64 : decode cX1_add 64 = .ok (.iconst 1, 1) := by decide +kernel
theorem dX1_add_65 : decode cX1_add 65 = .ok (.iadd, 1) := by decide +kernel
theorem dX1_add_66 : decode cX1_add 66 = .ok (.putfield 31, 3) := by decide +kernel
theorem dX1_add_69 : decode cX1_add 69 = .ok (.aload_n 0, 1) := by decide +kernel
theorem dX1_add_70 : decode cX1_add 70 = .ok (.getfield 31, 3) := by decide +kernel
theorem dX1_add_73 : decode cX1_add 73 = .ok (.iconst 1, 1) := by decide +kernel
theorem dX1_add_74 : decode cX1_add 74 = .ok (.isub, 1) := by decide +kernel
theorem dX1_add_75 : decode cX1_add 75 = .ok (.ireturn, 1) := by decide +kernel
theorem dX1_voters_0 : decode cX1_voters 0 = .ok (.iconst 0, 1) := by decide +kernel
theorem dX1_voters_1 : decode cX1_voters 1 = .ok (.istore_n 1, 1) := by decide +kernel
theorem dX1_voters_2 : decode cX1_voters 2 = .ok (.iconst 0, 1) := by decide +kernel
theorem dX1_voters_3 : decode cX1_voters 3 = .ok (.istore_n 2, 1) := by decide +kernel
theorem dX1_voters_4 : decode cX1_voters 4 = .ok (.iload_n 2, 1) := by decide +kernel
theorem dX1_voters_5 : decode cX1_voters 5 = .ok (.iconst 4, 1) := by decide +kernel
theorem dX1_voters_6 : decode cX1_voters 6 = .ok (.if_icmp .ge 18, 3) := by decide +kernel
theorem dX1_voters_9 : decode cX1_voters 9 = .ok (.iload_n 1, 1) := by decide +kernel
theorem dX1_voters_10 : decode cX1_voters 10 = .ok (.aload_n 0, 1) := by decide +kernel
theorem dX1_voters_11 : decode cX1_voters 11 = .ok (.getfield 9, 3) := by decide +kernel
theorem dX1_voters_14 : decode cX1_voters 14 = .ok (.iload_n 2, 1) := by decide +kernel
theorem dX1_voters_15 : decode cX1_voters 15 = .ok (.iaload, 1) := by decide +kernel
theorem dX1_voters_16 : decode cX1_voters 16 = .ok (.iadd, 1) := by decide +kernel
theorem dX1_voters_17 : decode cX1_voters 17 = .ok (.istore_n 1, 1) := by decide +kernel
theorem dX1_voters_18 : decode cX1_voters 18 = .ok (.iinc 2 1, 3) := by decide +kernel
theorem dX1_voters_21 : decode cX1_voters 21 = .ok (.goto (-17), 3) := by decide +kernel
theorem dX1_voters_24 : decode cX1_voters 24 = .ok (.iload_n 1, 1) := by decide +kernel
theorem dX1_voters_25 : decode cX1_voters 25 = .ok (.ireturn, 1) := by decide +kernel
theorem dX2_init_0 : decode cX2_init 0 = .ok (.aload_n 0, 1) := by decide +kernel
theorem dX2_init_1 : decode cX2_init 1 = .ok (.invokespecial 3, 3) := by decide +kernel
theorem dX2_init_4 : decode cX2_init 4 = .ok (.aload_n 0, 1) := by decide +kernel
theorem dX2_init_5 : decode cX2_init 5 = .ok (.bipush 10, 2) := by decide +kernel
theorem dX2_init_7 : decode cX2_init 7 = .ok (.newarray .int, 2) := by decide +kernel
theorem dX2_init_9 : decode cX2_init 9 = .ok (.putfield 9, 3) := by decide +kernel
theorem dX2_init_12 : decode cX2_init 12 = .ok (.aload_n 0, 1) := by decide +kernel
theorem dX2_init_13 : decode cX2_init 13 = .ok (.aload_n 1, 1) := by decide +kernel
theorem dX2_init_14 : decode cX2_init 14 = .ok (.putfield 15, 3) := by decide +kernel
theorem dX2_init_17 : decode cX2_init 17 = .ok (.aload_n 0, 1) := by decide +kernel
theorem dX2_init_18 : decode cX2_init 18 = .ok (.aload_n 2, 1) := by decide +kernel
theorem dX2_init_19 : decode cX2_init 19 = .ok (.putfield 19, 3) := by decide +kernel
theorem dX2_init_22 : decode cX2_init 22 = .ok (.return_, 1) := by decide +kernel
theorem dX2_entry_0 : decode cX2_entry 0 = .ok (.aload_n 0, 1) := by decide +kernel
theorem dX2_entry_1 : decode cX2_entry 1 = .ok (.getfield 15, 3) := by decide +kernel
theorem dX2_entry_4 : decode cX2_entry 4 = .ok (.getfield 23, 3) := by decide +kernel
theorem dX2_entry_7 : decode cX2_entry 7 = .ok (.iload_n 1, 1) := by decide +kernel
theorem dX2_entry_8 : decode cX2_entry 8 = .ok (.invokestatic 29, 3) := by decide +kernel
theorem dX2_entry_11 : decode cX2_entry 11 = .ok (.istore_n 2, 1) := by decide +kernel
theorem dX2_entry_12 : decode cX2_entry 12 = .ok (.aload_n 0, 1) := by decide +kernel
theorem dX2_entry_13 : decode cX2_entry 13 = .ok (.getfield 19, 3) := by decide +kernel
theorem dX2_entry_16 : decode cX2_entry 16 = .ok (.iload_n 2, 1) := by decide +kernel
theorem dX2_entry_17 : decode cX2_entry 17 = .ok (.invokevirtual 33, 3) := by decide +kernel
theorem dX2_entry_20 : decode cX2_entry 20 = .ok (.astore_n 3, 1) := by decide +kernel
theorem dX2_entry_21 : decode cX2_entry 21 = .ok (.aload_n 3, 1) := by decide +kernel
theorem dX2_entry_22 : decode cX2_entry 22 = .ok (.aload_n 0, 1) := by decide +kernel
theorem dX2_entry_23 : decode cX2_entry 23 = .ok (.getfield 15, 3) := by decide +kernel
theorem dX2_entry_26 : decode cX2_entry 26 = .ok (.iload_n 1, 1) := by decide +kernel
theorem dX2_entry_27 : decode cX2_entry 27 = .ok (.invokevirtual 39, 3) := by decide +kernel
theorem dX2_entry_30 : decode cX2_entry 30 = .ok (.invokevirtual 43, 3) := by decide +kernel
theorem dX2_entry_33 : decode cX2_entry 33 = .ok (.bipush (-2), 2) := by decide +kernel
theorem dX2_entry_35 : decode cX2_entry 35 = .ok (.if_icmp .ne 5, 3) := by decide +kernel
theorem dX2_entry_38 : decode cX2_entry 38 = .ok (.iconst 0, 1) := by decide +kernel
theorem dX2_entry_39 : decode cX2_entry 39 = .ok (.ireturn, 1) := by decide +kernel
theorem dX2_entry_40 : decode cX2_entry 40 = .ok (.lconst 1, 1) := by decide +kernel
theorem dX2_entry_41 : decode cX2_entry 41 = .ok (.aload_n 0, 1) := by decide +kernel
theorem dX2_entry_42 : decode cX2_entry 42 = .ok (.getfield 15, 3) := by decide +kernel
theorem dX2_entry_45 : decode cX2_entry 45 = .ok (.iload_n 1, 1) := by decide +kernel
theorem dX2_entry_46 : decode cX2_entry 46 = .ok (.invokevirtual 39, 3) := by decide +kernel
theorem dX2_entry_49 : decode cX2_entry 49 = .ok (.lshl, 1) := by decide +kernel
theorem dX2_entry_50 : decode cX2_entry 50 = .ok (.lstore 4, 2) := by decide +kernel
theorem dX2_entry_52 : decode cX2_entry 52 = .ok (.lconst 0, 1) := by decide +kernel
theorem dX2_entry_53 : decode cX2_entry 53 = .ok (.lstore 6, 2) := by decide +kernel
theorem dX2_entry_55 : decode cX2_entry 55 = .ok (.iconst 0, 1) := by decide +kernel
theorem dX2_entry_56 : decode cX2_entry 56 = .ok (.istore 8, 2) := by decide +kernel
theorem dX2_entry_58 : decode cX2_entry 58 = .ok (.iconst 0, 1) := by decide +kernel
theorem dX2_entry_59 : decode cX2_entry 59 = .ok (.istore 9, 2) := by decide +kernel
theorem dX2_entry_61 : decode cX2_entry 61 = .ok (.iload 9, 2) := by decide +kernel
theorem dX2_entry_63 : decode cX2_entry 63 = .ok (.bipush 64, 2) := by decide +kernel
theorem dX2_entry_65 : decode cX2_entry 65 = .ok (.if_icmp .ge 126, 3) := by decide +kernel
theorem dX2_entry_68 : decode cX2_entry 68 = .ok (.lload 4, 2) := by decide +kernel
theorem dX2_entry_70 : decode cX2_entry 70 = .ok (.lload 6, 2) := by decide +kernel
theorem dX2_entry_72 : decode cX2_entry 72 = .ok (.lcmp, 1) := by decide +kernel
theorem dX2_entry_73 : decode cX2_entry 73 = .ok (.ifCond .eq 118, 3) := by decide +kernel
theorem dX2_entry_76 : decode cX2_entry 76 = .ok (.lload 4, 2) := by decide +kernel
theorem dX2_entry_78 : decode cX2_entry 78 = .ok (.lload 6, 2) := by decide +kernel
theorem dX2_entry_80 : decode cX2_entry 80 = .ok (.ldc2_w 48, 3) := by decide +kernel
theorem dX2_entry_83 : decode cX2_entry 83 = .ok (.lxor, 1) := by decide +kernel
theorem dX2_entry_84 : decode cX2_entry 84 = .ok (.land, 1) := by decide +kernel
theorem dX2_entry_85 : decode cX2_entry 85 = .ok (.invokestatic 50, 3) := by decide +kernel
theorem dX2_entry_88 : decode cX2_entry 88 = .ok (.istore 10, 2) := by decide +kernel
theorem dX2_entry_90 : decode cX2_entry 90 = .ok (.lload 6, 2) := by decide +kernel
theorem dX2_entry_92 : decode cX2_entry 92 = .ok (.lconst 1, 1) := by decide +kernel
theorem dX2_entry_93 : decode cX2_entry 93 = .ok (.iload 10, 2) := by decide +kernel
theorem dX2_entry_95 : decode cX2_entry 95 = .ok (.lshl, 1) := by decide +kernel
theorem dX2_entry_96 : decode cX2_entry 96 = .ok (.lor, 1) := by decide +kernel
theorem dX2_entry_97 : decode cX2_entry 97 = .ok (.lstore 6, 2) := by decide +kernel
theorem dX2_entry_99 : decode cX2_entry 99 = .ok (.aload_n 3, 1) := by decide +kernel
theorem dX2_entry_100 : decode cX2_entry 100 = .ok (.iload 10, 2) := by decide +kernel
theorem dX2_entry_102 : decode cX2_entry 102 = .ok (.invokevirtual 54, 3) := by decide +kernel
theorem dX2_entry_105 : decode cX2_entry 105 = .ok (.istore 11, 2) := by decide +kernel
theorem dX2_entry_107 : decode cX2_entry 107 = .ok (.iload 11, 2) := by decide +kernel
theorem dX2_entry_109 : decode cX2_entry 109 = .ok (.invokestatic 57, 3) := by decide +kernel
theorem dX2_entry_112 : decode cX2_entry 112 = .ok (.istore 12, 2) := by decide +kernel
theorem dX2_entry_114 : decode cX2_entry 114 = .ok (.iload 12, 2) := by decide +kernel
theorem dX2_entry_116 : decode cX2_entry 116 = .ok (.ifCond .ne 18, 3) := by decide +kernel
theorem dX2_entry_119 : decode cX2_entry 119 = .ok (.iload 8, 2) := by decide +kernel
theorem dX2_entry_121 : decode cX2_entry 121 = .ok (.iconst 1, 1) := by decide +kernel
theorem dX2_entry_122 : decode cX2_entry 122 = .ok (.iload 11, 2) := by decide +kernel
theorem dX2_entry_124 : decode cX2_entry 124 = .ok (.invokestatic 60, 3) := by decide +kernel
theorem dX2_entry_127 : decode cX2_entry 127 = .ok (.ishl, 1) := by decide +kernel
theorem dX2_entry_128 : decode cX2_entry 128 = .ok (.ior, 1) := by decide +kernel
theorem dX2_entry_129 : decode cX2_entry 129 = .ok (.istore 8, 2) := by decide +kernel
theorem dX2_entry_131 : decode cX2_entry 131 = .ok (.goto 54, 3) := by decide +kernel
theorem dX2_entry_134 : decode cX2_entry 134 = .ok (.iload 8, 2) := by decide +kernel
theorem dX2_entry_136 : decode cX2_entry 136 = .ok (.iconst 1, 1) := by decide +kernel
theorem dX2_entry_137 : decode cX2_entry 137 = .ok (.aload_n 0, 1) := by decide +kernel
theorem dX2_entry_138 : decode cX2_entry 138 = .ok (.getfield 15, 3) := by decide +kernel
theorem dX2_entry_141 : decode cX2_entry 141 = .ok (.iload 12, 2) := by decide +kernel
theorem dX2_entry_143 : decode cX2_entry 143 = .ok (.iload_n 2, 1) := by decide +kernel
theorem dX2_entry_144 : decode cX2_entry 144 = .ok (.invokevirtual 63, 3) := by decide +kernel
theorem dX2_entry_147 : decode cX2_entry 147 = .ok (.ishl, 1) := by decide +kernel
theorem dX2_entry_148 : decode cX2_entry 148 = .ok (.ior, 1) := by decide +kernel
theorem dX2_entry_149 : decode cX2_entry 149 = .ok (.istore 8, 2) := by decide +kernel
theorem dX2_entry_151 : decode cX2_entry 151 = .ok (.lload 4, 2) := by decide +kernel
theorem dX2_entry_153 : decode cX2_entry 153 = .ok (.lconst 1, 1) := by decide +kernel
theorem dX2_entry_154 : decode cX2_entry 154 = .ok (.iload 11, 2) := by decide +kernel
theorem dX2_entry_156 : decode cX2_entry 156 = .ok (.invokestatic 60, 3) := by decide +kernel
theorem dX2_entry_159 : decode cX2_entry 159 = .ok (.lshl, 1) := by decide +kernel
theorem dX2_entry_160 : decode cX2_entry 160 = .ok (.lor, 1) := by decide +kernel
theorem dX2_entry_161 : decode cX2_entry 161 = .ok (.lstore 4, 2) := by decide +kernel
theorem dX2_entry_163 : decode cX2_entry 163 = .ok (.lload 4, 2) := by decide +kernel
theorem dX2_entry_165 : decode cX2_entry 165 = .ok (.iload 12, 2) := by decide +kernel
theorem dX2_entry_167 : decode cX2_entry 167 = .ok (.iconst 1, 1) := by decide +kernel
theorem dX2_entry_168 : decode cX2_entry 168 = .ok (.if_icmp .ne 7, 3) := by decide +kernel
theorem dX2_entry_171 : decode cX2_entry 171 = .ok (.lconst 0, 1) := by decide +kernel
theorem dX2_entry_172 : decode cX2_entry 172 = .ok (.goto 10, 3) := by decide +kernel
theorem dX2_entry_175 : decode cX2_entry 175 = .ok (.lconst 1, 1) := by decide +kernel
theorem dX2_entry_176 : decode cX2_entry 176 = .ok (.iload 11, 2) := by decide +kernel
theorem dX2_entry_178 : decode cX2_entry 178 = .ok (.invokestatic 66, 3) := by decide +kernel
theorem dX2_entry_181 : decode cX2_entry 181 = .ok (.lshl, 1) := by decide +kernel
theorem dX2_entry_182 : decode cX2_entry 182 = .ok (.lor, 1) := by decide +kernel
theorem dX2_entry_183 : decode cX2_entry 183 = .ok (.lstore 4, 2) := by decide +kernel
theorem dX2_entry_185 : decode cX2_entry 185 = .ok (.iinc 9 1, 3) := by decide +kernel
theorem dX2_entry_188 : decode cX2_entry 188 = .ok (.goto (-127), 3) := by decide +kernel
theorem dX2_entry_191 : decode cX2_entry 191 = .ok (.iload 8, 2) := by decide +kernel
theorem dX2_entry_193 : decode cX2_entry 193 = .ok (.ireturn, 1) := by decide +kernel
theorem dX2_lowestOf_0 : decode cX2_lowestOf 0 = .ok (.iconst 0, 1) := by decide +kernel
theorem dX2_lowestOf_1 : decode cX2_lowestOf 1 = .ok (.istore_n 2, 1) := by decide +kernel
theorem dX2_lowestOf_2 : decode cX2_lowestOf 2 = .ok (.iload_n 2, 1) := by decide +kernel
theorem dX2_lowestOf_3 : decode cX2_lowestOf 3 = .ok (.bipush 64, 2) := by decide +kernel
theorem dX2_lowestOf_5 : decode cX2_lowestOf 5 = .ok (.if_icmp .ge 21, 3) := by decide +kernel
theorem dX2_lowestOf_8 : decode cX2_lowestOf 8 = .ok (.lload_n 0, 1) := by decide +kernel
theorem dX2_lowestOf_9 : decode cX2_lowestOf 9 = .ok (.iload_n 2, 1) := by decide +kernel
theorem dX2_lowestOf_10 : decode cX2_lowestOf 10 = .ok (.lshr, 1) := by decide +kernel
theorem dX2_lowestOf_11 : decode cX2_lowestOf 11 = .ok (.lconst 1, 1) := by decide +kernel
theorem dX2_lowestOf_12 : decode cX2_lowestOf 12 = .ok (.land, 1) := by decide +kernel
theorem dX2_lowestOf_13 : decode cX2_lowestOf 13 = .ok (.lconst 1, 1) := by decide +kernel
theorem dX2_lowestOf_14 : decode cX2_lowestOf 14 = .ok (.lcmp, 1) := by decide +kernel
theorem dX2_lowestOf_15 : decode cX2_lowestOf 15 = .ok (.ifCond .ne 5, 3) := by decide +kernel
theorem dX2_lowestOf_18 : decode cX2_lowestOf 18 = .ok (.iload_n 2, 1) := by decide +kernel
theorem dX2_lowestOf_19 : decode cX2_lowestOf 19 = .ok (.ireturn, 1) := by decide +kernel
theorem dX2_lowestOf_20 : decode cX2_lowestOf 20 = .ok (.iinc 2 1, 3) := by decide +kernel
theorem dX2_lowestOf_23 : decode cX2_lowestOf 23 = .ok (.goto (-21), 3) := by decide +kernel
theorem dX2_lowestOf_26 : decode cX2_lowestOf 26 = .ok (.iconst 0, 1) := by decide +kernel
theorem dX2_lowestOf_27 : decode cX2_lowestOf 27 = .ok (.ireturn, 1) := by decide +kernel
theorem dX2_circles_0 : decode cX2_circles 0 = .ok (.iconst 0, 1) := by decide +kernel
theorem dX2_circles_1 : decode cX2_circles 1 = .ok (.istore_n 1, 1) := by decide +kernel
theorem dX2_circles_2 : decode cX2_circles 2 = .ok (.iload_n 1, 1) := by decide +kernel
theorem dX2_circles_3 : decode cX2_circles 3 = .ok (.bipush 10, 2) := by decide +kernel
theorem dX2_circles_5 : decode cX2_circles 5 = .ok (.if_icmp .ge 35, 3) := by decide +kernel
theorem dX2_circles_8 : decode cX2_circles 8 = .ok (.aload_n 0, 1) := by decide +kernel
theorem dX2_circles_9 : decode cX2_circles 9 = .ok (.getfield 9, 3) := by decide +kernel
theorem dX2_circles_12 : decode cX2_circles 12 = .ok (.iload_n 1, 1) := by decide +kernel
theorem dX2_circles_13 : decode cX2_circles 13 = .ok (.aload_n 0, 1) := by decide +kernel
theorem dX2_circles_14 : decode cX2_circles 14 = .ok (.getfield 15, 3) := by decide +kernel
theorem dX2_circles_17 : decode cX2_circles 17 = .ok (.iload_n 1, 1) := by decide +kernel
theorem dX2_circles_18 : decode cX2_circles 18 = .ok (.invokevirtual 69, 3) := by decide +kernel
theorem dX2_circles_21 : decode cX2_circles 21 = .ok (.ifCond .eq 11, 3) := by decide +kernel
theorem dX2_circles_24 : decode cX2_circles 24 = .ok (.aload_n 0, 1) := by decide +kernel
theorem dX2_circles_25 : decode cX2_circles 25 = .ok (.iload_n 1, 1) := by decide +kernel
theorem dX2_circles_26 : decode cX2_circles 26 = .ok (.invokevirtual 73, 3) := by decide +kernel
theorem dX2_circles_29 : decode cX2_circles 29 = .ok (.goto 4, 3) := by decide +kernel
theorem dX2_circles_32 : decode cX2_circles 32 = .ok (.iconst 0, 1) := by decide +kernel
theorem dX2_circles_33 : decode cX2_circles 33 = .ok (.iastore, 1) := by decide +kernel
theorem dX2_circles_34 : decode cX2_circles 34 = .ok (.iinc 1 1, 3) := by decide +kernel
theorem dX2_circles_37 : decode cX2_circles 37 = .ok (.goto (-35), 3) := by decide +kernel
theorem dX2_circles_40 : decode cX2_circles 40 = .ok (.iconst 0, 1) := by decide +kernel
theorem dX2_circles_41 : decode cX2_circles 41 = .ok (.istore_n 1, 1) := by decide +kernel
theorem dX2_circles_42 : decode cX2_circles 42 = .ok (.iload_n 1, 1) := by decide +kernel
theorem dX2_circles_43 : decode cX2_circles 43 = .ok (.bipush 10, 2) := by decide +kernel
theorem dX2_circles_45 : decode cX2_circles 45 = .ok (.if_icmp .ge 51, 3) := by decide +kernel
theorem dX2_circles_48 : decode cX2_circles 48 = .ok (.iconst 0, 1) := by decide +kernel
theorem dX2_circles_49 : decode cX2_circles 49 = .ok (.istore_n 2, 1) := by decide +kernel
theorem dX2_circles_50 : decode cX2_circles 50 = .ok (.iload_n 2, 1) := by decide +kernel
theorem dX2_circles_51 : decode cX2_circles 51 = .ok (.bipush 10, 2) := by decide +kernel
theorem dX2_circles_53 : decode cX2_circles 53 = .ok (.if_icmp .ge 37, 3) := by decide +kernel
theorem dX2_circles_56 : decode cX2_circles 56 = .ok (.aload_n 0, 1) := by decide +kernel
theorem dX2_circles_57 : decode cX2_circles 57 = .ok (.getfield 9, 3) := by decide +kernel
theorem dX2_circles_60 : decode cX2_circles 60 = .ok (.iload_n 2, 1) := by decide +kernel
theorem dX2_circles_61 : decode cX2_circles 61 = .ok (.iaload, 1) := by decide +kernel
theorem dX2_circles_62 : decode cX2_circles 62 = .ok (.iload_n 1, 1) := by decide +kernel
theorem dX2_circles_63 : decode cX2_circles 63 = .ok (.invokestatic 76, 3) := by decide +kernel
theorem dX2_circles_66 : decode cX2_circles 66 = .ok (.ifCond .eq 18, 3) := by decide +kernel
theorem dX2_circles_69 : decode cX2_circles 69 = .ok (.aload_n 0, 1) := by decide +kernel
theorem dX2_circles_70 : decode cX2_circles 70 = .ok (.getfield 9, 3) := by decide +kernel
theorem dX2_circles_73 : decode cX2_circles 73 = .ok (.iload_n 2, 1) := by decide +kernel
theorem dX2_circles_74 : decode cX2_circles 74 = .ok (.dup2, 1) := by decide +kernel
theorem dX2_circles_75 : decode cX2_circles 75 = .ok (.iaload, 1) := by decide +kernel
theorem dX2_circles_76 : decode cX2_circles 76 = .ok (.aload_n 0, 1) := by decide +kernel
theorem dX2_circles_77 : decode cX2_circles 77 = .ok (.getfield 9, 3) := by decide +kernel
theorem dX2_circles_80 : decode cX2_circles 80 = .ok (.iload_n 1, 1) := by decide +kernel
theorem dX2_circles_81 : decode cX2_circles 81 = .ok (.iaload, 1) := by decide +kernel
theorem dX2_circles_82 : decode cX2_circles 82 = .ok (.ior, 1) := by decide +kernel
theorem dX2_circles_83 : decode cX2_circles 83 = .ok (.iastore, 1) := by decide +kernel
theorem dX2_circles_84 : decode cX2_circles 84 = .ok (.iinc 2 1, 3) := by decide +kernel
theorem dX2_circles_87 : decode cX2_circles 87 = .ok (.goto (-37), 3) := by decide +kernel
theorem dX2_circles_90 : decode cX2_circles 90 = .ok (.iinc 1 1, 3) := by decide +kernel
theorem dX2_circles_93 : decode cX2_circles 93 = .ok (.goto (-51), 3) := by decide +kernel
theorem dX2_circles_96 : decode cX2_circles 96 = .ok (.iconst 0, 1) := by decide +kernel
theorem dX2_circles_97 : decode cX2_circles 97 = .ok (.istore_n 1, 1) := by decide +kernel
theorem dX2_circles_98 : decode cX2_circles 98 = .ok (.iconst 0, 1) := by decide +kernel
theorem dX2_circles_99 : decode cX2_circles 99 = .ok (.istore_n 2, 1) := by decide +kernel
theorem dX2_circles_100 : decode cX2_circles 100 = .ok (.iload_n 2, 1) := by decide +kernel
theorem dX2_circles_101 : decode cX2_circles 101 = .ok (.bipush 10, 2) := by decide +kernel
theorem dX2_circles_103 : decode cX2_circles 103 = .ok (.if_icmp .ge 28, 3) := by decide +kernel
theorem dX2_circles_106 : decode cX2_circles 106 = .ok (.aload_n 0, 1) := by decide +kernel
theorem dX2_circles_107 : decode cX2_circles 107 = .ok (.getfield 9, 3) := by decide +kernel
theorem dX2_circles_110 : decode cX2_circles 110 = .ok (.iload_n 2, 1) := by decide +kernel
theorem dX2_circles_111 : decode cX2_circles 111 = .ok (.iaload, 1) := by decide +kernel
theorem dX2_circles_112 : decode cX2_circles 112 = .ok (.iload_n 2, 1) := by decide +kernel
theorem dX2_circles_113 : decode cX2_circles 113 = .ok (.invokestatic 76, 3) := by decide +kernel
theorem dX2_circles_116 : decode cX2_circles 116 = .ok (.ifCond .eq 9, 3) := by decide +kernel
theorem dX2_circles_119 : decode cX2_circles 119 = .ok (.iload_n 1, 1) := by decide +kernel
theorem dX2_circles_120 : decode cX2_circles 120 = .ok (.iconst 1, 1) := by decide +kernel
theorem dX2_circles_121 : decode cX2_circles 121 = .ok (.iload_n 2, 1) := by decide +kernel
theorem dX2_circles_122 : decode cX2_circles 122 = .ok (.ishl, 1) := by decide +kernel
theorem dX2_circles_123 : decode cX2_circles 123 = .ok (.ior, 1) := by decide +kernel
theorem dX2_circles_124 : decode cX2_circles 124 = .ok (.istore_n 1, 1) := by decide +kernel
theorem dX2_circles_125 : decode cX2_circles 125 = .ok (.iinc 2 1, 3) := by decide +kernel
theorem dX2_circles_128 : decode cX2_circles 128 = .ok (.goto (-28), 3) := by decide +kernel
theorem dX2_circles_131 : decode cX2_circles 131 = .ok (.iload_n 1, 1) := by decide +kernel
theorem dX2_circles_132 : decode cX2_circles 132 = .ok (.ireturn, 1) := by decide +kernel
theorem dX2_smallestKey_0 : decode cX2_smallestKey 0 = .ok (.iconst 0, 1) := by decide +kernel
theorem dX2_smallestKey_1 : decode cX2_smallestKey 1 = .ok (.istore_n 1, 1) := by decide +kernel
theorem dX2_smallestKey_2 : decode cX2_smallestKey 2 = .ok (.iload_n 1, 1) := by decide +kernel
theorem dX2_smallestKey_3 : decode cX2_smallestKey 3 = .ok (.bipush 10, 2) := by decide +kernel
theorem dX2_smallestKey_5 : decode cX2_smallestKey 5 = .ok (.if_icmp .gt 55, 3) := by decide +kernel
theorem dX2_smallestKey_8 : decode cX2_smallestKey 8 = .ok (.iconst 0, 1) := by decide +kernel
theorem dX2_smallestKey_9 : decode cX2_smallestKey 9 = .ok (.istore_n 2, 1) := by decide +kernel
theorem dX2_smallestKey_10 : decode cX2_smallestKey 10 = .ok (.iload_n 2, 1) := by decide +kernel
theorem dX2_smallestKey_11 : decode cX2_smallestKey 11 = .ok (.sipush 1024, 3) := by decide +kernel
theorem dX2_smallestKey_14 : decode cX2_smallestKey 14 = .ok (.if_icmp .ge 40, 3) := by decide +kernel
theorem dX2_smallestKey_17 : decode cX2_smallestKey 17 = .ok (.iload_n 2, 1) := by decide +kernel
theorem dX2_smallestKey_18 : decode cX2_smallestKey 18 = .ok (.aload_n 0, 1) := by decide +kernel
theorem dX2_smallestKey_19 : decode cX2_smallestKey 19 = .ok (.getfield 15, 3) := by decide +kernel
theorem dX2_smallestKey_22 : decode cX2_smallestKey 22 = .ok (.getfield 23, 3) := by decide +kernel
theorem dX2_smallestKey_25 : decode cX2_smallestKey 25 = .ok (.iand, 1) := by decide +kernel
theorem dX2_smallestKey_26 : decode cX2_smallestKey 26 = .ok (.iload_n 2, 1) := by decide +kernel
theorem dX2_smallestKey_27 : decode cX2_smallestKey 27 = .ok (.if_icmp .ne 21, 3) := by decide +kernel
theorem dX2_smallestKey_30 : decode cX2_smallestKey 30 = .ok (.iload_n 2, 1) := by decide +kernel
theorem dX2_smallestKey_31 : decode cX2_smallestKey 31 = .ok (.invokestatic 80, 3) := by decide +kernel
theorem dX2_smallestKey_34 : decode cX2_smallestKey 34 = .ok (.iload_n 1, 1) := by decide +kernel
theorem dX2_smallestKey_35 : decode cX2_smallestKey 35 = .ok (.if_icmp .ne 13, 3) := by decide +kernel
theorem dX2_smallestKey_38 : decode cX2_smallestKey 38 = .ok (.aload_n 0, 1) := by decide +kernel
theorem dX2_smallestKey_39 : decode cX2_smallestKey 39 = .ok (.iload_n 2, 1) := by decide +kernel
theorem dX2_smallestKey_40 : decode cX2_smallestKey 40 = .ok (.invokevirtual 85, 3) := by decide +kernel
theorem dX2_smallestKey_43 : decode cX2_smallestKey 43 = .ok (.ifCond .eq 5, 3) := by decide +kernel
theorem dX2_smallestKey_46 : decode cX2_smallestKey 46 = .ok (.iload_n 2, 1) := by decide +kernel
theorem dX2_smallestKey_47 : decode cX2_smallestKey 47 = .ok (.ireturn, 1) := by decide +kernel
theorem dX2_smallestKey_48 : decode cX2_smallestKey 48 = .ok (.iinc 2 1, 3) := by decide +kernel
theorem dX2_smallestKey_51 : decode cX2_smallestKey 51 = .ok (.goto (-41), 3) := by decide +kernel
theorem dX2_smallestKey_54 : decode cX2_smallestKey 54 = .ok (.iinc 1 1, 3) := by decide +kernel
theorem dX2_smallestKey_57 : decode cX2_smallestKey 57 = .ok (.goto (-55), 3) := by decide +kernel
theorem dX2_smallestKey_60 : decode cX2_smallestKey 60 = .ok (.aload_n 0, 1) := by decide +kernel
theorem dX2_smallestKey_61 : decode cX2_smallestKey 61 = .ok (.getfield 15, 3) := by decide +kernel
theorem dX2_smallestKey_64 : decode cX2_smallestKey 64 = .ok (.getfield 23, 3) := by decide +kernel
theorem dX2_smallestKey_67 : decode cX2_smallestKey 67 = .ok (.ireturn, 1) := by decide +kernel
theorem dX2_tellsAll_0 : decode cX2_tellsAll 0 = .ok (.iconst 0, 1) := by decide +kernel
theorem dX2_tellsAll_1 : decode cX2_tellsAll 1 = .ok (.istore_n 2, 1) := by decide +kernel
theorem dX2_tellsAll_2 : decode cX2_tellsAll 2 = .ok (.iload_n 2, 1) := by decide +kernel
theorem dX2_tellsAll_3 : decode cX2_tellsAll 3 = .ok (.bipush 10, 2) := by decide +kernel
theorem dX2_tellsAll_5 : decode cX2_tellsAll 5 = .ok (.if_icmp .ge 54, 3) := by decide +kernel
theorem dX2_tellsAll_8 : decode cX2_tellsAll 8 = .ok (.aload_n 0, 1) := by decide +kernel
theorem dX2_tellsAll_9 : decode cX2_tellsAll 9 = .ok (.getfield 15, 3) := by decide +kernel
theorem dX2_tellsAll_12 : decode cX2_tellsAll 12 = .ok (.iload_n 2, 1) := by decide +kernel
theorem dX2_tellsAll_13 : decode cX2_tellsAll 13 = .ok (.invokevirtual 69, 3) := by decide +kernel
theorem dX2_tellsAll_16 : decode cX2_tellsAll 16 = .ok (.ifCond .eq 37, 3) := by decide +kernel
theorem dX2_tellsAll_19 : decode cX2_tellsAll 19 = .ok (.iload_n 1, 1) := by decide +kernel
theorem dX2_tellsAll_20 : decode cX2_tellsAll 20 = .ok (.iload_n 2, 1) := by decide +kernel
theorem dX2_tellsAll_21 : decode cX2_tellsAll 21 = .ok (.invokestatic 76, 3) := by decide +kernel
theorem dX2_tellsAll_24 : decode cX2_tellsAll 24 = .ok (.ifCond .ne 29, 3) := by decide +kernel
theorem dX2_tellsAll_27 : decode cX2_tellsAll 27 = .ok (.aload_n 0, 1) := by decide +kernel
theorem dX2_tellsAll_28 : decode cX2_tellsAll 28 = .ok (.getfield 19, 3) := by decide +kernel
theorem dX2_tellsAll_31 : decode cX2_tellsAll 31 = .ok (.iload_n 1, 1) := by decide +kernel
theorem dX2_tellsAll_32 : decode cX2_tellsAll 32 = .ok (.invokevirtual 33, 3) := by decide +kernel
theorem dX2_tellsAll_35 : decode cX2_tellsAll 35 = .ok (.aload_n 0, 1) := by decide +kernel
theorem dX2_tellsAll_36 : decode cX2_tellsAll 36 = .ok (.getfield 15, 3) := by decide +kernel
theorem dX2_tellsAll_39 : decode cX2_tellsAll 39 = .ok (.iload_n 2, 1) := by decide +kernel
theorem dX2_tellsAll_40 : decode cX2_tellsAll 40 = .ok (.invokevirtual 39, 3) := by decide +kernel
theorem dX2_tellsAll_43 : decode cX2_tellsAll 43 = .ok (.invokevirtual 43, 3) := by decide +kernel
theorem dX2_tellsAll_46 : decode cX2_tellsAll 46 = .ok (.bipush (-2), 2) := by decide +kernel
theorem dX2_tellsAll_48 : decode cX2_tellsAll 48 = .ok (.if_icmp .ne 5, 3) := by decide +kernel
theorem dX2_tellsAll_51 : decode cX2_tellsAll 51 = .ok (.iconst 0, 1) := by decide +kernel
theorem dX2_tellsAll_52 : decode cX2_tellsAll 52 = .ok (.ireturn, 1) := by decide +kernel
theorem dX2_tellsAll_53 : decode cX2_tellsAll 53 = .ok (.iinc 2 1, 3) := by decide +kernel
theorem dX2_tellsAll_56 : decode cX2_tellsAll 56 = .ok (.goto (-54), 3) := by decide +kernel
theorem dX2_tellsAll_59 : decode cX2_tellsAll 59 = .ok (.iconst 1, 1) := by decide +kernel
theorem dX2_tellsAll_60 : decode cX2_tellsAll 60 = .ok (.ireturn, 1) := by decide +kernel
theorem dX3_init_0 : decode cX3_init 0 = .ok (.aload_n 0, 1) := by decide +kernel
theorem dX3_init_1 : decode cX3_init 1 = .ok (.invokespecial 3, 3) := by decide +kernel
theorem dX3_init_4 : decode cX3_init 4 = .ok (.aload_n 0, 1) := by decide +kernel
theorem dX3_init_5 : decode cX3_init 5 = .ok (.bipush 10, 2) := by decide +kernel
theorem dX3_init_7 : decode cX3_init 7 = .ok (.newarray .int, 2) := by decide +kernel
theorem dX3_init_9 : decode cX3_init 9 = .ok (.putfield 9, 3) := by decide +kernel
theorem dX3_init_12 : decode cX3_init 12 = .ok (.aload_n 0, 1) := by decide +kernel
theorem dX3_init_13 : decode cX3_init 13 = .ok (.bipush 10, 2) := by decide +kernel
theorem dX3_init_15 : decode cX3_init 15 = .ok (.newarray .int, 2) := by decide +kernel
theorem dX3_init_17 : decode cX3_init 17 = .ok (.putfield 15, 3) := by decide +kernel
theorem dX3_init_20 : decode cX3_init 20 = .ok (.aload_n 0, 1) := by decide +kernel
theorem dX3_init_21 : decode cX3_init 21 = .ok (.bipush 10, 2) := by decide +kernel
theorem dX3_init_23 : decode cX3_init 23 = .ok (.newarray .int, 2) := by decide +kernel
theorem dX3_init_25 : decode cX3_init 25 = .ok (.putfield 18, 3) := by decide +kernel
theorem dX3_init_28 : decode cX3_init 28 = .ok (.aload_n 0, 1) := by decide +kernel
theorem dX3_init_29 : decode cX3_init 29 = .ok (.bipush 10, 2) := by decide +kernel
theorem dX3_init_31 : decode cX3_init 31 = .ok (.newarray .int, 2) := by decide +kernel
theorem dX3_init_33 : decode cX3_init 33 = .ok (.putfield 21, 3) := by decide +kernel
theorem dX3_init_36 : decode cX3_init 36 = .ok (.return_, 1) := by decide +kernel
theorem dX3_add_0 : decode cX3_add 0 = .ok (.aload_n 0, 1) := by decide +kernel
theorem dX3_add_1 : decode cX3_add 1 = .ok (.getfield 24, 3) := by decide +kernel
theorem dX3_add_4 : decode cX3_add 4 = .ok (.ifCond .lt 12, 3) := by decide +kernel
theorem dX3_add_7 : decode cX3_add 7 = .ok (.aload_n 0, 1) := by decide +kernel
theorem dX3_add_8 : decode cX3_add 8 = .ok (.getfield 24, 3) := by decide +kernel
theorem dX3_add_11 : decode cX3_add 11 = .ok (.bipush 10, 2) := by decide +kernel
theorem dX3_add_13 : decode cX3_add 13 = .ok (.if_icmp .lt 5, 3) := by decide +kernel
theorem dX3_add_16 : decode cX3_add 16 = .ok (.iconst (-1), 1) := by decide +kernel
theorem dX3_add_17 : decode cX3_add 17 = .ok (.ireturn, 1) := by decide +kernel
theorem dX3_add_18 : decode cX3_add 18 = .ok (.aload_n 0, 1) := by decide +kernel
theorem dX3_add_19 : decode cX3_add 19 = .ok (.getfield 9, 3) := by decide +kernel
theorem dX3_add_22 : decode cX3_add 22 = .ok (.aload_n 0, 1) := by decide +kernel
theorem dX3_add_23 : decode cX3_add 23 = .ok (.getfield 24, 3) := by decide +kernel
theorem dX3_add_26 : decode cX3_add 26 = .ok (.iload_n 1, 1) := by decide +kernel
theorem dX3_add_27 : decode cX3_add 27 = .ok (.iastore, 1) := by decide +kernel
theorem dX3_add_28 : decode cX3_add 28 = .ok (.aload_n 0, 1) := by decide +kernel
theorem dX3_add_29 : decode cX3_add 29 = .ok (.getfield 15, 3) := by decide +kernel
theorem dX3_add_32 : decode cX3_add 32 = .ok (.aload_n 0, 1) := by decide +kernel
theorem dX3_add_33 : decode cX3_add 33 = .ok (.getfield 24, 3) := by decide +kernel
theorem dX3_add_36 : decode cX3_add 36 = .ok (.iload_n 2, 1) := by decide +kernel
theorem dX3_add_37 : decode cX3_add 37 = .ok (.iastore, 1) := by decide +kernel
theorem dX3_add_38 : decode cX3_add 38 = .ok (.aload_n 0, 1) := by decide +kernel
theorem dX3_add_39 : decode cX3_add 39 = .ok (.getfield 18, 3) := by decide +kernel
theorem dX3_add_42 : decode cX3_add 42 = .ok (.aload_n 0, 1) := by decide +kernel
theorem dX3_add_43 : decode cX3_add 43 = .ok (.getfield 24, 3) := by decide +kernel
theorem dX3_add_46 : decode cX3_add 46 = .ok (.iload_n 3, 1) := by decide +kernel
theorem dX3_add_47 : decode cX3_add 47 = .ok (.iastore, 1) := by decide +kernel
theorem dX3_add_48 : decode cX3_add 48 = .ok (.aload_n 0, 1) := by decide +kernel
theorem dX3_add_49 : decode cX3_add 49 = .ok (.getfield 21, 3) := by decide +kernel
theorem dX3_add_52 : decode cX3_add 52 = .ok (.aload_n 0, 1) := by decide +kernel
theorem dX3_add_53 : decode cX3_add 53 = .ok (.getfield 24, 3) := by decide +kernel
theorem dX3_add_56 : decode cX3_add 56 = .ok (.iconst (-1), 1) := by decide +kernel
theorem dX3_add_57 : decode cX3_add 57 = .ok (.iastore, 1) := by decide +kernel
theorem dX3_add_58 : decode cX3_add 58 = .ok (.aload_n 0, 1) := by decide +kernel
theorem dX3_add_59 : decode cX3_add 59 = .ok (.dup, 1) := by decide +kernel
theorem dX3_add_60 : decode cX3_add 60 = .ok (.getfield 28, 3) := by decide +kernel
theorem dX3_add_63 : decode cX3_add 63 = .ok (.iconst 1, 1) := by decide +kernel
theorem dX3_add_64 : decode cX3_add 64 = .ok (.aload_n 0, 1) := by decide +kernel
theorem dX3_add_65 : decode cX3_add 65 = .ok (.getfield 24, 3) := by decide +kernel
theorem dX3_add_68 : decode cX3_add 68 = .ok (.ishl, 1) := by decide +kernel
theorem dX3_add_69 : decode cX3_add 69 = .ok (.ior, 1) := by decide +kernel
theorem dX3_add_70 : decode cX3_add 70 = .ok (.putfield 28, 3) := by decide +kernel
theorem dX3_add_73 : decode cX3_add 73 = .ok (.aload_n 0, 1) := by decide +kernel
theorem dX3_add_74 : decode cX3_add 74 = .ok (.dup, 1) := by decide +kernel
theorem dX3_add_75 : decode cX3_add 75 = .ok (.getfield 24, 3) := by decide +kernel
theorem dX3_add_78 : decode cX3_add 78 = .ok (.iconst 1, 1) := by decide +kernel
theorem dX3_add_79 : decode cX3_add 79 = .ok (.iadd, 1) := by decide +kernel
theorem dX3_add_80 : decode cX3_add 80 = .ok (.putfield 24, 3) := by decide +kernel
theorem dX3_add_83 : decode cX3_add 83 = .ok (.aload_n 0, 1) := by decide +kernel
theorem dX3_add_84 : decode cX3_add 84 = .ok (.getfield 24, 3) := by decide +kernel
theorem dX3_add_87 : decode cX3_add 87 = .ok (.iconst 1, 1) := by decide +kernel
theorem dX3_add_88 : decode cX3_add 88 = .ok (.isub, 1) := by decide +kernel
theorem dX3_add_89 : decode cX3_add 89 = .ok (.ireturn, 1) := by decide +kernel
theorem dX3_strikeOut_0 : decode cX3_strikeOut 0 = .ok (.aload_n 0, 1) := by decide +kernel
theorem dX3_strikeOut_1 : decode cX3_strikeOut 1 = .ok (.getfield 28, 3) := by decide +kernel
theorem dX3_strikeOut_4 : decode cX3_strikeOut 4 = .ok (.iload_n 1, 1) := by decide +kernel
theorem dX3_strikeOut_5 : decode cX3_strikeOut 5 = .ok (.invokestatic 31, 3) := by decide +kernel
theorem dX3_strikeOut_8 : decode cX3_strikeOut 8 = .ok (.ifCond .ne 5, 3) := by decide +kernel
theorem dX3_strikeOut_11 : decode cX3_strikeOut 11 = .ok (.iconst (-1), 1) := by decide +kernel
theorem dX3_strikeOut_12 : decode cX3_strikeOut 12 = .ok (.ireturn, 1) := by decide +kernel
theorem dX3_strikeOut_13 : decode cX3_strikeOut 13 = .ok (.aload_n 0, 1) := by decide +kernel
theorem dX3_strikeOut_14 : decode cX3_strikeOut 14 = .ok (.getfield 21, 3) := by decide +kernel
theorem dX3_strikeOut_17 : decode cX3_strikeOut 17 = .ok (.iload_n 1, 1) := by decide +kernel
theorem dX3_strikeOut_18 : decode cX3_strikeOut 18 = .ok (.aload_n 0, 1) := by decide +kernel
theorem dX3_strikeOut_19 : decode cX3_strikeOut 19 = .ok (.getfield 35, 3) := by decide +kernel
theorem dX3_strikeOut_22 : decode cX3_strikeOut 22 = .ok (.iastore, 1) := by decide +kernel
theorem dX3_strikeOut_23 : decode cX3_strikeOut 23 = .ok (.aload_n 0, 1) := by decide +kernel
theorem dX3_strikeOut_24 : decode cX3_strikeOut 24 = .ok (.aload_n 0, 1) := by decide +kernel
theorem dX3_strikeOut_25 : decode cX3_strikeOut 25 = .ok (.getfield 28, 3) := by decide +kernel
theorem dX3_strikeOut_28 : decode cX3_strikeOut 28 = .ok (.iload_n 1, 1) := by decide +kernel
theorem dX3_strikeOut_29 : decode cX3_strikeOut 29 = .ok (.invokestatic 38, 3) := by decide +kernel
theorem dX3_strikeOut_32 : decode cX3_strikeOut 32 = .ok (.putfield 28, 3) := by decide +kernel
theorem dX3_strikeOut_35 : decode cX3_strikeOut 35 = .ok (.aload_n 0, 1) := by decide +kernel
theorem dX3_strikeOut_36 : decode cX3_strikeOut 36 = .ok (.dup, 1) := by decide +kernel
theorem dX3_strikeOut_37 : decode cX3_strikeOut 37 = .ok (.getfield 35, 3) := by decide +kernel
theorem dX3_strikeOut_40 : decode cX3_strikeOut 40 = .ok (.iconst 1, 1) := by decide +kernel
theorem dX3_strikeOut_41 : decode cX3_strikeOut 41 = .ok (.iadd, 1) := by decide +kernel
theorem dX3_strikeOut_42 : decode cX3_strikeOut 42 = .ok (.putfield 35, 3) := by decide +kernel
theorem dX3_strikeOut_45 : decode cX3_strikeOut 45 = .ok (.aload_n 0, 1) := by decide +kernel
theorem dX3_strikeOut_46 : decode cX3_strikeOut 46 = .ok (.getfield 35, 3) := by decide +kernel
theorem dX3_strikeOut_49 : decode cX3_strikeOut 49 = .ok (.iconst 1, 1) := by decide +kernel
theorem dX3_strikeOut_50 : decode cX3_strikeOut 50 = .ok (.isub, 1) := by decide +kernel
theorem dX3_strikeOut_51 : decode cX3_strikeOut 51 = .ok (.ireturn, 1) := by decide +kernel
theorem dX3_all_0 : decode cX3_all 0 = .ok (.iconst 1, 1) := by decide +kernel
theorem dX3_all_1 : decode cX3_all 1 = .ok (.aload_n 0, 1) := by decide +kernel
theorem dX3_all_2 : decode cX3_all 2 = .ok (.getfield 24, 3) := by decide +kernel
theorem dX3_all_5 : decode cX3_all 5 = .ok (.ishl, 1) := by decide +kernel
theorem dX3_all_6 : decode cX3_all 6 = .ok (.iconst 1, 1) := by decide +kernel
theorem dX3_all_7 : decode cX3_all 7 = .ok (.isub, 1) := by decide +kernel
theorem dX3_all_8 : decode cX3_all 8 = .ok (.ireturn, 1) := by decide +kernel
theorem dX3_isTongue_0 : decode cX3_isTongue 0 = .ok (.iload_n 1, 1) := by decide +kernel
theorem dX3_isTongue_1 : decode cX3_isTongue 1 = .ok (.iconst 0, 1) := by decide +kernel
theorem dX3_isTongue_2 : decode cX3_isTongue 2 = .ok (.aload_n 0, 1) := by decide +kernel
theorem dX3_isTongue_3 : decode cX3_isTongue 3 = .ok (.invokevirtual 42, 3) := by decide +kernel
theorem dX3_isTongue_6 : decode cX3_isTongue 6 = .ok (.invokestatic 46, 3) := by decide +kernel
theorem dX3_isTongue_9 : decode cX3_isTongue 9 = .ok (.ireturn, 1) := by decide +kernel
theorem dX3_isPlain_0 : decode cX3_isPlain 0 = .ok (.aload_n 0, 1) := by decide +kernel
theorem dX3_isPlain_1 : decode cX3_isPlain 1 = .ok (.invokevirtual 42, 3) := by decide +kernel
theorem dX3_isPlain_4 : decode cX3_isPlain 4 = .ok (.iload_n 1, 1) := by decide +kernel
theorem dX3_isPlain_5 : decode cX3_isPlain 5 = .ok (.invokestatic 31, 3) := by decide +kernel
theorem dX3_isPlain_8 : decode cX3_isPlain 8 = .ok (.ifCond .eq 16, 3) := by decide +kernel
theorem dX3_isPlain_11 : decode cX3_isPlain 11 = .ok (.aload_n 0, 1) := by decide +kernel
theorem dX3_isPlain_12 : decode cX3_isPlain 12 = .ok (.getfield 9, 3) := by decide +kernel
theorem dX3_isPlain_15 : decode cX3_isPlain 15 = .ok (.iload_n 1, 1) := by decide +kernel
theorem dX3_isPlain_16 : decode cX3_isPlain 16 = .ok (.iaload, 1) := by decide +kernel
theorem dX3_isPlain_17 : decode cX3_isPlain 17 = .ok (.ifCond .ne 7, 3) := by decide +kernel
theorem dX3_isPlain_20 : decode cX3_isPlain 20 = .ok (.iconst 1, 1) := by decide +kernel
theorem dX3_isPlain_21 : decode cX3_isPlain 21 = .ok (.goto 4, 3) := by decide +kernel
theorem dX3_isPlain_24 : decode cX3_isPlain 24 = .ok (.iconst 0, 1) := by decide +kernel
theorem dX3_isPlain_25 : decode cX3_isPlain 25 = .ok (.ireturn, 1) := by decide +kernel
theorem dX3_isPlainInUse_0 : decode cX3_isPlainInUse 0 = .ok (.aload_n 0, 1) := by decide +kernel
theorem dX3_isPlainInUse_1 : decode cX3_isPlainInUse 1 = .ok (.getfield 28, 3) := by decide +kernel
theorem dX3_isPlainInUse_4 : decode cX3_isPlainInUse 4 = .ok (.iload_n 1, 1) := by decide +kernel
theorem dX3_isPlainInUse_5 : decode cX3_isPlainInUse 5 = .ok (.invokestatic 31, 3) := by decide +kernel
theorem dX3_isPlainInUse_8 : decode cX3_isPlainInUse 8 = .ok (.ifCond .eq 16, 3) := by decide +kernel
theorem dX3_isPlainInUse_11 : decode cX3_isPlainInUse 11 = .ok (.aload_n 0, 1) := by decide +kernel
theorem dX3_isPlainInUse_12 : decode cX3_isPlainInUse 12 = .ok (.getfield 9, 3) := by decide +kernel
theorem dX3_isPlainInUse_15 : decode cX3_isPlainInUse 15 = .ok (.iload_n 1, 1) := by decide +kernel
theorem dX3_isPlainInUse_16 : decode cX3_isPlainInUse 16 = .ok (.iaload, 1) := by decide +kernel
theorem dX3_isPlainInUse_17 : decode cX3_isPlainInUse 17 = .ok (.ifCond .ne 7, 3) := by decide +kernel
theorem dX3_isPlainInUse_20 : decode cX3_isPlainInUse 20 = .ok (.iconst 1, 1) := by decide +kernel
theorem dX3_isPlainInUse_21 : decode cX3_isPlainInUse 21 = .ok (.goto 4, 3) := by decide +kernel
theorem dX3_isPlainInUse_24 : decode cX3_isPlainInUse 24 = .ok (.iconst 0, 1) := by decide +kernel
theorem dX3_isPlainInUse_25 : decode cX3_isPlainInUse 25 = .ok (.ireturn, 1) := by decide +kernel
theorem dX3_meaningOf_0 : decode cX3_meaningOf 0 = .ok (.aload_n 0, 1) := by decide +kernel
theorem dX3_meaningOf_1 : decode cX3_meaningOf 1 = .ok (.invokevirtual 42, 3) := by decide +kernel
theorem dX3_meaningOf_4 : decode cX3_meaningOf 4 = .ok (.iload_n 1, 1) := by decide +kernel
theorem dX3_meaningOf_5 : decode cX3_meaningOf 5 = .ok (.invokestatic 31, 3) := by decide +kernel
theorem dX3_meaningOf_8 : decode cX3_meaningOf 8 = .ok (.ifCond .eq 15, 3) := by decide +kernel
theorem dX3_meaningOf_11 : decode cX3_meaningOf 11 = .ok (.aload_n 0, 1) := by decide +kernel
theorem dX3_meaningOf_12 : decode cX3_meaningOf 12 = .ok (.getfield 15, 3) := by decide +kernel
theorem dX3_meaningOf_15 : decode cX3_meaningOf 15 = .ok (.iload_n 1, 1) := by decide +kernel
theorem dX3_meaningOf_16 : decode cX3_meaningOf 16 = .ok (.iaload, 1) := by decide +kernel
theorem dX3_meaningOf_17 : decode cX3_meaningOf 17 = .ok (.bipush 63, 2) := by decide +kernel
theorem dX3_meaningOf_19 : decode cX3_meaningOf 19 = .ok (.iand, 1) := by decide +kernel
theorem dX3_meaningOf_20 : decode cX3_meaningOf 20 = .ok (.goto 4, 3) := by decide +kernel
theorem dX3_meaningOf_23 : decode cX3_meaningOf 23 = .ok (.iconst 0, 1) := by decide +kernel
theorem dX3_meaningOf_24 : decode cX3_meaningOf 24 = .ok (.ireturn, 1) := by decide +kernel
theorem dX3_lengthOf_0 : decode cX3_lengthOf 0 = .ok (.aload_n 0, 1) := by decide +kernel
theorem dX3_lengthOf_1 : decode cX3_lengthOf 1 = .ok (.invokevirtual 42, 3) := by decide +kernel
theorem dX3_lengthOf_4 : decode cX3_lengthOf 4 = .ok (.iload_n 1, 1) := by decide +kernel
theorem dX3_lengthOf_5 : decode cX3_lengthOf 5 = .ok (.invokestatic 31, 3) := by decide +kernel
theorem dX3_lengthOf_8 : decode cX3_lengthOf 8 = .ok (.ifCond .eq 12, 3) := by decide +kernel
theorem dX3_lengthOf_11 : decode cX3_lengthOf 11 = .ok (.aload_n 0, 1) := by decide +kernel
theorem dX3_lengthOf_12 : decode cX3_lengthOf 12 = .ok (.getfield 18, 3) := by decide +kernel
theorem dX3_lengthOf_15 : decode cX3_lengthOf 15 = .ok (.iload_n 1, 1) := by decide +kernel
theorem dX3_lengthOf_16 : decode cX3_lengthOf 16 = .ok (.iaload, 1) := by decide +kernel
theorem dX3_lengthOf_17 : decode cX3_lengthOf 17 = .ok (.goto 4, 3) := by decide +kernel
theorem dX3_lengthOf_20 : decode cX3_lengthOf 20 = .ok (.iconst 0, 1) := by decide +kernel
theorem dX3_lengthOf_21 : decode cX3_lengthOf 21 = .ok (.ireturn, 1) := by decide +kernel
theorem dX3_yearOf_0 : decode cX3_yearOf 0 = .ok (.aload_n 0, 1) := by decide +kernel
theorem dX3_yearOf_1 : decode cX3_yearOf 1 = .ok (.invokevirtual 42, 3) := by decide +kernel
theorem dX3_yearOf_4 : decode cX3_yearOf 4 = .ok (.iload_n 1, 1) := by decide +kernel
theorem dX3_yearOf_5 : decode cX3_yearOf 5 = .ok (.invokestatic 31, 3) := by decide +kernel
theorem dX3_yearOf_8 : decode cX3_yearOf 8 = .ok (.ifCond .eq 12, 3) := by decide +kernel
theorem dX3_yearOf_11 : decode cX3_yearOf 11 = .ok (.aload_n 0, 1) := by decide +kernel
theorem dX3_yearOf_12 : decode cX3_yearOf 12 = .ok (.getfield 21, 3) := by decide +kernel
theorem dX3_yearOf_15 : decode cX3_yearOf 15 = .ok (.iload_n 1, 1) := by decide +kernel
theorem dX3_yearOf_16 : decode cX3_yearOf 16 = .ok (.iaload, 1) := by decide +kernel
theorem dX3_yearOf_17 : decode cX3_yearOf 17 = .ok (.goto 4, 3) := by decide +kernel
theorem dX3_yearOf_20 : decode cX3_yearOf 20 = .ok (.iconst (-1), 1) := by decide +kernel
theorem dX3_yearOf_21 : decode cX3_yearOf 21 = .ok (.ireturn, 1) := by decide +kernel
theorem dX3_shortestOf_0 : decode cX3_shortestOf 0 = .ok (.iconst (-1), 1) := by decide +kernel
theorem dX3_shortestOf_1 : decode cX3_shortestOf 1 = .ok (.istore_n 3, 1) := by decide +kernel
theorem dX3_shortestOf_2 : decode cX3_shortestOf 2 = .ok (.ldc 50, 2) := by decide +kernel
theorem dX3_shortestOf_4 : decode cX3_shortestOf 4 = .ok (.istore 4, 2) := by decide +kernel
theorem dX3_shortestOf_6 : decode cX3_shortestOf 6 = .ok (.iconst 0, 1) := by decide +kernel
theorem dX3_shortestOf_7 : decode cX3_shortestOf 7 = .ok (.istore 5, 2) := by decide +kernel
theorem dX3_shortestOf_9 : decode cX3_shortestOf 9 = .ok (.iload 5, 2) := by decide +kernel
theorem dX3_shortestOf_11 : decode cX3_shortestOf 11 = .ok (.bipush 10, 2) := by decide +kernel
theorem dX3_shortestOf_13 : decode cX3_shortestOf 13 = .ok (.if_icmp .ge 53, 3) := by decide +kernel
theorem dX3_shortestOf_16 : decode cX3_shortestOf 16 = .ok (.iload_n 2, 1) := by decide +kernel
theorem dX3_shortestOf_17 : decode cX3_shortestOf 17 = .ok (.iload 5, 2) := by decide +kernel
theorem dX3_shortestOf_19 : decode cX3_shortestOf 19 = .ok (.invokestatic 31, 3) := by decide +kernel
theorem dX3_shortestOf_22 : decode cX3_shortestOf 22 = .ok (.ifCond .eq 38, 3) := by decide +kernel
theorem dX3_shortestOf_25 : decode cX3_shortestOf 25 = .ok (.aload_n 0, 1) := by decide +kernel
theorem dX3_shortestOf_26 : decode cX3_shortestOf 26 = .ok (.getfield 9, 3) := by decide +kernel
theorem dX3_shortestOf_29 : decode cX3_shortestOf 29 = .ok (.iload 5, 2) := by decide +kernel
theorem dX3_shortestOf_31 : decode cX3_shortestOf 31 = .ok (.iaload, 1) := by decide +kernel
theorem dX3_shortestOf_32 : decode cX3_shortestOf 32 = .ok (.iload_n 1, 1) := by decide +kernel
theorem dX3_shortestOf_33 : decode cX3_shortestOf 33 = .ok (.if_icmp .ne 27, 3) := by decide +kernel
theorem dX3_shortestOf_36 : decode cX3_shortestOf 36 = .ok (.aload_n 0, 1) := by decide +kernel
theorem dX3_shortestOf_37 : decode cX3_shortestOf 37 = .ok (.getfield 18, 3) := by decide +kernel
theorem dX3_shortestOf_40 : decode cX3_shortestOf 40 = .ok (.iload 5, 2) := by decide +kernel
theorem dX3_shortestOf_42 : decode cX3_shortestOf 42 = .ok (.iaload, 1) := by decide +kernel
theorem dX3_shortestOf_43 : decode cX3_shortestOf 43 = .ok (.iload 4, 2) := by decide +kernel
theorem dX3_shortestOf_45 : decode cX3_shortestOf 45 = .ok (.if_icmp .ge 15, 3) := by decide +kernel
theorem dX3_shortestOf_48 : decode cX3_shortestOf 48 = .ok (.iload 5, 2) := by decide +kernel
theorem dX3_shortestOf_50 : decode cX3_shortestOf 50 = .ok (.istore_n 3, 1) := by decide +kernel
theorem dX3_shortestOf_51 : decode cX3_shortestOf 51 = .ok (.aload_n 0, 1) := by decide +kernel
theorem dX3_shortestOf_52 : decode cX3_shortestOf 52 = .ok (.getfield 18, 3) := by decide +kernel
theorem dX3_shortestOf_55 : decode cX3_shortestOf 55 = .ok (.iload 5, 2) := by decide +kernel
theorem dX3_shortestOf_57 : decode cX3_shortestOf 57 = .ok (.iaload, 1) := by decide +kernel
theorem dX3_shortestOf_58 : decode cX3_shortestOf 58 = .ok (.istore 4, 2) := by decide +kernel
theorem dX3_shortestOf_60 : decode cX3_shortestOf 60 = .ok (.iinc 5 1, 3) := by decide +kernel
theorem dX3_shortestOf_63 : decode cX3_shortestOf 63 = .ok (.goto (-54), 3) := by decide +kernel
theorem dX3_shortestOf_66 : decode cX3_shortestOf 66 = .ok (.iload_n 3, 1) := by decide +kernel
theorem dX3_shortestOf_67 : decode cX3_shortestOf 67 = .ok (.ireturn, 1) := by decide +kernel
theorem dX3_joinLength_0 : decode cX3_joinLength 0 = .ok (.aload_n 0, 1) := by decide +kernel
theorem dX3_joinLength_1 : decode cX3_joinLength 1 = .ok (.aload_n 0, 1) := by decide +kernel
theorem dX3_joinLength_2 : decode cX3_joinLength 2 = .ok (.iload_n 1, 1) := by decide +kernel
theorem dX3_joinLength_3 : decode cX3_joinLength 3 = .ok (.iload_n 2, 1) := by decide +kernel
theorem dX3_joinLength_4 : decode cX3_joinLength 4 = .ok (.invokevirtual 51, 3) := by decide +kernel
theorem dX3_joinLength_7 : decode cX3_joinLength 7 = .ok (.invokevirtual 54, 3) := by decide +kernel
theorem dX3_joinLength_10 : decode cX3_joinLength 10 = .ok (.ireturn, 1) := by decide +kernel
theorem dX4_init_0 : decode cX4_init 0 = .ok (.aload_n 0, 1) := by decide +kernel
theorem dX4_init_1 : decode cX4_init 1 = .ok (.invokespecial 3, 3) := by decide +kernel
theorem dX4_init_4 : decode cX4_init 4 = .ok (.aload_n 0, 1) := by decide +kernel
theorem dX4_init_5 : decode cX4_init 5 = .ok (.sipush 160, 3) := by decide +kernel
theorem dX4_init_8 : decode cX4_init 8 = .ok (.newarray .int, 2) := by decide +kernel
theorem dX4_init_10 : decode cX4_init 10 = .ok (.putfield 11, 3) := by decide +kernel
theorem dX4_init_13 : decode cX4_init 13 = .ok (.aload_n 0, 1) := by decide +kernel
theorem dX4_init_14 : decode cX4_init 14 = .ok (.sipush 160, 3) := by decide +kernel
theorem dX4_init_17 : decode cX4_init 17 = .ok (.newarray .int, 2) := by decide +kernel
theorem dX4_init_19 : decode cX4_init 19 = .ok (.putfield 15, 3) := by decide +kernel
theorem dX4_init_22 : decode cX4_init 22 = .ok (.aload_n 0, 1) := by decide +kernel
theorem dX4_init_23 : decode cX4_init 23 = .ok (.bipush 12, 2) := by decide +kernel
theorem dX4_init_25 : decode cX4_init 25 = .ok (.newarray .int, 2) := by decide +kernel
theorem dX4_init_27 : decode cX4_init 27 = .ok (.putfield 18, 3) := by decide +kernel
theorem dX4_init_30 : decode cX4_init 30 = .ok (.aload_n 0, 1) := by decide +kernel
theorem dX4_init_31 : decode cX4_init 31 = .ok (.bipush 12, 2) := by decide +kernel
theorem dX4_init_33 : decode cX4_init 33 = .ok (.newarray .int, 2) := by decide +kernel
theorem dX4_init_35 : decode cX4_init 35 = .ok (.putfield 21, 3) := by decide +kernel
theorem dX4_init_38 : decode cX4_init 38 = .ok (.aload_n 0, 1) := by decide +kernel
theorem dX4_init_39 : decode cX4_init 39 = .ok (.bipush 12, 2) := by decide +kernel
theorem dX4_init_41 : decode cX4_init 41 = .ok (.newarray .int, 2) := by decide +kernel
theorem dX4_init_43 : decode cX4_init 43 = .ok (.putfield 24, 3) := by decide +kernel
theorem dX4_init_46 : decode cX4_init 46 = .ok (.aload_n 0, 1) := by decide +kernel
theorem dX4_init_47 : decode cX4_init 47 = .ok (.bipush 8, 2) := by decide +kernel
theorem dX4_init_49 : decode cX4_init 49 = .ok (.newarray .int, 2) := by decide +kernel
theorem dX4_init_51 : decode cX4_init 51 = .ok (.putfield 27, 3) := by decide +kernel
theorem dX4_init_54 : decode cX4_init 54 = .ok (.aload_n 0, 1) := by decide +kernel
theorem dX4_init_55 : decode cX4_init 55 = .ok (.bipush 24, 2) := by decide +kernel
theorem dX4_init_57 : decode cX4_init 57 = .ok (.newarray .int, 2) := by decide +kernel
theorem dX4_init_59 : decode cX4_init 59 = .ok (.putfield 30, 3) := by decide +kernel
theorem dX4_init_62 : decode cX4_init 62 = .ok (.return_, 1) := by decide +kernel
theorem dX4_clear_0 : decode cX4_clear 0 = .ok (.aload_n 0, 1) := by decide +kernel
theorem dX4_clear_1 : decode cX4_clear 1 = .ok (.iconst 0, 1) := by decide +kernel
theorem dX4_clear_2 : decode cX4_clear 2 = .ok (.putfield 33, 3) := by decide +kernel
theorem dX4_clear_5 : decode cX4_clear 5 = .ok (.aload_n 0, 1) := by decide +kernel
theorem dX4_clear_6 : decode cX4_clear 6 = .ok (.iconst 0, 1) := by decide +kernel
theorem dX4_clear_7 : decode cX4_clear 7 = .ok (.putfield 37, 3) := by decide +kernel
theorem dX4_clear_10 : decode cX4_clear 10 = .ok (.return_, 1) := by decide +kernel
theorem dX4_takeOver_0 : decode cX4_takeOver 0 = .ok (.aload_n 1, 1) := by decide +kernel
theorem dX4_takeOver_1 : decode cX4_takeOver 1 = .ok (.getfield 11, 3) := by decide +kernel
theorem dX4_takeOver_4 : decode cX4_takeOver 4 = .ok (.iconst 0, 1) := by decide +kernel
theorem dX4_takeOver_5 : decode cX4_takeOver 5 = .ok (.aload_n 0, 1) := by decide +kernel
theorem dX4_takeOver_6 : decode cX4_takeOver 6 = .ok (.getfield 11, 3) := by decide +kernel
theorem dX4_takeOver_9 : decode cX4_takeOver 9 = .ok (.iconst 0, 1) := by decide +kernel
theorem dX4_takeOver_10 : decode cX4_takeOver 10 = .ok (.sipush 160, 3) := by decide +kernel
theorem dX4_takeOver_13 : decode cX4_takeOver 13 = .ok (.invokestatic 40, 3) := by decide +kernel
theorem dX4_takeOver_16 : decode cX4_takeOver 16 = .ok (.aload_n 1, 1) := by decide +kernel
theorem dX4_takeOver_17 : decode cX4_takeOver 17 = .ok (.getfield 15, 3) := by decide +kernel
theorem dX4_takeOver_20 : decode cX4_takeOver 20 = .ok (.iconst 0, 1) := by decide +kernel
theorem dX4_takeOver_21 : decode cX4_takeOver 21 = .ok (.aload_n 0, 1) := by decide +kernel
theorem dX4_takeOver_22 : decode cX4_takeOver 22 = .ok (.getfield 15, 3) := by decide +kernel
theorem dX4_takeOver_25 : decode cX4_takeOver 25 = .ok (.iconst 0, 1) := by decide +kernel
theorem dX4_takeOver_26 : decode cX4_takeOver 26 = .ok (.sipush 160, 3) := by decide +kernel
theorem dX4_takeOver_29 : decode cX4_takeOver 29 = .ok (.invokestatic 40, 3) := by decide +kernel
theorem dX4_takeOver_32 : decode cX4_takeOver 32 = .ok (.aload_n 1, 1) := by decide +kernel
theorem dX4_takeOver_33 : decode cX4_takeOver 33 = .ok (.getfield 18, 3) := by decide +kernel
theorem dX4_takeOver_36 : decode cX4_takeOver 36 = .ok (.iconst 0, 1) := by decide +kernel
theorem dX4_takeOver_37 : decode cX4_takeOver 37 = .ok (.aload_n 0, 1) := by decide +kernel
theorem dX4_takeOver_38 : decode cX4_takeOver 38 = .ok (.getfield 18, 3) := by decide +kernel
theorem dX4_takeOver_41 : decode cX4_takeOver 41 = .ok (.iconst 0, 1) := by decide +kernel
theorem dX4_takeOver_42 : decode cX4_takeOver 42 = .ok (.bipush 12, 2) := by decide +kernel
theorem dX4_takeOver_44 : decode cX4_takeOver 44 = .ok (.invokestatic 40, 3) := by decide +kernel
theorem dX4_takeOver_47 : decode cX4_takeOver 47 = .ok (.aload_n 1, 1) := by decide +kernel
theorem dX4_takeOver_48 : decode cX4_takeOver 48 = .ok (.getfield 21, 3) := by decide +kernel
theorem dX4_takeOver_51 : decode cX4_takeOver 51 = .ok (.iconst 0, 1) := by decide +kernel
theorem dX4_takeOver_52 : decode cX4_takeOver 52 = .ok (.aload_n 0, 1) := by decide +kernel
theorem dX4_takeOver_53 : decode cX4_takeOver 53 = .ok (.getfield 21, 3) := by decide +kernel
theorem dX4_takeOver_56 : decode cX4_takeOver 56 = .ok (.iconst 0, 1) := by decide +kernel
theorem dX4_takeOver_57 : decode cX4_takeOver 57 = .ok (.bipush 12, 2) := by decide +kernel
theorem dX4_takeOver_59 : decode cX4_takeOver 59 = .ok (.invokestatic 40, 3) := by decide +kernel
theorem dX4_takeOver_62 : decode cX4_takeOver 62 = .ok (.aload_n 1, 1) := by decide +kernel
theorem dX4_takeOver_63 : decode cX4_takeOver 63 = .ok (.getfield 24, 3) := by decide +kernel
theorem dX4_takeOver_66 : decode cX4_takeOver 66 = .ok (.iconst 0, 1) := by decide +kernel
theorem dX4_takeOver_67 : decode cX4_takeOver 67 = .ok (.aload_n 0, 1) := by decide +kernel
theorem dX4_takeOver_68 : decode cX4_takeOver 68 = .ok (.getfield 24, 3) := by decide +kernel
theorem dX4_takeOver_71 : decode cX4_takeOver 71 = .ok (.iconst 0, 1) := by decide +kernel
theorem dX4_takeOver_72 : decode cX4_takeOver 72 = .ok (.bipush 12, 2) := by decide +kernel
theorem dX4_takeOver_74 : decode cX4_takeOver 74 = .ok (.invokestatic 40, 3) := by decide +kernel
theorem dX4_takeOver_77 : decode cX4_takeOver 77 = .ok (.aload_n 0, 1) := by decide +kernel
theorem dX4_takeOver_78 : decode cX4_takeOver 78 = .ok (.aload_n 1, 1) := by decide +kernel
theorem dX4_takeOver_79 : decode cX4_takeOver 79 = .ok (.getfield 33, 3) := by decide +kernel
theorem dX4_takeOver_82 : decode cX4_takeOver 82 = .ok (.putfield 33, 3) := by decide +kernel
theorem dX4_takeOver_85 : decode cX4_takeOver 85 = .ok (.aload_n 0, 1) := by decide +kernel
theorem dX4_takeOver_86 : decode cX4_takeOver 86 = .ok (.aload_n 1, 1) := by decide +kernel
theorem dX4_takeOver_87 : decode cX4_takeOver 87 = .ok (.getfield 37, 3) := by decide +kernel
theorem dX4_takeOver_90 : decode cX4_takeOver 90 = .ok (.putfield 37, 3) := by decide +kernel
theorem dX4_takeOver_93 : decode cX4_takeOver 93 = .ok (.return_, 1) := by decide +kernel
theorem dX4_put_0 : decode cX4_put 0 = .ok (.aload_n 0, 1) := by decide +kernel
theorem dX4_put_1 : decode cX4_put 1 = .ok (.getfield 33, 3) := by decide +kernel
theorem dX4_put_4 : decode cX4_put 4 = .ok (.ifCond .lt 13, 3) := by decide +kernel
theorem dX4_put_7 : decode cX4_put 7 = .ok (.aload_n 0, 1) := by decide +kernel
theorem dX4_put_8 : decode cX4_put 8 = .ok (.getfield 33, 3) := by decide +kernel
theorem dX4_put_11 : decode cX4_put 11 = .ok (.sipush 160, 3) := by decide +kernel
theorem dX4_put_14 : decode cX4_put 14 = .ok (.if_icmp .lt 5, 3) := by decide +kernel
theorem dX4_put_17 : decode cX4_put 17 = .ok (.iconst (-1), 1) := by decide +kernel
theorem dX4_put_18 : decode cX4_put 18 = .ok (.ireturn, 1) := by decide +kernel
theorem dX4_put_19 : decode cX4_put 19 = .ok (.aload_n 0, 1) := by decide +kernel
theorem dX4_put_20 : decode cX4_put 20 = .ok (.getfield 11, 3) := by decide +kernel
theorem dX4_put_23 : decode cX4_put 23 = .ok (.aload_n 0, 1) := by decide +kernel
theorem dX4_put_24 : decode cX4_put 24 = .ok (.getfield 33, 3) := by decide +kernel
theorem dX4_put_27 : decode cX4_put 27 = .ok (.iload_n 1, 1) := by decide +kernel
theorem dX4_put_28 : decode cX4_put 28 = .ok (.iastore, 1) := by decide +kernel
theorem dX4_put_29 : decode cX4_put 29 = .ok (.aload_n 0, 1) := by decide +kernel
theorem dX4_put_30 : decode cX4_put 30 = .ok (.getfield 15, 3) := by decide +kernel
theorem dX4_put_33 : decode cX4_put 33 = .ok (.aload_n 0, 1) := by decide +kernel
theorem dX4_put_34 : decode cX4_put 34 = .ok (.getfield 33, 3) := by decide +kernel
theorem dX4_put_37 : decode cX4_put 37 = .ok (.iload_n 2, 1) := by decide +kernel
theorem dX4_put_38 : decode cX4_put 38 = .ok (.iastore, 1) := by decide +kernel
theorem dX4_put_39 : decode cX4_put 39 = .ok (.aload_n 0, 1) := by decide +kernel
theorem dX4_put_40 : decode cX4_put 40 = .ok (.dup, 1) := by decide +kernel
theorem dX4_put_41 : decode cX4_put 41 = .ok (.getfield 33, 3) := by decide +kernel
theorem dX4_put_44 : decode cX4_put 44 = .ok (.iconst 1, 1) := by decide +kernel
theorem dX4_put_45 : decode cX4_put 45 = .ok (.iadd, 1) := by decide +kernel
theorem dX4_put_46 : decode cX4_put 46 = .ok (.putfield 33, 3) := by decide +kernel
theorem dX4_put_49 : decode cX4_put 49 = .ok (.aload_n 0, 1) := by decide +kernel
theorem dX4_put_50 : decode cX4_put 50 = .ok (.getfield 33, 3) := by decide +kernel
theorem dX4_put_53 : decode cX4_put 53 = .ok (.iconst 1, 1) := by decide +kernel
theorem dX4_put_54 : decode cX4_put 54 = .ok (.isub, 1) := by decide +kernel
theorem dX4_put_55 : decode cX4_put 55 = .ok (.ireturn, 1) := by decide +kernel
theorem dX4_land_0 : decode cX4_land 0 = .ok (.iload_n 1, 1) := by decide +kernel
theorem dX4_land_1 : decode cX4_land 1 = .ok (.ifCond .lt 20, 3) := by decide +kernel
theorem dX4_land_4 : decode cX4_land 4 = .ok (.iload_n 1, 1) := by decide +kernel
theorem dX4_land_5 : decode cX4_land 5 = .ok (.sipush 160, 3) := by decide +kernel
theorem dX4_land_8 : decode cX4_land 8 = .ok (.if_icmp .ge 13, 3) := by decide +kernel
theorem dX4_land_11 : decode cX4_land 11 = .ok (.aload_n 0, 1) := by decide +kernel
theorem dX4_land_12 : decode cX4_land 12 = .ok (.getfield 15, 3) := by decide +kernel
theorem dX4_land_15 : decode cX4_land 15 = .ok (.iload_n 1, 1) := by decide +kernel
theorem dX4_land_16 : decode cX4_land 16 = .ok (.aload_n 0, 1) := by decide +kernel
theorem dX4_land_17 : decode cX4_land 17 = .ok (.getfield 33, 3) := by decide +kernel
theorem dX4_land_20 : decode cX4_land 20 = .ok (.iastore, 1) := by decide +kernel
theorem dX4_land_21 : decode cX4_land 21 = .ok (.return_, 1) := by decide +kernel
theorem dX4_startPrice_0 : decode cX4_startPrice 0 = .ok (.aload_n 0, 1) := by decide +kernel
theorem dX4_startPrice_1 : decode cX4_startPrice 1 = .ok (.getfield 37, 3) := by decide +kernel
theorem dX4_startPrice_4 : decode cX4_startPrice 4 = .ok (.ifCond .lt 25, 3) := by decide +kernel
theorem dX4_startPrice_7 : decode cX4_startPrice 7 = .ok (.aload_n 0, 1) := by decide +kernel
theorem dX4_startPrice_8 : decode cX4_startPrice 8 = .ok (.getfield 37, 3) := by decide +kernel
theorem dX4_startPrice_11 : decode cX4_startPrice 11 = .ok (.bipush 12, 2) := by decide +kernel
theorem dX4_startPrice_13 : decode cX4_startPrice 13 = .ok (.if_icmp .ge 16, 3) := by decide +kernel
theorem dX4_startPrice_16 : decode cX4_startPrice 16 = .ok (.aload_n 0, 1) := by decide +kernel
theorem dX4_startPrice_17 : decode cX4_startPrice 17 = .ok (.getfield 18, 3) := by decide +kernel
theorem dX4_startPrice_20 : decode cX4_startPrice 20 = .ok (.aload_n 0, 1) := by decide +kernel
theorem dX4_startPrice_21 : decode cX4_startPrice 21 = .ok (.getfield 37, 3) := by decide +kernel
theorem dX4_startPrice_24 : decode cX4_startPrice 24 = .ok (.aload_n 0, 1) := by decide +kernel
theorem dX4_startPrice_25 : decode cX4_startPrice 25 = .ok (.getfield 33, 3) := by decide +kernel
theorem dX4_startPrice_28 : decode cX4_startPrice 28 = .ok (.iastore, 1) := by decide +kernel
theorem dX4_startPrice_29 : decode cX4_startPrice 29 = .ok (.return_, 1) := by decide +kernel
theorem dX4_startCondition_0 : decode cX4_startCondition 0 = .ok (.aload_n 0, 1) := by decide +kernel
theorem dX4_startCondition_1 : decode cX4_startCondition 1 = .ok (.getfield 37, 3) := by decide +kernel
theorem dX4_startCondition_4 : decode cX4_startCondition 4 = .ok (.ifCond .lt 25, 3) := by decide +kernel
theorem dX4_startCondition_7 : decode cX4_startCondition 7 = .ok (.aload_n 0, 1) := by decide +kernel
theorem dX4_startCondition_8 : decode cX4_startCondition 8 = .ok (.getfield 37, 3) := by decide +kernel
theorem dX4_startCondition_11 : decode cX4_startCondition 11 = .ok (.bipush 12, 2) := by decide +kernel
theorem dX4_startCondition_13 : decode cX4_startCondition 13 = .ok (.if_icmp .ge 16, 3) := by decide +kernel
theorem dX4_startCondition_16 : decode cX4_startCondition 16 = .ok (.aload_n 0, 1) := by decide +kernel
theorem dX4_startCondition_17 : decode cX4_startCondition 17 = .ok (.getfield 21, 3) := by decide +kernel
theorem dX4_startCondition_20 : decode cX4_startCondition 20 = .ok (.aload_n 0, 1) := by decide +kernel
theorem dX4_startCondition_21 : decode cX4_startCondition 21 = .ok (.getfield 37, 3) := by decide +kernel
theorem dX4_startCondition_24 : decode cX4_startCondition 24 = .ok (.aload_n 0, 1) := by decide +kernel
theorem dX4_startCondition_25 : decode cX4_startCondition 25 = .ok (.getfield 33, 3) := by decide +kernel
theorem dX4_startCondition_28 : decode cX4_startCondition 28 = .ok (.iastore, 1) := by decide +kernel
theorem dX4_startCondition_29 : decode cX4_startCondition 29 = .ok (.return_, 1) := by decide +kernel
theorem dX4_endClause_0 : decode cX4_endClause 0 = .ok (.aload_n 0, 1) := by decide +kernel
theorem dX4_endClause_1 : decode cX4_endClause 1 = .ok (.getfield 37, 3) := by decide +kernel
theorem dX4_endClause_4 : decode cX4_endClause 4 = .ok (.ifCond .lt 35, 3) := by decide +kernel
theorem dX4_endClause_7 : decode cX4_endClause 7 = .ok (.aload_n 0, 1) := by decide +kernel
theorem dX4_endClause_8 : decode cX4_endClause 8 = .ok (.getfield 37, 3) := by decide +kernel
theorem dX4_endClause_11 : decode cX4_endClause 11 = .ok (.bipush 12, 2) := by decide +kernel
theorem dX4_endClause_13 : decode cX4_endClause 13 = .ok (.if_icmp .ge 26, 3) := by decide +kernel
theorem dX4_endClause_16 : decode cX4_endClause 16 = .ok (.aload_n 0, 1) := by decide +kernel
theorem dX4_endClause_17 : decode cX4_endClause 17 = .ok (.getfield 24, 3) := by decide +kernel
theorem dX4_endClause_20 : decode cX4_endClause 20 = .ok (.aload_n 0, 1) := by decide +kernel
theorem dX4_endClause_21 : decode cX4_endClause 21 = .ok (.getfield 37, 3) := by decide +kernel
theorem dX4_endClause_24 : decode cX4_endClause 24 = .ok (.aload_n 0, 1) := by decide +kernel
theorem dX4_endClause_25 : decode cX4_endClause 25 = .ok (.getfield 33, 3) := by decide +kernel
theorem dX4_endClause_28 : decode cX4_endClause 28 = .ok (.iastore, 1) := by decide +kernel
theorem dX4_endClause_29 : decode cX4_endClause 29 = .ok (.aload_n 0, 1) := by decide +kernel
theorem dX4_endClause_30 : decode cX4_endClause 30 = .ok (.dup, 1) := by decide +kernel
theorem dX4_endClause_31 : decode cX4_endClause 31 = .ok (.getfield 37, 3) := by decide +kernel
theorem dX4_endClause_34 : decode cX4_endClause 34 = .ok (.iconst 1, 1) := by decide +kernel
theorem dX4_endClause_35 : decode cX4_endClause 35 = .ok (.iadd, 1) := by decide +kernel
theorem dX4_endClause_36 : decode cX4_endClause 36 = .ok (.putfield 37, 3) := by decide +kernel
theorem dX4_endClause_39 : decode cX4_endClause 39 = .ok (.return_, 1) := by decide +kernel
theorem dX4_extraFor_0 : decode cX4_extraFor 0 = .ok (.aload_n 0, 1) := by decide +kernel
theorem dX4_extraFor_1 : decode cX4_extraFor 1 = .ok (.getfield 27, 3) := by decide +kernel
theorem dX4_extraFor_4 : decode cX4_extraFor 4 = .ok (.iconst 0, 1) := by decide +kernel
theorem dX4_extraFor_5 : decode cX4_extraFor 5 = .ok (.iload_n 1, 1) := by decide +kernel
theorem dX4_extraFor_6 : decode cX4_extraFor 6 = .ok (.invokestatic 46, 3) := by decide +kernel
theorem dX4_extraFor_9 : decode cX4_extraFor 9 = .ok (.iastore, 1) := by decide +kernel
theorem dX4_extraFor_10 : decode cX4_extraFor 10 = .ok (.aload_n 0, 1) := by decide +kernel
theorem dX4_extraFor_11 : decode cX4_extraFor 11 = .ok (.getfield 27, 3) := by decide +kernel
theorem dX4_extraFor_14 : decode cX4_extraFor 14 = .ok (.iconst 1, 1) := by decide +kernel
theorem dX4_extraFor_15 : decode cX4_extraFor 15 = .ok (.iload_n 2, 1) := by decide +kernel
theorem dX4_extraFor_16 : decode cX4_extraFor 16 = .ok (.invokestatic 46, 3) := by decide +kernel
theorem dX4_extraFor_19 : decode cX4_extraFor 19 = .ok (.iastore, 1) := by decide +kernel
theorem dX4_extraFor_20 : decode cX4_extraFor 20 = .ok (.aload_n 0, 1) := by decide +kernel
theorem dX4_extraFor_21 : decode cX4_extraFor 21 = .ok (.getfield 27, 3) := by decide +kernel
theorem dX4_extraFor_24 : decode cX4_extraFor 24 = .ok (.iconst 2, 1) := by decide +kernel
theorem dX4_extraFor_25 : decode cX4_extraFor 25 = .ok (.iload_n 1, 1) := by decide +kernel
theorem dX4_extraFor_26 : decode cX4_extraFor 26 = .ok (.iload_n 2, 1) := by decide +kernel
theorem dX4_extraFor_27 : decode cX4_extraFor 27 = .ok (.iand, 1) := by decide +kernel
theorem dX4_extraFor_28 : decode cX4_extraFor 28 = .ok (.invokestatic 46, 3) := by decide +kernel
theorem dX4_extraFor_31 : decode cX4_extraFor 31 = .ok (.iastore, 1) := by decide +kernel
theorem dX4_extraFor_32 : decode cX4_extraFor 32 = .ok (.aload_n 0, 1) := by decide +kernel
theorem dX4_extraFor_33 : decode cX4_extraFor 33 = .ok (.getfield 27, 3) := by decide +kernel
theorem dX4_extraFor_36 : decode cX4_extraFor 36 = .ok (.iconst 3, 1) := by decide +kernel
theorem dX4_extraFor_37 : decode cX4_extraFor 37 = .ok (.iload_n 2, 1) := by decide +kernel
theorem dX4_extraFor_38 : decode cX4_extraFor 38 = .ok (.iload_n 1, 1) := by decide +kernel
theorem dX4_extraFor_39 : decode cX4_extraFor 39 = .ok (.iconst (-1), 1) := by decide +kernel
theorem dX4_extraFor_40 : decode cX4_extraFor 40 = .ok (.ixor, 1) := by decide +kernel
theorem dX4_extraFor_41 : decode cX4_extraFor 41 = .ok (.iand, 1) := by decide +kernel
theorem dX4_extraFor_42 : decode cX4_extraFor 42 = .ok (.invokestatic 46, 3) := by decide +kernel
theorem dX4_extraFor_45 : decode cX4_extraFor 45 = .ok (.iastore, 1) := by decide +kernel
theorem dX4_extraFor_46 : decode cX4_extraFor 46 = .ok (.aload_n 0, 1) := by decide +kernel
theorem dX4_extraFor_47 : decode cX4_extraFor 47 = .ok (.getfield 27, 3) := by decide +kernel
theorem dX4_extraFor_50 : decode cX4_extraFor 50 = .ok (.iconst 4, 1) := by decide +kernel
theorem dX4_extraFor_51 : decode cX4_extraFor 51 = .ok (.iload_n 1, 1) := by decide +kernel
theorem dX4_extraFor_52 : decode cX4_extraFor 52 = .ok (.iload_n 2, 1) := by decide +kernel
theorem dX4_extraFor_53 : decode cX4_extraFor 53 = .ok (.iconst (-1), 1) := by decide +kernel
theorem dX4_extraFor_54 : decode cX4_extraFor 54 = .ok (.ixor, 1) := by decide +kernel
theorem dX4_extraFor_55 : decode cX4_extraFor 55 = .ok (.iand, 1) := by decide +kernel
theorem dX4_extraFor_56 : decode cX4_extraFor 56 = .ok (.invokestatic 46, 3) := by decide +kernel
theorem dX4_extraFor_59 : decode cX4_extraFor 59 = .ok (.iastore, 1) := by decide +kernel
theorem dX4_extraFor_60 : decode cX4_extraFor 60 = .ok (.aload_n 0, 1) := by decide +kernel
theorem dX4_extraFor_61 : decode cX4_extraFor 61 = .ok (.getfield 27, 3) := by decide +kernel
theorem dX4_extraFor_64 : decode cX4_extraFor 64 = .ok (.iconst 5, 1) := by decide +kernel
theorem dX4_extraFor_65 : decode cX4_extraFor 65 = .ok (.iload_n 1, 1) := by decide +kernel
theorem dX4_extraFor_66 : decode cX4_extraFor 66 = .ok (.iastore, 1) := by decide +kernel
theorem dX4_extraFor_67 : decode cX4_extraFor 67 = .ok (.aload_n 0, 1) := by decide +kernel
theorem dX4_extraFor_68 : decode cX4_extraFor 68 = .ok (.getfield 27, 3) := by decide +kernel
theorem dX4_extraFor_71 : decode cX4_extraFor 71 = .ok (.bipush 6, 2) := by decide +kernel
theorem dX4_extraFor_73 : decode cX4_extraFor 73 = .ok (.iload_n 2, 1) := by decide +kernel
theorem dX4_extraFor_74 : decode cX4_extraFor 74 = .ok (.iastore, 1) := by decide +kernel
theorem dX4_extraFor_75 : decode cX4_extraFor 75 = .ok (.aload_n 0, 1) := by decide +kernel
theorem dX4_extraFor_76 : decode cX4_extraFor 76 = .ok (.getfield 27, 3) := by decide +kernel
theorem dX4_extraFor_79 : decode cX4_extraFor 79 = .ok (.bipush 7, 2) := by decide +kernel
theorem dX4_extraFor_81 : decode cX4_extraFor 81 = .ok (.iload_n 3, 1) := by decide +kernel
theorem dX4_extraFor_82 : decode cX4_extraFor 82 = .ok (.iastore, 1) := by decide +kernel
theorem dX4_extraFor_83 : decode cX4_extraFor 83 = .ok (.iconst 0, 1) := by decide +kernel
theorem dX4_extraFor_84 : decode cX4_extraFor 84 = .ok (.istore 4, 2) := by decide +kernel
