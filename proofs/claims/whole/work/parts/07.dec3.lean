theorem dX7_manner_142 : decode cX7_manner 142 = .ok (.if_icmp .eq 8, 3) := by decide +kernel
theorem dX7_manner_145 : decode cX7_manner 145 = .ok (.iload 4, 2) := by decide +kernel
theorem dX7_manner_147 : decode cX7_manner 147 = .ok (.goto 15, 3) := by decide +kernel
theorem dX7_manner_150 : decode cX7_manner 150 = .ok (.aload_n 0, 1) := by decide +kernel
theorem dX7_manner_151 : decode cX7_manner 151 = .ok (.iconst 3, 1) := by decide +kernel
theorem dX7_manner_152 : decode cX7_manner 152 = .ok (.iload_n 1, 1) := by decide +kernel
theorem dX7_manner_153 : decode cX7_manner 153 = .ok (.iload_n 2, 1) := by decide +kernel
theorem dX7_manner_154 : decode cX7_manner 154 = .ok (.aload_n 0, 1) := by decide +kernel
theorem dX7_manner_155 : decode cX7_manner 155 = .ok (.getfield 62, 3) := by decide +kernel
theorem dX7_manner_158 : decode cX7_manner 158 = .ok (.isub, 1) := by decide +kernel
theorem dX7_manner_159 : decode cX7_manner 159 = .ok (.invokevirtual 72, 3) := by decide +kernel
theorem dX7_manner_162 : decode cX7_manner 162 = .ok (.ireturn, 1) := by decide +kernel
theorem dX7_pairOf_0 : decode cX7_pairOf 0 = .ok (.iconst 0, 1) := by decide +kernel
theorem dX7_pairOf_1 : decode cX7_pairOf 1 = .ok (.istore 4, 2) := by decide +kernel
theorem dX7_pairOf_3 : decode cX7_pairOf 3 = .ok (.iload 4, 2) := by decide +kernel
theorem dX7_pairOf_5 : decode cX7_pairOf 5 = .ok (.bipush 64, 2) := by decide +kernel
theorem dX7_pairOf_7 : decode cX7_pairOf 7 = .ok (.if_icmp .ge 132, 3) := by decide +kernel
theorem dX7_pairOf_10 : decode cX7_pairOf 10 = .ok (.iload_n 1, 1) := by decide +kernel
theorem dX7_pairOf_11 : decode cX7_pairOf 11 = .ok (.iconst 2, 1) := by decide +kernel
theorem dX7_pairOf_12 : decode cX7_pairOf 12 = .ok (.if_icmp .ne 19, 3) := by decide +kernel
theorem dX7_pairOf_15 : decode cX7_pairOf 15 = .ok (.iload 4, 2) := by decide +kernel
theorem dX7_pairOf_17 : decode cX7_pairOf 17 = .ok (.iload_n 2, 1) := by decide +kernel
theorem dX7_pairOf_18 : decode cX7_pairOf 18 = .ok (.iand, 1) := by decide +kernel
theorem dX7_pairOf_19 : decode cX7_pairOf 19 = .ok (.iload_n 2, 1) := by decide +kernel
theorem dX7_pairOf_20 : decode cX7_pairOf 20 = .ok (.if_icmp .ne 7, 3) := by decide +kernel
theorem dX7_pairOf_23 : decode cX7_pairOf 23 = .ok (.iconst 1, 1) := by decide +kernel
theorem dX7_pairOf_24 : decode cX7_pairOf 24 = .ok (.goto 20, 3) := by decide +kernel
theorem dX7_pairOf_27 : decode cX7_pairOf 27 = .ok (.iconst 0, 1) := by decide +kernel
theorem dX7_pairOf_28 : decode cX7_pairOf 28 = .ok (.goto 16, 3) := by decide +kernel
theorem dX7_pairOf_31 : decode cX7_pairOf 31 = .ok (.iload 4, 2) := by decide +kernel
theorem dX7_pairOf_33 : decode cX7_pairOf 33 = .ok (.iload_n 2, 1) := by decide +kernel
theorem dX7_pairOf_34 : decode cX7_pairOf 34 = .ok (.ior, 1) := by decide +kernel
theorem dX7_pairOf_35 : decode cX7_pairOf 35 = .ok (.iload_n 2, 1) := by decide +kernel
theorem dX7_pairOf_36 : decode cX7_pairOf 36 = .ok (.if_icmp .ne 7, 3) := by decide +kernel
theorem dX7_pairOf_39 : decode cX7_pairOf 39 = .ok (.iconst 1, 1) := by decide +kernel
theorem dX7_pairOf_40 : decode cX7_pairOf 40 = .ok (.goto 4, 3) := by decide +kernel
theorem dX7_pairOf_43 : decode cX7_pairOf 43 = .ok (.iconst 0, 1) := by decide +kernel
theorem dX7_pairOf_44 : decode cX7_pairOf 44 = .ok (.istore 5, 2) := by decide +kernel
theorem dX7_pairOf_46 : decode cX7_pairOf 46 = .ok (.iload 5, 2) := by decide +kernel
theorem dX7_pairOf_48 : decode cX7_pairOf 48 = .ok (.ifCond .eq 85, 3) := by decide +kernel
theorem dX7_pairOf_51 : decode cX7_pairOf 51 = .ok (.aload_n 0, 1) := by decide +kernel
theorem dX7_pairOf_52 : decode cX7_pairOf 52 = .ok (.getfield 9, 3) := by decide +kernel
theorem dX7_pairOf_55 : decode cX7_pairOf 55 = .ok (.iload 4, 2) := by decide +kernel
theorem dX7_pairOf_57 : decode cX7_pairOf 57 = .ok (.iaload, 1) := by decide +kernel
theorem dX7_pairOf_58 : decode cX7_pairOf 58 = .ok (.iload_n 3, 1) := by decide +kernel
theorem dX7_pairOf_59 : decode cX7_pairOf 59 = .ok (.if_icmp .ge 74, 3) := by decide +kernel
theorem dX7_pairOf_62 : decode cX7_pairOf 62 = .ok (.iload 4, 2) := by decide +kernel
theorem dX7_pairOf_64 : decode cX7_pairOf 64 = .ok (.istore 6, 2) := by decide +kernel
theorem dX7_pairOf_66 : decode cX7_pairOf 66 = .ok (.iload 6, 2) := by decide +kernel
theorem dX7_pairOf_68 : decode cX7_pairOf 68 = .ok (.bipush 64, 2) := by decide +kernel
theorem dX7_pairOf_70 : decode cX7_pairOf 70 = .ok (.if_icmp .ge 63, 3) := by decide +kernel
theorem dX7_pairOf_73 : decode cX7_pairOf 73 = .ok (.iload_n 1, 1) := by decide +kernel
theorem dX7_pairOf_74 : decode cX7_pairOf 74 = .ok (.iconst 2, 1) := by decide +kernel
theorem dX7_pairOf_75 : decode cX7_pairOf 75 = .ok (.if_icmp .ne 11, 3) := by decide +kernel
theorem dX7_pairOf_78 : decode cX7_pairOf 78 = .ok (.iload 4, 2) := by decide +kernel
theorem dX7_pairOf_80 : decode cX7_pairOf 80 = .ok (.iload 6, 2) := by decide +kernel
theorem dX7_pairOf_82 : decode cX7_pairOf 82 = .ok (.iand, 1) := by decide +kernel
theorem dX7_pairOf_83 : decode cX7_pairOf 83 = .ok (.goto 8, 3) := by decide +kernel
theorem dX7_pairOf_86 : decode cX7_pairOf 86 = .ok (.iload 4, 2) := by decide +kernel
theorem dX7_pairOf_88 : decode cX7_pairOf 88 = .ok (.iload 6, 2) := by decide +kernel
theorem dX7_pairOf_90 : decode cX7_pairOf 90 = .ok (.ior, 1) := by decide +kernel
theorem dX7_pairOf_91 : decode cX7_pairOf 91 = .ok (.istore 7, 2) := by decide +kernel
theorem dX7_pairOf_93 : decode cX7_pairOf 93 = .ok (.iload 7, 2) := by decide +kernel
theorem dX7_pairOf_95 : decode cX7_pairOf 95 = .ok (.iload_n 2, 1) := by decide +kernel
theorem dX7_pairOf_96 : decode cX7_pairOf 96 = .ok (.if_icmp .ne 31, 3) := by decide +kernel
theorem dX7_pairOf_99 : decode cX7_pairOf 99 = .ok (.aload_n 0, 1) := by decide +kernel
theorem dX7_pairOf_100 : decode cX7_pairOf 100 = .ok (.getfield 9, 3) := by decide +kernel
theorem dX7_pairOf_103 : decode cX7_pairOf 103 = .ok (.iload 4, 2) := by decide +kernel
theorem dX7_pairOf_105 : decode cX7_pairOf 105 = .ok (.iaload, 1) := by decide +kernel
theorem dX7_pairOf_106 : decode cX7_pairOf 106 = .ok (.aload_n 0, 1) := by decide +kernel
theorem dX7_pairOf_107 : decode cX7_pairOf 107 = .ok (.getfield 9, 3) := by decide +kernel
theorem dX7_pairOf_110 : decode cX7_pairOf 110 = .ok (.iload 6, 2) := by decide +kernel
theorem dX7_pairOf_112 : decode cX7_pairOf 112 = .ok (.iaload, 1) := by decide +kernel
theorem dX7_pairOf_113 : decode cX7_pairOf 113 = .ok (.iadd, 1) := by decide +kernel
theorem dX7_pairOf_114 : decode cX7_pairOf 114 = .ok (.iload_n 3, 1) := by decide +kernel
theorem dX7_pairOf_115 : decode cX7_pairOf 115 = .ok (.if_icmp .ne 12, 3) := by decide +kernel
theorem dX7_pairOf_118 : decode cX7_pairOf 118 = .ok (.iload_n 1, 1) := by decide +kernel
theorem dX7_pairOf_119 : decode cX7_pairOf 119 = .ok (.iload 4, 2) := by decide +kernel
theorem dX7_pairOf_121 : decode cX7_pairOf 121 = .ok (.iload 6, 2) := by decide +kernel
theorem dX7_pairOf_123 : decode cX7_pairOf 123 = .ok (.invokestatic 68, 3) := by decide +kernel
theorem dX7_pairOf_126 : decode cX7_pairOf 126 = .ok (.ireturn, 1) := by decide +kernel
theorem dX7_pairOf_127 : decode cX7_pairOf 127 = .ok (.iinc 6 1, 3) := by decide +kernel
theorem dX7_pairOf_130 : decode cX7_pairOf 130 = .ok (.goto (-64), 3) := by decide +kernel
theorem dX7_pairOf_133 : decode cX7_pairOf 133 = .ok (.iinc 4 1, 3) := by decide +kernel
theorem dX7_pairOf_136 : decode cX7_pairOf 136 = .ok (.goto (-133), 3) := by decide +kernel
theorem dX7_pairOf_139 : decode cX7_pairOf 139 = .ok (.iconst (-1), 1) := by decide +kernel
theorem dX7_pairOf_140 : decode cX7_pairOf 140 = .ok (.ireturn, 1) := by decide +kernel
theorem dX8_init_0 : decode cX8_init 0 = .ok (.aload_n 0, 1) := by decide +kernel
theorem dX8_init_1 : decode cX8_init 1 = .ok (.invokespecial 3, 3) := by decide +kernel
theorem dX8_init_4 : decode cX8_init 4 = .ok (.aload_n 0, 1) := by decide +kernel
theorem dX8_init_5 : decode cX8_init 5 = .ok (.sipush 300, 3) := by decide +kernel
theorem dX8_init_8 : decode cX8_init 8 = .ok (.newarray .int, 2) := by decide +kernel
theorem dX8_init_10 : decode cX8_init 10 = .ok (.putfield 9, 3) := by decide +kernel
theorem dX8_init_13 : decode cX8_init 13 = .ok (.return_, 1) := by decide +kernel
theorem dX8_push_0 : decode cX8_push 0 = .ok (.bipush 24, 2) := by decide +kernel
theorem dX8_push_2 : decode cX8_push 2 = .ok (.istore_n 2, 1) := by decide +kernel
theorem dX8_push_3 : decode cX8_push 3 = .ok (.iload_n 2, 1) := by decide +kernel
theorem dX8_push_4 : decode cX8_push 4 = .ok (.ifCond .lt 52, 3) := by decide +kernel
theorem dX8_push_7 : decode cX8_push 7 = .ok (.aload_n 0, 1) := by decide +kernel
theorem dX8_push_8 : decode cX8_push 8 = .ok (.getfield 15, 3) := by decide +kernel
theorem dX8_push_11 : decode cX8_push 11 = .ok (.ifCond .lt 39, 3) := by decide +kernel
theorem dX8_push_14 : decode cX8_push 14 = .ok (.aload_n 0, 1) := by decide +kernel
theorem dX8_push_15 : decode cX8_push 15 = .ok (.getfield 15, 3) := by decide +kernel
theorem dX8_push_18 : decode cX8_push 18 = .ok (.sipush 300, 3) := by decide +kernel
theorem dX8_push_21 : decode cX8_push 21 = .ok (.if_icmp .ge 29, 3) := by decide +kernel
theorem dX8_push_24 : decode cX8_push 24 = .ok (.aload_n 0, 1) := by decide +kernel
theorem dX8_push_25 : decode cX8_push 25 = .ok (.getfield 9, 3) := by decide +kernel
theorem dX8_push_28 : decode cX8_push 28 = .ok (.aload_n 0, 1) := by decide +kernel
theorem dX8_push_29 : decode cX8_push 29 = .ok (.getfield 15, 3) := by decide +kernel
theorem dX8_push_32 : decode cX8_push 32 = .ok (.iload_n 1, 1) := by decide +kernel
theorem dX8_push_33 : decode cX8_push 33 = .ok (.iload_n 2, 1) := by decide +kernel
theorem dX8_push_34 : decode cX8_push 34 = .ok (.ishr, 1) := by decide +kernel
theorem dX8_push_35 : decode cX8_push 35 = .ok (.sipush 255, 3) := by decide +kernel
theorem dX8_push_38 : decode cX8_push 38 = .ok (.iand, 1) := by decide +kernel
theorem dX8_push_39 : decode cX8_push 39 = .ok (.iastore, 1) := by decide +kernel
theorem dX8_push_40 : decode cX8_push 40 = .ok (.aload_n 0, 1) := by decide +kernel
theorem dX8_push_41 : decode cX8_push 41 = .ok (.dup, 1) := by decide +kernel
theorem dX8_push_42 : decode cX8_push 42 = .ok (.getfield 15, 3) := by decide +kernel
theorem dX8_push_45 : decode cX8_push 45 = .ok (.iconst 1, 1) := by decide +kernel
theorem dX8_push_46 : decode cX8_push 46 = .ok (.iadd, 1) := by decide +kernel
theorem dX8_push_47 : decode cX8_push 47 = .ok (.putfield 15, 3) := by decide +kernel
theorem dX8_push_50 : decode cX8_push 50 = .ok (.iinc 2 (-8), 3) := by decide +kernel
theorem dX8_push_53 : decode cX8_push 53 = .ok (.goto (-50), 3) := by decide +kernel
theorem dX8_push_56 : decode cX8_push 56 = .ok (.return_, 1) := by decide +kernel
theorem dX8_wipe_0 : decode cX8_wipe 0 = .ok (.aload_n 0, 1) := by decide +kernel
theorem dX8_wipe_1 : decode cX8_wipe 1 = .ok (.iconst 0, 1) := by decide +kernel
theorem dX8_wipe_2 : decode cX8_wipe 2 = .ok (.putfield 15, 3) := by decide +kernel
theorem dX8_wipe_5 : decode cX8_wipe 5 = .ok (.return_, 1) := by decide +kernel
theorem dX8_byteAt_0 : decode cX8_byteAt 0 = .ok (.iload_n 1, 1) := by decide +kernel
theorem dX8_byteAt_1 : decode cX8_byteAt 1 = .ok (.ifCond .lt 27, 3) := by decide +kernel
theorem dX8_byteAt_4 : decode cX8_byteAt 4 = .ok (.iload_n 1, 1) := by decide +kernel
theorem dX8_byteAt_5 : decode cX8_byteAt 5 = .ok (.aload_n 0, 1) := by decide +kernel
theorem dX8_byteAt_6 : decode cX8_byteAt 6 = .ok (.getfield 15, 3) := by decide +kernel
theorem dX8_byteAt_9 : decode cX8_byteAt 9 = .ok (.if_icmp .ge 19, 3) := by decide +kernel
theorem dX8_byteAt_12 : decode cX8_byteAt 12 = .ok (.iload_n 1, 1) := by decide +kernel
theorem dX8_byteAt_13 : decode cX8_byteAt 13 = .ok (.sipush 300, 3) := by decide +kernel
theorem dX8_byteAt_16 : decode cX8_byteAt 16 = .ok (.if_icmp .ge 12, 3) := by decide +kernel
theorem dX8_byteAt_19 : decode cX8_byteAt 19 = .ok (.aload_n 0, 1) := by decide +kernel
theorem dX8_byteAt_20 : decode cX8_byteAt 20 = .ok (.getfield 9, 3) := by decide +kernel
theorem dX8_byteAt_23 : decode cX8_byteAt 23 = .ok (.iload_n 1, 1) := by decide +kernel
theorem dX8_byteAt_24 : decode cX8_byteAt 24 = .ok (.iaload, 1) := by decide +kernel
theorem dX8_byteAt_25 : decode cX8_byteAt 25 = .ok (.goto 4, 3) := by decide +kernel
theorem dX8_byteAt_28 : decode cX8_byteAt 28 = .ok (.iconst (-1), 1) := by decide +kernel
theorem dX8_byteAt_29 : decode cX8_byteAt 29 = .ok (.ireturn, 1) := by decide +kernel
theorem dX8_numberAt_0 : decode cX8_numberAt 0 = .ok (.iconst 0, 1) := by decide +kernel
theorem dX8_numberAt_1 : decode cX8_numberAt 1 = .ok (.istore_n 2, 1) := by decide +kernel
theorem dX8_numberAt_2 : decode cX8_numberAt 2 = .ok (.iconst 0, 1) := by decide +kernel
theorem dX8_numberAt_3 : decode cX8_numberAt 3 = .ok (.istore_n 3, 1) := by decide +kernel
theorem dX8_numberAt_4 : decode cX8_numberAt 4 = .ok (.iload_n 3, 1) := by decide +kernel
theorem dX8_numberAt_5 : decode cX8_numberAt 5 = .ok (.iconst 4, 1) := by decide +kernel
theorem dX8_numberAt_6 : decode cX8_numberAt 6 = .ok (.if_icmp .ge 28, 3) := by decide +kernel
theorem dX8_numberAt_9 : decode cX8_numberAt 9 = .ok (.iload_n 2, 1) := by decide +kernel
theorem dX8_numberAt_10 : decode cX8_numberAt 10 = .ok (.bipush 8, 2) := by decide +kernel
theorem dX8_numberAt_12 : decode cX8_numberAt 12 = .ok (.ishl, 1) := by decide +kernel
theorem dX8_numberAt_13 : decode cX8_numberAt 13 = .ok (.aload_n 0, 1) := by decide +kernel
theorem dX8_numberAt_14 : decode cX8_numberAt 14 = .ok (.iconst 4, 1) := by decide +kernel
theorem dX8_numberAt_15 : decode cX8_numberAt 15 = .ok (.iload_n 1, 1) := by decide +kernel
theorem dX8_numberAt_16 : decode cX8_numberAt 16 = .ok (.imul, 1) := by decide +kernel
theorem dX8_numberAt_17 : decode cX8_numberAt 17 = .ok (.iload_n 3, 1) := by decide +kernel
theorem dX8_numberAt_18 : decode cX8_numberAt 18 = .ok (.iadd, 1) := by decide +kernel
theorem dX8_numberAt_19 : decode cX8_numberAt 19 = .ok (.invokevirtual 19, 3) := by decide +kernel
theorem dX8_numberAt_22 : decode cX8_numberAt 22 = .ok (.sipush 255, 3) := by decide +kernel
theorem dX8_numberAt_25 : decode cX8_numberAt 25 = .ok (.iand, 1) := by decide +kernel
theorem dX8_numberAt_26 : decode cX8_numberAt 26 = .ok (.ior, 1) := by decide +kernel
theorem dX8_numberAt_27 : decode cX8_numberAt 27 = .ok (.istore_n 2, 1) := by decide +kernel
theorem dX8_numberAt_28 : decode cX8_numberAt 28 = .ok (.iinc 3 1, 3) := by decide +kernel
theorem dX8_numberAt_31 : decode cX8_numberAt 31 = .ok (.goto (-27), 3) := by decide +kernel
theorem dX8_numberAt_34 : decode cX8_numberAt 34 = .ok (.iload_n 2, 1) := by decide +kernel
theorem dX8_numberAt_35 : decode cX8_numberAt 35 = .ok (.ireturn, 1) := by decide +kernel
theorem dX8_startText_0 : decode cX8_startText 0 = .ok (.aload_n 0, 1) := by decide +kernel
theorem dX8_startText_1 : decode cX8_startText 1 = .ok (.iload_n 1, 1) := by decide +kernel
theorem dX8_startText_2 : decode cX8_startText 2 = .ok (.putfield 23, 3) := by decide +kernel
theorem dX8_startText_5 : decode cX8_startText 5 = .ok (.aload_n 0, 1) := by decide +kernel
theorem dX8_startText_6 : decode cX8_startText 6 = .ok (.iconst 0, 1) := by decide +kernel
theorem dX8_startText_7 : decode cX8_startText 7 = .ok (.putfield 26, 3) := by decide +kernel
theorem dX8_startText_10 : decode cX8_startText 10 = .ok (.aload_n 0, 1) := by decide +kernel
theorem dX8_startText_11 : decode cX8_startText 11 = .ok (.iconst 0, 1) := by decide +kernel
theorem dX8_startText_12 : decode cX8_startText 12 = .ok (.putfield 29, 3) := by decide +kernel
theorem dX8_startText_15 : decode cX8_startText 15 = .ok (.return_, 1) := by decide +kernel
theorem dX8_sign_0 : decode cX8_sign 0 = .ok (.aload_n 0, 1) := by decide +kernel
theorem dX8_sign_1 : decode cX8_sign 1 = .ok (.getfield 29, 3) := by decide +kernel
theorem dX8_sign_4 : decode cX8_sign 4 = .ok (.ifCond .ne 46, 3) := by decide +kernel
theorem dX8_sign_7 : decode cX8_sign 7 = .ok (.aload_n 0, 1) := by decide +kernel
theorem dX8_sign_8 : decode cX8_sign 8 = .ok (.getfield 26, 3) := by decide +kernel
theorem dX8_sign_11 : decode cX8_sign 11 = .ok (.ifCond .lt 39, 3) := by decide +kernel
theorem dX8_sign_14 : decode cX8_sign 14 = .ok (.aload_n 0, 1) := by decide +kernel
theorem dX8_sign_15 : decode cX8_sign 15 = .ok (.getfield 26, 3) := by decide +kernel
theorem dX8_sign_18 : decode cX8_sign 18 = .ok (.aload_n 0, 1) := by decide +kernel
theorem dX8_sign_19 : decode cX8_sign 19 = .ok (.getfield 23, 3) := by decide +kernel
theorem dX8_sign_22 : decode cX8_sign 22 = .ok (.if_icmp .ge 28, 3) := by decide +kernel
theorem dX8_sign_25 : decode cX8_sign 25 = .ok (.aload_n 0, 1) := by decide +kernel
theorem dX8_sign_26 : decode cX8_sign 26 = .ok (.getfield 26, 3) := by decide +kernel
theorem dX8_sign_29 : decode cX8_sign 29 = .ok (.aload_n 0, 1) := by decide +kernel
theorem dX8_sign_30 : decode cX8_sign 30 = .ok (.getfield 15, 3) := by decide +kernel
theorem dX8_sign_33 : decode cX8_sign 33 = .ok (.if_icmp .ge 17, 3) := by decide +kernel
theorem dX8_sign_36 : decode cX8_sign 36 = .ok (.aload_n 0, 1) := by decide +kernel
theorem dX8_sign_37 : decode cX8_sign 37 = .ok (.getfield 26, 3) := by decide +kernel
theorem dX8_sign_40 : decode cX8_sign 40 = .ok (.sipush 300, 3) := by decide +kernel
theorem dX8_sign_43 : decode cX8_sign 43 = .ok (.if_icmp .ge 7, 3) := by decide +kernel
theorem dX8_sign_46 : decode cX8_sign 46 = .ok (.iconst 1, 1) := by decide +kernel
theorem dX8_sign_47 : decode cX8_sign 47 = .ok (.goto 4, 3) := by decide +kernel
theorem dX8_sign_50 : decode cX8_sign 50 = .ok (.iconst 0, 1) := by decide +kernel
theorem dX8_sign_51 : decode cX8_sign 51 = .ok (.istore_n 1, 1) := by decide +kernel
theorem dX8_sign_52 : decode cX8_sign 52 = .ok (.iload_n 1, 1) := by decide +kernel
theorem dX8_sign_53 : decode cX8_sign 53 = .ok (.ifCond .eq 15, 3) := by decide +kernel
theorem dX8_sign_56 : decode cX8_sign 56 = .ok (.aload_n 0, 1) := by decide +kernel
theorem dX8_sign_57 : decode cX8_sign 57 = .ok (.getfield 9, 3) := by decide +kernel
theorem dX8_sign_60 : decode cX8_sign 60 = .ok (.aload_n 0, 1) := by decide +kernel
theorem dX8_sign_61 : decode cX8_sign 61 = .ok (.getfield 26, 3) := by decide +kernel
theorem dX8_sign_64 : decode cX8_sign 64 = .ok (.iaload, 1) := by decide +kernel
theorem dX8_sign_65 : decode cX8_sign 65 = .ok (.goto 4, 3) := by decide +kernel
theorem dX8_sign_68 : decode cX8_sign 68 = .ok (.iconst (-1), 1) := by decide +kernel
theorem dX8_sign_69 : decode cX8_sign 69 = .ok (.ireturn, 1) := by decide +kernel
theorem dX8_isAtEnd_0 : decode cX8_isAtEnd 0 = .ok (.aload_n 0, 1) := by decide +kernel
theorem dX8_isAtEnd_1 : decode cX8_isAtEnd 1 = .ok (.getfield 29, 3) := by decide +kernel
theorem dX8_isAtEnd_4 : decode cX8_isAtEnd 4 = .ok (.ifCond .ne 18, 3) := by decide +kernel
theorem dX8_isAtEnd_7 : decode cX8_isAtEnd 7 = .ok (.aload_n 0, 1) := by decide +kernel
theorem dX8_isAtEnd_8 : decode cX8_isAtEnd 8 = .ok (.getfield 26, 3) := by decide +kernel
theorem dX8_isAtEnd_11 : decode cX8_isAtEnd 11 = .ok (.aload_n 0, 1) := by decide +kernel
theorem dX8_isAtEnd_12 : decode cX8_isAtEnd 12 = .ok (.getfield 23, 3) := by decide +kernel
theorem dX8_isAtEnd_15 : decode cX8_isAtEnd 15 = .ok (.if_icmp .lt 7, 3) := by decide +kernel
theorem dX8_isAtEnd_18 : decode cX8_isAtEnd 18 = .ok (.iconst 1, 1) := by decide +kernel
theorem dX8_isAtEnd_19 : decode cX8_isAtEnd 19 = .ok (.goto 4, 3) := by decide +kernel
theorem dX8_isAtEnd_22 : decode cX8_isAtEnd 22 = .ok (.iconst 0, 1) := by decide +kernel
theorem dX8_isAtEnd_23 : decode cX8_isAtEnd 23 = .ok (.ireturn, 1) := by decide +kernel
theorem dX8_step_0 : decode cX8_step 0 = .ok (.aload_n 0, 1) := by decide +kernel
theorem dX8_step_1 : decode cX8_step 1 = .ok (.dup, 1) := by decide +kernel
theorem dX8_step_2 : decode cX8_step 2 = .ok (.getfield 26, 3) := by decide +kernel
theorem dX8_step_5 : decode cX8_step 5 = .ok (.iconst 1, 1) := by decide +kernel
theorem dX8_step_6 : decode cX8_step 6 = .ok (.iadd, 1) := by decide +kernel
theorem dX8_step_7 : decode cX8_step 7 = .ok (.putfield 26, 3) := by decide +kernel
theorem dX8_step_10 : decode cX8_step 10 = .ok (.return_, 1) := by decide +kernel
theorem dX8_pass_0 : decode cX8_pass 0 = .ok (.aload_n 0, 1) := by decide +kernel
theorem dX8_pass_1 : decode cX8_pass 1 = .ok (.invokevirtual 32, 3) := by decide +kernel
theorem dX8_pass_4 : decode cX8_pass 4 = .ok (.iload_n 1, 1) := by decide +kernel
theorem dX8_pass_5 : decode cX8_pass 5 = .ok (.if_icmp .ne 16, 3) := by decide +kernel
theorem dX8_pass_8 : decode cX8_pass 8 = .ok (.aload_n 0, 1) := by decide +kernel
theorem dX8_pass_9 : decode cX8_pass 9 = .ok (.dup, 1) := by decide +kernel
theorem dX8_pass_10 : decode cX8_pass 10 = .ok (.getfield 26, 3) := by decide +kernel
theorem dX8_pass_13 : decode cX8_pass 13 = .ok (.iconst 1, 1) := by decide +kernel
theorem dX8_pass_14 : decode cX8_pass 14 = .ok (.iadd, 1) := by decide +kernel
theorem dX8_pass_15 : decode cX8_pass 15 = .ok (.putfield 26, 3) := by decide +kernel
theorem dX8_pass_18 : decode cX8_pass 18 = .ok (.goto 8, 3) := by decide +kernel
theorem dX8_pass_21 : decode cX8_pass 21 = .ok (.aload_n 0, 1) := by decide +kernel
theorem dX8_pass_22 : decode cX8_pass 22 = .ok (.iconst 1, 1) := by decide +kernel
theorem dX8_pass_23 : decode cX8_pass 23 = .ok (.invokevirtual 36, 3) := by decide +kernel
theorem dX8_pass_26 : decode cX8_pass 26 = .ok (.return_, 1) := by decide +kernel
theorem dX8_opens_0 : decode cX8_opens 0 = .ok (.iload_n 1, 1) := by decide +kernel
theorem dX8_opens_1 : decode cX8_opens 1 = .ok (.bipush 6, 2) := by decide +kernel
theorem dX8_opens_3 : decode cX8_opens 3 = .ok (.if_icmp .lt 10, 3) := by decide +kernel
theorem dX8_opens_6 : decode cX8_opens 6 = .ok (.aload_n 0, 1) := by decide +kernel
theorem dX8_opens_7 : decode cX8_opens 7 = .ok (.iconst 5, 1) := by decide +kernel
theorem dX8_opens_8 : decode cX8_opens 8 = .ok (.invokevirtual 36, 3) := by decide +kernel
theorem dX8_opens_11 : decode cX8_opens 11 = .ok (.iconst 0, 1) := by decide +kernel
theorem dX8_opens_12 : decode cX8_opens 12 = .ok (.ireturn, 1) := by decide +kernel
theorem dX8_opens_13 : decode cX8_opens 13 = .ok (.aload_n 0, 1) := by decide +kernel
theorem dX8_opens_14 : decode cX8_opens 14 = .ok (.dup, 1) := by decide +kernel
theorem dX8_opens_15 : decode cX8_opens 15 = .ok (.getfield 26, 3) := by decide +kernel
theorem dX8_opens_18 : decode cX8_opens 18 = .ok (.iconst 1, 1) := by decide +kernel
theorem dX8_opens_19 : decode cX8_opens 19 = .ok (.iadd, 1) := by decide +kernel
theorem dX8_opens_20 : decode cX8_opens 20 = .ok (.putfield 26, 3) := by decide +kernel
theorem dX8_opens_23 : decode cX8_opens 23 = .ok (.iconst 1, 1) := by decide +kernel
theorem dX8_opens_24 : decode cX8_opens 24 = .ok (.ireturn, 1) := by decide +kernel
theorem dX8_fail_0 : decode cX8_fail 0 = .ok (.aload_n 0, 1) := by decide +kernel
theorem dX8_fail_1 : decode cX8_fail 1 = .ok (.getfield 29, 3) := by decide +kernel
theorem dX8_fail_4 : decode cX8_fail 4 = .ok (.ifCond .ne 17, 3) := by decide +kernel
theorem dX8_fail_7 : decode cX8_fail 7 = .ok (.aload_n 0, 1) := by decide +kernel
theorem dX8_fail_8 : decode cX8_fail 8 = .ok (.sipush (-1000), 3) := by decide +kernel
theorem dX8_fail_11 : decode cX8_fail 11 = .ok (.iload_n 1, 1) := by decide +kernel
theorem dX8_fail_12 : decode cX8_fail 12 = .ok (.imul, 1) := by decide +kernel
theorem dX8_fail_13 : decode cX8_fail 13 = .ok (.aload_n 0, 1) := by decide +kernel
theorem dX8_fail_14 : decode cX8_fail 14 = .ok (.getfield 26, 3) := by decide +kernel
theorem dX8_fail_17 : decode cX8_fail 17 = .ok (.isub, 1) := by decide +kernel
theorem dX8_fail_18 : decode cX8_fail 18 = .ok (.putfield 29, 3) := by decide +kernel
theorem dX8_fail_21 : decode cX8_fail 21 = .ok (.return_, 1) := by decide +kernel
theorem dX9_init_0 : decode cX9_init 0 = .ok (.aload_n 0, 1) := by decide +kernel
theorem dX9_init_1 : decode cX9_init 1 = .ok (.invokespecial 3, 3) := by decide +kernel
theorem dX9_init_4 : decode cX9_init 4 = .ok (.aload_n 0, 1) := by decide +kernel
theorem dX9_init_5 : decode cX9_init 5 = .ok (.sipush 1024, 3) := by decide +kernel
theorem dX9_init_8 : decode cX9_init 8 = .ok (.anewarray 9, 3) := by decide +kernel
theorem dX9_init_11 : decode cX9_init 11 = .ok (.putfield 11, 3) := by decide +kernel
theorem dX9_init_14 : decode cX9_init 14 = .ok (.aload_n 0, 1) := by decide +kernel
theorem dX9_init_15 : decode cX9_init 15 = .ok (.new 17, 3) := by decide +kernel
theorem dX9_init_18 : decode cX9_init 18 = .ok (.dup, 1) := by decide +kernel
theorem dX9_init_19 : decode cX9_init 19 = .ok (.invokespecial 19, 3) := by decide +kernel
theorem dX9_init_22 : decode cX9_init 22 = .ok (.putfield 20, 3) := by decide +kernel
theorem dX9_init_25 : decode cX9_init 25 = .ok (.aload_n 0, 1) := by decide +kernel
theorem dX9_init_26 : decode cX9_init 26 = .ok (.aload_n 1, 1) := by decide +kernel
theorem dX9_init_27 : decode cX9_init 27 = .ok (.putfield 24, 3) := by decide +kernel
theorem dX9_init_30 : decode cX9_init 30 = .ok (.aload_n 0, 1) := by decide +kernel
theorem dX9_init_31 : decode cX9_init 31 = .ok (.aload_n 2, 1) := by decide +kernel
theorem dX9_init_32 : decode cX9_init 32 = .ok (.putfield 28, 3) := by decide +kernel
theorem dX9_init_35 : decode cX9_init 35 = .ok (.aload_n 0, 1) := by decide +kernel
theorem dX9_init_36 : decode cX9_init 36 = .ok (.new 9, 3) := by decide +kernel
theorem dX9_init_39 : decode cX9_init 39 = .ok (.dup, 1) := by decide +kernel
theorem dX9_init_40 : decode cX9_init 40 = .ok (.aload_n 1, 1) := by decide +kernel
theorem dX9_init_41 : decode cX9_init 41 = .ok (.invokespecial 32, 3) := by decide +kernel
theorem dX9_init_44 : decode cX9_init 44 = .ok (.putfield 35, 3) := by decide +kernel
theorem dX9_init_47 : decode cX9_init 47 = .ok (.return_, 1) := by decide +kernel
theorem dX9_takeLaw_0 : decode cX9_takeLaw 0 = .ok (.aload_n 0, 1) := by decide +kernel
theorem dX9_takeLaw_1 : decode cX9_takeLaw 1 = .ok (.getfield 20, 3) := by decide +kernel
theorem dX9_takeLaw_4 : decode cX9_takeLaw 4 = .ok (.aload_n 1, 1) := by decide +kernel
theorem dX9_takeLaw_5 : decode cX9_takeLaw 5 = .ok (.invokevirtual 39, 3) := by decide +kernel
theorem dX9_takeLaw_8 : decode cX9_takeLaw 8 = .ok (.aload_n 0, 1) := by decide +kernel
theorem dX9_takeLaw_9 : decode cX9_takeLaw 9 = .ok (.dup, 1) := by decide +kernel
theorem dX9_takeLaw_10 : decode cX9_takeLaw 10 = .ok (.getfield 43, 3) := by decide +kernel
theorem dX9_takeLaw_13 : decode cX9_takeLaw 13 = .ok (.iconst 1, 1) := by decide +kernel
theorem dX9_takeLaw_14 : decode cX9_takeLaw 14 = .ok (.iadd, 1) := by decide +kernel
theorem dX9_takeLaw_15 : decode cX9_takeLaw 15 = .ok (.putfield 43, 3) := by decide +kernel
theorem dX9_takeLaw_18 : decode cX9_takeLaw 18 = .ok (.return_, 1) := by decide +kernel
theorem dX9_speech_0 : decode cX9_speech 0 = .ok (.iload_n 1, 1) := by decide +kernel
theorem dX9_speech_1 : decode cX9_speech 1 = .ok (.sipush 1023, 3) := by decide +kernel
theorem dX9_speech_4 : decode cX9_speech 4 = .ok (.iand, 1) := by decide +kernel
theorem dX9_speech_5 : decode cX9_speech 5 = .ok (.istore_n 2, 1) := by decide +kernel
theorem dX9_speech_6 : decode cX9_speech 6 = .ok (.aload_n 0, 1) := by decide +kernel
theorem dX9_speech_7 : decode cX9_speech 7 = .ok (.getfield 11, 3) := by decide +kernel
theorem dX9_speech_10 : decode cX9_speech 10 = .ok (.iload_n 2, 1) := by decide +kernel
theorem dX9_speech_11 : decode cX9_speech 11 = .ok (.aaload, 1) := by decide +kernel
theorem dX9_speech_12 : decode cX9_speech 12 = .ok (.astore_n 3, 1) := by decide +kernel
theorem dX9_speech_13 : decode cX9_speech 13 = .ok (.aload_n 3, 1) := by decide +kernel
theorem dX9_speech_14 : decode cX9_speech 14 = .ok (.ifnull 5, 3) := by decide +kernel
theorem dX9_speech_17 : decode cX9_speech 17 = .ok (.aload_n 3, 1) := by decide +kernel
theorem dX9_speech_18 : decode cX9_speech 18 = .ok (.areturn, 1) := by decide +kernel
theorem dX9_speech_19 : decode cX9_speech 19 = .ok (.new 9, 3) := by decide +kernel
theorem dX9_speech_22 : decode cX9_speech 22 = .ok (.dup, 1) := by decide +kernel
theorem dX9_speech_23 : decode cX9_speech 23 = .ok (.aload_n 0, 1) := by decide +kernel
theorem dX9_speech_24 : decode cX9_speech 24 = .ok (.getfield 24, 3) := by decide +kernel
theorem dX9_speech_27 : decode cX9_speech 27 = .ok (.invokespecial 32, 3) := by decide +kernel
theorem dX9_speech_30 : decode cX9_speech 30 = .ok (.astore 4, 2) := by decide +kernel
theorem dX9_speech_32 : decode cX9_speech 32 = .ok (.aload 4, 2) := by decide +kernel
theorem dX9_speech_34 : decode cX9_speech 34 = .ok (.iload_n 2, 1) := by decide +kernel
theorem dX9_speech_35 : decode cX9_speech 35 = .ok (.iconst 0, 1) := by decide +kernel
theorem dX9_speech_36 : decode cX9_speech 36 = .ok (.ldc 47, 2) := by decide +kernel
theorem dX9_speech_38 : decode cX9_speech 38 = .ok (.invokevirtual 48, 3) := by decide +kernel
theorem dX9_speech_41 : decode cX9_speech 41 = .ok (.aload_n 0, 1) := by decide +kernel
theorem dX9_speech_42 : decode cX9_speech 42 = .ok (.getfield 11, 3) := by decide +kernel
theorem dX9_speech_45 : decode cX9_speech 45 = .ok (.iload_n 2, 1) := by decide +kernel
theorem dX9_speech_46 : decode cX9_speech 46 = .ok (.aload 4, 2) := by decide +kernel
theorem dX9_speech_48 : decode cX9_speech 48 = .ok (.aastore, 1) := by decide +kernel
theorem dX9_speech_49 : decode cX9_speech 49 = .ok (.aload 4, 2) := by decide +kernel
theorem dX9_speech_51 : decode cX9_speech 51 = .ok (.areturn, 1) := by decide +kernel
theorem dX9_price_0 : decode cX9_price 0 = .ok (.iload_n 2, 1) := by decide +kernel
theorem dX9_price_1 : decode cX9_price 1 = .ok (.bipush 63, 2) := by decide +kernel
theorem dX9_price_3 : decode cX9_price 3 = .ok (.iand, 1) := by decide +kernel
theorem dX9_price_4 : decode cX9_price 4 = .ok (.istore_n 3, 1) := by decide +kernel
theorem dX9_price_5 : decode cX9_price 5 = .ok (.aload_n 1, 1) := by decide +kernel
theorem dX9_price_6 : decode cX9_price 6 = .ok (.getfield 52, 3) := by decide +kernel
theorem dX9_price_9 : decode cX9_price 9 = .ok (.iload_n 3, 1) := by decide +kernel
theorem dX9_price_10 : decode cX9_price 10 = .ok (.iaload, 1) := by decide +kernel
theorem dX9_price_11 : decode cX9_price 11 = .ok (.istore 4, 2) := by decide +kernel
theorem dX9_price_13 : decode cX9_price 13 = .ok (.iload_n 3, 1) := by decide +kernel
theorem dX9_price_14 : decode cX9_price 14 = .ok (.istore 5, 2) := by decide +kernel
theorem dX9_price_16 : decode cX9_price 16 = .ok (.aload_n 1, 1) := by decide +kernel
theorem dX9_price_17 : decode cX9_price 17 = .ok (.getfield 56, 3) := by decide +kernel
theorem dX9_price_20 : decode cX9_price 20 = .ok (.aload_n 0, 1) := by decide +kernel
theorem dX9_price_21 : decode cX9_price 21 = .ok (.getfield 43, 3) := by decide +kernel
theorem dX9_price_24 : decode cX9_price 24 = .ok (.if_icmp .eq 16, 3) := by decide +kernel
theorem dX9_price_27 : decode cX9_price 27 = .ok (.aload_n 1, 1) := by decide +kernel
theorem dX9_price_28 : decode cX9_price 28 = .ok (.aload_n 0, 1) := by decide +kernel
theorem dX9_price_29 : decode cX9_price 29 = .ok (.getfield 43, 3) := by decide +kernel
theorem dX9_price_32 : decode cX9_price 32 = .ok (.putfield 56, 3) := by decide +kernel
theorem dX9_price_35 : decode cX9_price 35 = .ok (.aload_n 1, 1) := by decide +kernel
theorem dX9_price_36 : decode cX9_price 36 = .ok (.lconst 0, 1) := by decide +kernel
theorem dX9_price_37 : decode cX9_price 37 = .ok (.putfield 57, 3) := by decide +kernel
theorem dX9_price_40 : decode cX9_price 40 = .ok (.aload_n 1, 1) := by decide +kernel
theorem dX9_price_41 : decode cX9_price 41 = .ok (.getfield 61, 3) := by decide +kernel
theorem dX9_price_44 : decode cX9_price 44 = .ok (.astore 6, 2) := by decide +kernel
theorem dX9_price_46 : decode cX9_price 46 = .ok (.aload 6, 2) := by decide +kernel
theorem dX9_price_48 : decode cX9_price 48 = .ok (.ifnonnull 25, 3) := by decide +kernel
theorem dX9_price_51 : decode cX9_price 51 = .ok (.aload_n 0, 1) := by decide +kernel
theorem dX9_price_52 : decode cX9_price 52 = .ok (.getfield 20, 3) := by decide +kernel
theorem dX9_price_55 : decode cX9_price 55 = .ok (.getfield 64, 3) := by decide +kernel
theorem dX9_price_58 : decode cX9_price 58 = .ok (.ifCond .le 15, 3) := by decide +kernel
theorem dX9_price_61 : decode cX9_price 61 = .ok (.bipush 64, 2) := by decide +kernel
theorem dX9_price_63 : decode cX9_price 63 = .ok (.newarray .int, 2) := by decide +kernel
theorem dX9_price_65 : decode cX9_price 65 = .ok (.astore 6, 2) := by decide +kernel
theorem dX9_price_67 : decode cX9_price 67 = .ok (.aload_n 1, 1) := by decide +kernel
theorem dX9_price_68 : decode cX9_price 68 = .ok (.aload 6, 2) := by decide +kernel
theorem dX9_price_70 : decode cX9_price 70 = .ok (.putfield 61, 3) := by decide +kernel
theorem dX9_price_73 : decode cX9_price 73 = .ok (.aload 6, 2) := by decide +kernel
theorem dX9_price_75 : decode cX9_price 75 = .ok (.ifnonnull 24, 3) := by decide +kernel
theorem dX9_price_78 : decode cX9_price 78 = .ok (.iload 4, 2) := by decide +kernel
theorem dX9_price_80 : decode cX9_price 80 = .ok (.ldc 47, 2) := by decide +kernel
theorem dX9_price_82 : decode cX9_price 82 = .ok (.if_icmp .ge 14, 3) := by decide +kernel
theorem dX9_price_85 : decode cX9_price 85 = .ok (.iload 4, 2) := by decide +kernel
theorem dX9_price_87 : decode cX9_price 87 = .ok (.bipush 6, 2) := by decide +kernel
theorem dX9_price_89 : decode cX9_price 89 = .ok (.ishl, 1) := by decide +kernel
theorem dX9_price_90 : decode cX9_price 90 = .ok (.iload 5, 2) := by decide +kernel
theorem dX9_price_92 : decode cX9_price 92 = .ok (.ior, 1) := by decide +kernel
theorem dX9_price_93 : decode cX9_price 93 = .ok (.goto 5, 3) := by decide +kernel
theorem dX9_price_96 : decode cX9_price 96 = .ok (.bipush (-2), 2) := by decide +kernel
theorem dX9_price_98 : decode cX9_price 98 = .ok (.ireturn, 1) := by decide +kernel
theorem dX9_price_99 : decode cX9_price 99 = .ok (.aload_n 1, 1) := by decide +kernel
theorem dX9_price_100 : decode cX9_price 100 = .ok (.getfield 57, 3) := by decide +kernel
theorem dX9_price_103 : decode cX9_price 103 = .ok (.iload_n 3, 1) := by decide +kernel
theorem dX9_price_104 : decode cX9_price 104 = .ok (.lshr, 1) := by decide +kernel
theorem dX9_price_105 : decode cX9_price 105 = .ok (.lconst 1, 1) := by decide +kernel
theorem dX9_price_106 : decode cX9_price 106 = .ok (.land, 1) := by decide +kernel
theorem dX9_price_107 : decode cX9_price 107 = .ok (.lconst 1, 1) := by decide +kernel
theorem dX9_price_108 : decode cX9_price 108 = .ok (.lcmp, 1) := by decide +kernel
theorem dX9_price_109 : decode cX9_price 109 = .ok (.ifCond .ne 8, 3) := by decide +kernel
theorem dX9_price_112 : decode cX9_price 112 = .ok (.aload 6, 2) := by decide +kernel
theorem dX9_price_114 : decode cX9_price 114 = .ok (.iload_n 3, 1) := by decide +kernel
theorem dX9_price_115 : decode cX9_price 115 = .ok (.iaload, 1) := by decide +kernel
theorem dX9_price_116 : decode cX9_price 116 = .ok (.ireturn, 1) := by decide +kernel
theorem dX9_price_117 : decode cX9_price 117 = .ok (.iconst 0, 1) := by decide +kernel
theorem dX9_price_118 : decode cX9_price 118 = .ok (.istore 7, 2) := by decide +kernel
theorem dX9_price_120 : decode cX9_price 120 = .ok (.iload 7, 2) := by decide +kernel
theorem dX9_price_122 : decode cX9_price 122 = .ok (.bipush 64, 2) := by decide +kernel
theorem dX9_price_124 : decode cX9_price 124 = .ok (.if_icmp .ge 72, 3) := by decide +kernel
theorem dX9_price_127 : decode cX9_price 127 = .ok (.aload_n 1, 1) := by decide +kernel
theorem dX9_price_128 : decode cX9_price 128 = .ok (.getfield 52, 3) := by decide +kernel
theorem dX9_price_131 : decode cX9_price 131 = .ok (.iload 7, 2) := by decide +kernel
theorem dX9_price_133 : decode cX9_price 133 = .ok (.iaload, 1) := by decide +kernel
theorem dX9_price_134 : decode cX9_price 134 = .ok (.istore 8, 2) := by decide +kernel
theorem dX9_price_136 : decode cX9_price 136 = .ok (.iload 7, 2) := by decide +kernel
theorem dX9_price_138 : decode cX9_price 138 = .ok (.iload_n 3, 1) := by decide +kernel
theorem dX9_price_139 : decode cX9_price 139 = .ok (.if_icmp .eq 51, 3) := by decide +kernel
theorem dX9_price_142 : decode cX9_price 142 = .ok (.iload 8, 2) := by decide +kernel
theorem dX9_price_144 : decode cX9_price 144 = .ok (.iload 4, 2) := by decide +kernel
theorem dX9_price_146 : decode cX9_price 146 = .ok (.if_icmp .ge 44, 3) := by decide +kernel
theorem dX9_price_149 : decode cX9_price 149 = .ok (.aload_n 0, 1) := by decide +kernel
theorem dX9_price_150 : decode cX9_price 150 = .ok (.getfield 20, 3) := by decide +kernel
theorem dX9_price_153 : decode cX9_price 153 = .ok (.iload_n 3, 1) := by decide +kernel
theorem dX9_price_154 : decode cX9_price 154 = .ok (.iload 7, 2) := by decide +kernel
theorem dX9_price_156 : decode cX9_price 156 = .ok (.iload 8, 2) := by decide +kernel
theorem dX9_price_158 : decode cX9_price 158 = .ok (.invokevirtual 67, 3) := by decide +kernel
theorem dX9_price_161 : decode cX9_price 161 = .ok (.istore 9, 2) := by decide +kernel
theorem dX9_price_163 : decode cX9_price 163 = .ok (.iload 9, 2) := by decide +kernel
theorem dX9_price_165 : decode cX9_price 165 = .ok (.iconst (-1), 1) := by decide +kernel
theorem dX9_price_166 : decode cX9_price 166 = .ok (.if_icmp .eq 24, 3) := by decide +kernel
theorem dX9_price_169 : decode cX9_price 169 = .ok (.iload 8, 2) := by decide +kernel
theorem dX9_price_171 : decode cX9_price 171 = .ok (.iload 9, 2) := by decide +kernel
theorem dX9_price_173 : decode cX9_price 173 = .ok (.iadd, 1) := by decide +kernel
theorem dX9_price_174 : decode cX9_price 174 = .ok (.iload 4, 2) := by decide +kernel
theorem dX9_price_176 : decode cX9_price 176 = .ok (.if_icmp .ge 14, 3) := by decide +kernel
theorem dX9_price_179 : decode cX9_price 179 = .ok (.iload 8, 2) := by decide +kernel
theorem dX9_price_181 : decode cX9_price 181 = .ok (.iload 9, 2) := by decide +kernel
theorem dX9_price_183 : decode cX9_price 183 = .ok (.iadd, 1) := by decide +kernel
theorem dX9_price_184 : decode cX9_price 184 = .ok (.istore 4, 2) := by decide +kernel
theorem dX9_price_186 : decode cX9_price 186 = .ok (.iload 7, 2) := by decide +kernel
theorem dX9_price_188 : decode cX9_price 188 = .ok (.istore 5, 2) := by decide +kernel
theorem dX9_price_190 : decode cX9_price 190 = .ok (.iinc 7 1, 3) := by decide +kernel
theorem dX9_price_193 : decode cX9_price 193 = .ok (.goto (-73), 3) := by decide +kernel
theorem dX9_price_196 : decode cX9_price 196 = .ok (.aload_n 1, 1) := by decide +kernel
theorem dX9_price_197 : decode cX9_price 197 = .ok (.dup, 1) := by decide +kernel
theorem dX9_price_198 : decode cX9_price 198 = .ok (.getfield 57, 3) := by decide +kernel
theorem dX9_price_201 : decode cX9_price 201 = .ok (.lconst 1, 1) := by decide +kernel
theorem dX9_price_202 : decode cX9_price 202 = .ok (.iload_n 3, 1) := by decide +kernel
theorem dX9_price_203 : decode cX9_price 203 = .ok (.lshl, 1) := by decide +kernel
theorem dX9_price_204 : decode cX9_price 204 = .ok (.lor, 1) := by decide +kernel
theorem dX9_price_205 : decode cX9_price 205 = .ok (.putfield 57, 3) := by decide +kernel
theorem dX9_price_208 : decode cX9_price 208 = .ok (.aload 6, 2) := by decide +kernel
theorem dX9_price_210 : decode cX9_price 210 = .ok (.iload_n 3, 1) := by decide +kernel
theorem dX9_price_211 : decode cX9_price 211 = .ok (.iload 4, 2) := by decide +kernel
theorem dX9_price_213 : decode cX9_price 213 = .ok (.ldc 47, 2) := by decide +kernel
theorem dX9_price_215 : decode cX9_price 215 = .ok (.if_icmp .ge 14, 3) := by decide +kernel
theorem dX9_price_218 : decode cX9_price 218 = .ok (.iload 4, 2) := by decide +kernel
theorem dX9_price_220 : decode cX9_price 220 = .ok (.bipush 6, 2) := by decide +kernel
theorem dX9_price_222 : decode cX9_price 222 = .ok (.ishl, 1) := by decide +kernel
theorem dX9_price_223 : decode cX9_price 223 = .ok (.iload 5, 2) := by decide +kernel
theorem dX9_price_225 : decode cX9_price 225 = .ok (.ior, 1) := by decide +kernel
theorem dX9_price_226 : decode cX9_price 226 = .ok (.goto 5, 3) := by decide +kernel
theorem dX9_price_229 : decode cX9_price 229 = .ok (.bipush (-2), 2) := by decide +kernel
theorem dX9_price_231 : decode cX9_price 231 = .ok (.iastore, 1) := by decide +kernel
theorem dX9_price_232 : decode cX9_price 232 = .ok (.aload 6, 2) := by decide +kernel
theorem dX9_price_234 : decode cX9_price 234 = .ok (.iload_n 3, 1) := by decide +kernel
theorem dX9_price_235 : decode cX9_price 235 = .ok (.iaload, 1) := by decide +kernel
theorem dX9_price_236 : decode cX9_price 236 = .ok (.ireturn, 1) := by decide +kernel
theorem dX9_yearly_0 : decode cX9_yearly 0 = .ok (.lconst 0, 1) := by decide +kernel
theorem dX9_yearly_1 : decode cX9_yearly 1 = .ok (.lstore_n 3, 1) := by decide +kernel
theorem dX9_yearly_2 : decode cX9_yearly 2 = .ok (.iconst 0, 1) := by decide +kernel
theorem dX9_yearly_3 : decode cX9_yearly 3 = .ok (.istore 5, 2) := by decide +kernel
theorem dX9_yearly_5 : decode cX9_yearly 5 = .ok (.iload 5, 2) := by decide +kernel
theorem dX9_yearly_7 : decode cX9_yearly 7 = .ok (.aload_n 0, 1) := by decide +kernel
theorem dX9_yearly_8 : decode cX9_yearly 8 = .ok (.getfield 28, 3) := by decide +kernel
theorem dX9_yearly_11 : decode cX9_yearly 11 = .ok (.getfield 71, 3) := by decide +kernel
theorem dX9_yearly_14 : decode cX9_yearly 14 = .ok (.if_icmp .ge 117, 3) := by decide +kernel
theorem dX9_yearly_17 : decode cX9_yearly 17 = .ok (.iload 5, 2) := by decide +kernel
theorem dX9_yearly_19 : decode cX9_yearly 19 = .ok (.bipush 24, 2) := by decide +kernel
theorem dX9_yearly_21 : decode cX9_yearly 21 = .ok (.if_icmp .ge 110, 3) := by decide +kernel
theorem dX9_yearly_24 : decode cX9_yearly 24 = .ok (.iload_n 2, 1) := by decide +kernel
theorem dX9_yearly_25 : decode cX9_yearly 25 = .ok (.iconst (-1), 1) := by decide +kernel
theorem dX9_yearly_26 : decode cX9_yearly 26 = .ok (.if_icmp .eq 17, 3) := by decide +kernel
theorem dX9_yearly_29 : decode cX9_yearly 29 = .ok (.aload_n 0, 1) := by decide +kernel
theorem dX9_yearly_30 : decode cX9_yearly 30 = .ok (.getfield 28, 3) := by decide +kernel
theorem dX9_yearly_33 : decode cX9_yearly 33 = .ok (.getfield 76, 3) := by decide +kernel
theorem dX9_yearly_36 : decode cX9_yearly 36 = .ok (.iload 5, 2) := by decide +kernel
theorem dX9_yearly_38 : decode cX9_yearly 38 = .ok (.iaload, 1) := by decide +kernel
theorem dX9_yearly_39 : decode cX9_yearly 39 = .ok (.iload_n 2, 1) := by decide +kernel
theorem dX9_yearly_40 : decode cX9_yearly 40 = .ok (.if_icmp .ne 85, 3) := by decide +kernel
theorem dX9_yearly_43 : decode cX9_yearly 43 = .ok (.aload_n 0, 1) := by decide +kernel
theorem dX9_yearly_44 : decode cX9_yearly 44 = .ok (.getfield 28, 3) := by decide +kernel
theorem dX9_yearly_47 : decode cX9_yearly 47 = .ok (.getfield 79, 3) := by decide +kernel
theorem dX9_yearly_50 : decode cX9_yearly 50 = .ok (.iload 5, 2) := by decide +kernel
theorem dX9_yearly_52 : decode cX9_yearly 52 = .ok (.iaload, 1) := by decide +kernel
theorem dX9_yearly_53 : decode cX9_yearly 53 = .ok (.ifCond .le 72, 3) := by decide +kernel
theorem dX9_yearly_56 : decode cX9_yearly 56 = .ok (.aload_n 0, 1) := by decide +kernel
theorem dX9_yearly_57 : decode cX9_yearly 57 = .ok (.aload_n 1, 1) := by decide +kernel
theorem dX9_yearly_58 : decode cX9_yearly 58 = .ok (.aload_n 0, 1) := by decide +kernel
theorem dX9_yearly_59 : decode cX9_yearly 59 = .ok (.getfield 28, 3) := by decide +kernel
theorem dX9_yearly_62 : decode cX9_yearly 62 = .ok (.getfield 82, 3) := by decide +kernel
theorem dX9_yearly_65 : decode cX9_yearly 65 = .ok (.iload 5, 2) := by decide +kernel
theorem dX9_yearly_67 : decode cX9_yearly 67 = .ok (.iaload, 1) := by decide +kernel
theorem dX9_yearly_68 : decode cX9_yearly 68 = .ok (.invokevirtual 85, 3) := by decide +kernel
theorem dX9_yearly_71 : decode cX9_yearly 71 = .ok (.istore 6, 2) := by decide +kernel
theorem dX9_yearly_73 : decode cX9_yearly 73 = .ok (.iload 6, 2) := by decide +kernel
theorem dX9_yearly_75 : decode cX9_yearly 75 = .ok (.bipush (-2), 2) := by decide +kernel
theorem dX9_yearly_77 : decode cX9_yearly 77 = .ok (.if_icmp .ne 13, 3) := by decide +kernel
theorem dX9_yearly_80 : decode cX9_yearly 80 = .ok (.aload_n 0, 1) := by decide +kernel
theorem dX9_yearly_81 : decode cX9_yearly 81 = .ok (.getfield 28, 3) := by decide +kernel
theorem dX9_yearly_84 : decode cX9_yearly 84 = .ok (.getfield 89, 3) := by decide +kernel
theorem dX9_yearly_87 : decode cX9_yearly 87 = .ok (.goto 18, 3) := by decide +kernel
theorem dX9_yearly_90 : decode cX9_yearly 90 = .ok (.iload 6, 2) := by decide +kernel
theorem dX9_yearly_92 : decode cX9_yearly 92 = .ok (.bipush 6, 2) := by decide +kernel
theorem dX9_yearly_94 : decode cX9_yearly 94 = .ok (.ishr, 1) := by decide +kernel
theorem dX9_yearly_95 : decode cX9_yearly 95 = .ok (.aload_n 0, 1) := by decide +kernel
theorem dX9_yearly_96 : decode cX9_yearly 96 = .ok (.getfield 28, 3) := by decide +kernel
theorem dX9_yearly_99 : decode cX9_yearly 99 = .ok (.getfield 89, 3) := by decide +kernel
theorem dX9_yearly_102 : decode cX9_yearly 102 = .ok (.invokestatic 92, 3) := by decide +kernel
theorem dX9_yearly_105 : decode cX9_yearly 105 = .ok (.istore 7, 2) := by decide +kernel
theorem dX9_yearly_107 : decode cX9_yearly 107 = .ok (.lload_n 3, 1) := by decide +kernel
theorem dX9_yearly_108 : decode cX9_yearly 108 = .ok (.aload_n 0, 1) := by decide +kernel
theorem dX9_yearly_109 : decode cX9_yearly 109 = .ok (.getfield 28, 3) := by decide +kernel
theorem dX9_yearly_112 : decode cX9_yearly 112 = .ok (.getfield 79, 3) := by decide +kernel
theorem dX9_yearly_115 : decode cX9_yearly 115 = .ok (.iload 5, 2) := by decide +kernel
theorem dX9_yearly_117 : decode cX9_yearly 117 = .ok (.iaload, 1) := by decide +kernel
theorem dX9_yearly_118 : decode cX9_yearly 118 = .ok (.i2l, 1) := by decide +kernel
theorem dX9_yearly_119 : decode cX9_yearly 119 = .ok (.iload 7, 2) := by decide +kernel
theorem dX9_yearly_121 : decode cX9_yearly 121 = .ok (.i2l, 1) := by decide +kernel
theorem dX9_yearly_122 : decode cX9_yearly 122 = .ok (.lmul, 1) := by decide +kernel
theorem dX9_yearly_123 : decode cX9_yearly 123 = .ok (.ladd, 1) := by decide +kernel
theorem dX9_yearly_124 : decode cX9_yearly 124 = .ok (.lstore_n 3, 1) := by decide +kernel
theorem dX9_yearly_125 : decode cX9_yearly 125 = .ok (.iinc 5 1, 3) := by decide +kernel
theorem dX9_yearly_128 : decode cX9_yearly 128 = .ok (.goto (-123), 3) := by decide +kernel
theorem dX9_yearly_131 : decode cX9_yearly 131 = .ok (.lload_n 3, 1) := by decide +kernel
theorem dX9_yearly_132 : decode cX9_yearly 132 = .ok (.lreturn, 1) := by decide +kernel
theorem dX9_missed_0 : decode cX9_missed 0 = .ok (.aload_n 0, 1) := by decide +kernel
theorem dX9_missed_1 : decode cX9_missed 1 = .ok (.iload_n 1, 1) := by decide +kernel
theorem dX9_missed_2 : decode cX9_missed 2 = .ok (.invokevirtual 98, 3) := by decide +kernel
theorem dX9_missed_5 : decode cX9_missed 5 = .ok (.astore_n 2, 1) := by decide +kernel
theorem dX9_missed_6 : decode cX9_missed 6 = .ok (.iconst 0, 1) := by decide +kernel
theorem dX9_missed_7 : decode cX9_missed 7 = .ok (.istore_n 3, 1) := by decide +kernel
theorem dX9_missed_8 : decode cX9_missed 8 = .ok (.iconst 0, 1) := by decide +kernel
theorem dX9_missed_9 : decode cX9_missed 9 = .ok (.istore 4, 2) := by decide +kernel
theorem dX9_missed_11 : decode cX9_missed 11 = .ok (.iload 4, 2) := by decide +kernel
theorem dX9_missed_13 : decode cX9_missed 13 = .ok (.aload_n 0, 1) := by decide +kernel
theorem dX9_missed_14 : decode cX9_missed 14 = .ok (.getfield 28, 3) := by decide +kernel
theorem dX9_missed_17 : decode cX9_missed 17 = .ok (.getfield 71, 3) := by decide +kernel
theorem dX9_missed_20 : decode cX9_missed 20 = .ok (.if_icmp .ge 78, 3) := by decide +kernel
theorem dX9_missed_23 : decode cX9_missed 23 = .ok (.iload 4, 2) := by decide +kernel
theorem dX9_missed_25 : decode cX9_missed 25 = .ok (.bipush 24, 2) := by decide +kernel
theorem dX9_missed_27 : decode cX9_missed 27 = .ok (.if_icmp .ge 71, 3) := by decide +kernel
theorem dX9_missed_30 : decode cX9_missed 30 = .ok (.aload_n 0, 1) := by decide +kernel
theorem dX9_missed_31 : decode cX9_missed 31 = .ok (.getfield 28, 3) := by decide +kernel
theorem dX9_missed_34 : decode cX9_missed 34 = .ok (.getfield 102, 3) := by decide +kernel
theorem dX9_missed_37 : decode cX9_missed 37 = .ok (.iload 4, 2) := by decide +kernel
theorem dX9_missed_39 : decode cX9_missed 39 = .ok (.iaload, 1) := by decide +kernel
theorem dX9_missed_40 : decode cX9_missed 40 = .ok (.ifCond .le 52, 3) := by decide +kernel
theorem dX9_missed_43 : decode cX9_missed 43 = .ok (.aload_n 0, 1) := by decide +kernel
theorem dX9_missed_44 : decode cX9_missed 44 = .ok (.aload_n 2, 1) := by decide +kernel
theorem dX9_missed_45 : decode cX9_missed 45 = .ok (.aload_n 0, 1) := by decide +kernel
theorem dX9_missed_46 : decode cX9_missed 46 = .ok (.getfield 28, 3) := by decide +kernel
theorem dX9_missed_49 : decode cX9_missed 49 = .ok (.getfield 82, 3) := by decide +kernel
theorem dX9_missed_52 : decode cX9_missed 52 = .ok (.iload 4, 2) := by decide +kernel
theorem dX9_missed_54 : decode cX9_missed 54 = .ok (.iaload, 1) := by decide +kernel
theorem dX9_missed_55 : decode cX9_missed 55 = .ok (.invokevirtual 85, 3) := by decide +kernel
theorem dX9_missed_58 : decode cX9_missed 58 = .ok (.istore 5, 2) := by decide +kernel
theorem dX9_missed_60 : decode cX9_missed 60 = .ok (.iload 5, 2) := by decide +kernel
theorem dX9_missed_62 : decode cX9_missed 62 = .ok (.bipush (-2), 2) := by decide +kernel
theorem dX9_missed_64 : decode cX9_missed 64 = .ok (.if_icmp .eq 21, 3) := by decide +kernel
theorem dX9_missed_67 : decode cX9_missed 67 = .ok (.iload 5, 2) := by decide +kernel
theorem dX9_missed_69 : decode cX9_missed 69 = .ok (.bipush 6, 2) := by decide +kernel
theorem dX9_missed_71 : decode cX9_missed 71 = .ok (.ishr, 1) := by decide +kernel
theorem dX9_missed_72 : decode cX9_missed 72 = .ok (.aload_n 0, 1) := by decide +kernel
theorem dX9_missed_73 : decode cX9_missed 73 = .ok (.getfield 28, 3) := by decide +kernel
theorem dX9_missed_76 : decode cX9_missed 76 = .ok (.getfield 102, 3) := by decide +kernel
theorem dX9_missed_79 : decode cX9_missed 79 = .ok (.iload 4, 2) := by decide +kernel
theorem dX9_missed_81 : decode cX9_missed 81 = .ok (.iaload, 1) := by decide +kernel
theorem dX9_missed_82 : decode cX9_missed 82 = .ok (.if_icmp .le 10, 3) := by decide +kernel
theorem dX9_missed_85 : decode cX9_missed 85 = .ok (.iload_n 3, 1) := by decide +kernel
theorem dX9_missed_86 : decode cX9_missed 86 = .ok (.iconst 1, 1) := by decide +kernel
theorem dX9_missed_87 : decode cX9_missed 87 = .ok (.iload 4, 2) := by decide +kernel
theorem dX9_missed_89 : decode cX9_missed 89 = .ok (.ishl, 1) := by decide +kernel
theorem dX9_missed_90 : decode cX9_missed 90 = .ok (.ior, 1) := by decide +kernel
theorem dX9_missed_91 : decode cX9_missed 91 = .ok (.istore_n 3, 1) := by decide +kernel
theorem dX9_missed_92 : decode cX9_missed 92 = .ok (.iinc 4 1, 3) := by decide +kernel
theorem dX9_missed_95 : decode cX9_missed 95 = .ok (.goto (-84), 3) := by decide +kernel
theorem dX9_missed_98 : decode cX9_missed 98 = .ok (.iload_n 3, 1) := by decide +kernel
theorem dX9_missed_99 : decode cX9_missed 99 = .ok (.ireturn, 1) := by decide +kernel
theorem dX9_childsWord_0 : decode cX9_childsWord 0 = .ok (.aload_n 0, 1) := by decide +kernel
theorem dX9_childsWord_1 : decode cX9_childsWord 1 = .ok (.aload_n 0, 1) := by decide +kernel
theorem dX9_childsWord_2 : decode cX9_childsWord 2 = .ok (.getfield 24, 3) := by decide +kernel
theorem dX9_childsWord_5 : decode cX9_childsWord 5 = .ok (.getfield 105, 3) := by decide +kernel
theorem dX9_childsWord_8 : decode cX9_childsWord 8 = .ok (.invokevirtual 98, 3) := by decide +kernel
theorem dX9_childsWord_11 : decode cX9_childsWord 11 = .ok (.astore_n 3, 1) := by decide +kernel
theorem dX9_childsWord_12 : decode cX9_childsWord 12 = .ok (.aload_n 0, 1) := by decide +kernel
theorem dX9_childsWord_13 : decode cX9_childsWord 13 = .ok (.aload_n 3, 1) := by decide +kernel
theorem dX9_childsWord_14 : decode cX9_childsWord 14 = .ok (.iconst (-1), 1) := by decide +kernel
theorem dX9_childsWord_15 : decode cX9_childsWord 15 = .ok (.invokevirtual 110, 3) := by decide +kernel
theorem dX9_childsWord_18 : decode cX9_childsWord 18 = .ok (.lstore 4, 2) := by decide +kernel
theorem dX9_childsWord_20 : decode cX9_childsWord 20 = .ok (.lconst 0, 1) := by decide +kernel
theorem dX9_childsWord_21 : decode cX9_childsWord 21 = .ok (.lstore 6, 2) := by decide +kernel
theorem dX9_childsWord_23 : decode cX9_childsWord 23 = .ok (.iconst (-1), 1) := by decide +kernel
theorem dX9_childsWord_24 : decode cX9_childsWord 24 = .ok (.istore 8, 2) := by decide +kernel
theorem dX9_childsWord_26 : decode cX9_childsWord 26 = .ok (.iconst 0, 1) := by decide +kernel
theorem dX9_childsWord_27 : decode cX9_childsWord 27 = .ok (.istore 9, 2) := by decide +kernel
theorem dX9_childsWord_29 : decode cX9_childsWord 29 = .ok (.iload 9, 2) := by decide +kernel
theorem dX9_childsWord_31 : decode cX9_childsWord 31 = .ok (.bipush 64, 2) := by decide +kernel
theorem dX9_childsWord_33 : decode cX9_childsWord 33 = .ok (.if_icmp .ge 74, 3) := by decide +kernel
theorem dX9_childsWord_36 : decode cX9_childsWord 36 = .ok (.lload 4, 2) := by decide +kernel
theorem dX9_childsWord_38 : decode cX9_childsWord 38 = .ok (.lstore 10, 2) := by decide +kernel
theorem dX9_childsWord_40 : decode cX9_childsWord 40 = .ok (.iload_n 1, 1) := by decide +kernel
theorem dX9_childsWord_41 : decode cX9_childsWord 41 = .ok (.aload_n 3, 1) := by decide +kernel
theorem dX9_childsWord_42 : decode cX9_childsWord 42 = .ok (.getfield 52, 3) := by decide +kernel
theorem dX9_childsWord_45 : decode cX9_childsWord 45 = .ok (.iload 9, 2) := by decide +kernel
theorem dX9_childsWord_47 : decode cX9_childsWord 47 = .ok (.iaload, 1) := by decide +kernel
theorem dX9_childsWord_48 : decode cX9_childsWord 48 = .ok (.if_icmp .ge 31, 3) := by decide +kernel
theorem dX9_childsWord_51 : decode cX9_childsWord 51 = .ok (.aload_n 0, 1) := by decide +kernel
theorem dX9_childsWord_52 : decode cX9_childsWord 52 = .ok (.getfield 35, 3) := by decide +kernel
theorem dX9_childsWord_55 : decode cX9_childsWord 55 = .ok (.aload_n 0, 1) := by decide +kernel
theorem dX9_childsWord_56 : decode cX9_childsWord 56 = .ok (.getfield 24, 3) := by decide +kernel
theorem dX9_childsWord_59 : decode cX9_childsWord 59 = .ok (.getfield 105, 3) := by decide +kernel
theorem dX9_childsWord_62 : decode cX9_childsWord 62 = .ok (.iload 9, 2) := by decide +kernel
theorem dX9_childsWord_64 : decode cX9_childsWord 64 = .ok (.iload_n 1, 1) := by decide +kernel
theorem dX9_childsWord_65 : decode cX9_childsWord 65 = .ok (.invokevirtual 48, 3) := by decide +kernel
theorem dX9_childsWord_68 : decode cX9_childsWord 68 = .ok (.aload_n 0, 1) := by decide +kernel
theorem dX9_childsWord_69 : decode cX9_childsWord 69 = .ok (.aload_n 0, 1) := by decide +kernel
theorem dX9_childsWord_70 : decode cX9_childsWord 70 = .ok (.getfield 35, 3) := by decide +kernel
theorem dX9_childsWord_73 : decode cX9_childsWord 73 = .ok (.iconst (-1), 1) := by decide +kernel
theorem dX9_childsWord_74 : decode cX9_childsWord 74 = .ok (.invokevirtual 110, 3) := by decide +kernel
theorem dX9_childsWord_77 : decode cX9_childsWord 77 = .ok (.lstore 10, 2) := by decide +kernel
theorem dX9_childsWord_79 : decode cX9_childsWord 79 = .ok (.iload 8, 2) := by decide +kernel
theorem dX9_childsWord_81 : decode cX9_childsWord 81 = .ok (.iconst (-1), 1) := by decide +kernel
theorem dX9_childsWord_82 : decode cX9_childsWord 82 = .ok (.if_icmp .eq 11, 3) := by decide +kernel
theorem dX9_childsWord_85 : decode cX9_childsWord 85 = .ok (.lload 10, 2) := by decide +kernel
theorem dX9_childsWord_87 : decode cX9_childsWord 87 = .ok (.lload 6, 2) := by decide +kernel
theorem dX9_childsWord_89 : decode cX9_childsWord 89 = .ok (.lcmp, 1) := by decide +kernel
theorem dX9_childsWord_90 : decode cX9_childsWord 90 = .ok (.ifCond .ge 11, 3) := by decide +kernel
theorem dX9_childsWord_93 : decode cX9_childsWord 93 = .ok (.lload 10, 2) := by decide +kernel
theorem dX9_childsWord_95 : decode cX9_childsWord 95 = .ok (.lstore 6, 2) := by decide +kernel
theorem dX9_childsWord_97 : decode cX9_childsWord 97 = .ok (.iload 9, 2) := by decide +kernel
theorem dX9_childsWord_99 : decode cX9_childsWord 99 = .ok (.istore 8, 2) := by decide +kernel
theorem dX9_childsWord_101 : decode cX9_childsWord 101 = .ok (.iinc 9 1, 3) := by decide +kernel
theorem dX9_childsWord_104 : decode cX9_childsWord 104 = .ok (.goto (-75), 3) := by decide +kernel
theorem dX9_childsWord_107 : decode cX9_childsWord 107 = .ok (.iload_n 2, 1) := by decide +kernel
theorem dX9_childsWord_108 : decode cX9_childsWord 108 = .ok (.ifCond .ne 9, 3) := by decide +kernel
theorem dX9_childsWord_111 : decode cX9_childsWord 111 = .ok (.iload 8, 2) := by decide +kernel
theorem dX9_childsWord_113 : decode cX9_childsWord 113 = .ok (.i2l, 1) := by decide +kernel
theorem dX9_childsWord_114 : decode cX9_childsWord 114 = .ok (.goto 8, 3) := by decide +kernel
theorem dX9_childsWord_117 : decode cX9_childsWord 117 = .ok (.lload 4, 2) := by decide +kernel
theorem dX9_childsWord_119 : decode cX9_childsWord 119 = .ok (.lload 6, 2) := by decide +kernel
theorem dX9_childsWord_121 : decode cX9_childsWord 121 = .ok (.lsub, 1) := by decide +kernel
theorem dX9_childsWord_122 : decode cX9_childsWord 122 = .ok (.lreturn, 1) := by decide +kernel
theorem dX10_init_0 : decode cX10_init 0 = .ok (.aload_n 0, 1) := by decide +kernel
theorem dX10_init_1 : decode cX10_init 1 = .ok (.invokespecial 3, 3) := by decide +kernel
theorem dX10_init_4 : decode cX10_init 4 = .ok (.aload_n 0, 1) := by decide +kernel
theorem dX10_init_5 : decode cX10_init 5 = .ok (.aload_n 1, 1) := by decide +kernel
theorem dX10_init_6 : decode cX10_init 6 = .ok (.putfield 9, 3) := by decide +kernel
theorem dX10_init_9 : decode cX10_init 9 = .ok (.aload_n 0, 1) := by decide +kernel
theorem dX10_init_10 : decode cX10_init 10 = .ok (.aload_n 2, 1) := by decide +kernel
theorem dX10_init_11 : decode cX10_init 11 = .ok (.putfield 15, 3) := by decide +kernel
theorem dX10_init_14 : decode cX10_init 14 = .ok (.return_, 1) := by decide +kernel
theorem dX10_cheapest_0 : decode cX10_cheapest 0 = .ok (.iconst (-1), 1) := by decide +kernel
theorem dX10_cheapest_1 : decode cX10_cheapest 1 = .ok (.istore_n 2, 1) := by decide +kernel
theorem dX10_cheapest_2 : decode cX10_cheapest 2 = .ok (.lconst 0, 1) := by decide +kernel
theorem dX10_cheapest_3 : decode cX10_cheapest 3 = .ok (.lstore_n 3, 1) := by decide +kernel
theorem dX10_cheapest_4 : decode cX10_cheapest 4 = .ok (.iconst 0, 1) := by decide +kernel
theorem dX10_cheapest_5 : decode cX10_cheapest 5 = .ok (.istore 5, 2) := by decide +kernel
theorem dX10_cheapest_7 : decode cX10_cheapest 7 = .ok (.iload 5, 2) := by decide +kernel
theorem dX10_cheapest_9 : decode cX10_cheapest 9 = .ok (.bipush 10, 2) := by decide +kernel
theorem dX10_cheapest_11 : decode cX10_cheapest 11 = .ok (.if_icmp .ge 59, 3) := by decide +kernel
theorem dX10_cheapest_14 : decode cX10_cheapest 14 = .ok (.iload_n 1, 1) := by decide +kernel
theorem dX10_cheapest_15 : decode cX10_cheapest 15 = .ok (.iload 5, 2) := by decide +kernel
theorem dX10_cheapest_17 : decode cX10_cheapest 17 = .ok (.invokestatic 19, 3) := by decide +kernel
theorem dX10_cheapest_20 : decode cX10_cheapest 20 = .ok (.ifCond .eq 44, 3) := by decide +kernel
theorem dX10_cheapest_23 : decode cX10_cheapest 23 = .ok (.aload_n 0, 1) := by decide +kernel
theorem dX10_cheapest_24 : decode cX10_cheapest 24 = .ok (.getfield 15, 3) := by decide +kernel
theorem dX10_cheapest_27 : decode cX10_cheapest 27 = .ok (.aload_n 0, 1) := by decide +kernel
theorem dX10_cheapest_28 : decode cX10_cheapest 28 = .ok (.getfield 15, 3) := by decide +kernel
theorem dX10_cheapest_31 : decode cX10_cheapest 31 = .ok (.iload_n 1, 1) := by decide +kernel
theorem dX10_cheapest_32 : decode cX10_cheapest 32 = .ok (.iload 5, 2) := by decide +kernel
theorem dX10_cheapest_34 : decode cX10_cheapest 34 = .ok (.invokestatic 23, 3) := by decide +kernel
theorem dX10_cheapest_37 : decode cX10_cheapest 37 = .ok (.invokevirtual 27, 3) := by decide +kernel
theorem dX10_cheapest_40 : decode cX10_cheapest 40 = .ok (.iconst (-1), 1) := by decide +kernel
theorem dX10_cheapest_41 : decode cX10_cheapest 41 = .ok (.invokevirtual 33, 3) := by decide +kernel
theorem dX10_cheapest_44 : decode cX10_cheapest 44 = .ok (.lstore 6, 2) := by decide +kernel
theorem dX10_cheapest_46 : decode cX10_cheapest 46 = .ok (.iload_n 2, 1) := by decide +kernel
theorem dX10_cheapest_47 : decode cX10_cheapest 47 = .ok (.iconst (-1), 1) := by decide +kernel
theorem dX10_cheapest_48 : decode cX10_cheapest 48 = .ok (.if_icmp .eq 10, 3) := by decide +kernel
theorem dX10_cheapest_51 : decode cX10_cheapest 51 = .ok (.lload 6, 2) := by decide +kernel
theorem dX10_cheapest_53 : decode cX10_cheapest 53 = .ok (.lload_n 3, 1) := by decide +kernel
theorem dX10_cheapest_54 : decode cX10_cheapest 54 = .ok (.lcmp, 1) := by decide +kernel
theorem dX10_cheapest_55 : decode cX10_cheapest 55 = .ok (.ifCond .ge 9, 3) := by decide +kernel
theorem dX10_cheapest_58 : decode cX10_cheapest 58 = .ok (.iload 5, 2) := by decide +kernel
theorem dX10_cheapest_60 : decode cX10_cheapest 60 = .ok (.istore_n 2, 1) := by decide +kernel
theorem dX10_cheapest_61 : decode cX10_cheapest 61 = .ok (.lload 6, 2) := by decide +kernel
theorem dX10_cheapest_63 : decode cX10_cheapest 63 = .ok (.lstore_n 3, 1) := by decide +kernel
theorem dX10_cheapest_64 : decode cX10_cheapest 64 = .ok (.iinc 5 1, 3) := by decide +kernel
theorem dX10_cheapest_67 : decode cX10_cheapest 67 = .ok (.goto (-60), 3) := by decide +kernel
theorem dX10_cheapest_70 : decode cX10_cheapest 70 = .ok (.iload_n 2, 1) := by decide +kernel
theorem dX10_cheapest_71 : decode cX10_cheapest 71 = .ok (.ireturn, 1) := by decide +kernel
theorem dX10_canStrike_0 : decode cX10_canStrike 0 = .ok (.iload_n 1, 1) := by decide +kernel
theorem dX10_canStrike_1 : decode cX10_canStrike 1 = .ok (.iconst 1, 1) := by decide +kernel
theorem dX10_canStrike_2 : decode cX10_canStrike 2 = .ok (.bipush 6, 2) := by decide +kernel
theorem dX10_canStrike_4 : decode cX10_canStrike 4 = .ok (.invokestatic 37, 3) := by decide +kernel
theorem dX10_canStrike_7 : decode cX10_canStrike 7 = .ok (.ifCond .eq 21, 3) := by decide +kernel
theorem dX10_canStrike_10 : decode cX10_canStrike 10 = .ok (.iload_n 1, 1) := by decide +kernel
theorem dX10_canStrike_11 : decode cX10_canStrike 11 = .ok (.aload_n 0, 1) := by decide +kernel
theorem dX10_canStrike_12 : decode cX10_canStrike 12 = .ok (.getfield 9, 3) := by decide +kernel
theorem dX10_canStrike_15 : decode cX10_canStrike 15 = .ok (.getfield 41, 3) := by decide +kernel
theorem dX10_canStrike_18 : decode cX10_canStrike 18 = .ok (.invokestatic 47, 3) := by decide +kernel
theorem dX10_canStrike_21 : decode cX10_canStrike 21 = .ok (.if_icmp .gt 7, 3) := by decide +kernel
theorem dX10_canStrike_24 : decode cX10_canStrike 24 = .ok (.iconst 1, 1) := by decide +kernel
theorem dX10_canStrike_25 : decode cX10_canStrike 25 = .ok (.goto 4, 3) := by decide +kernel
theorem dX10_canStrike_28 : decode cX10_canStrike 28 = .ok (.iconst 0, 1) := by decide +kernel
theorem dX10_canStrike_29 : decode cX10_canStrike 29 = .ok (.ireturn, 1) := by decide +kernel
theorem dX10_plan_0 : decode cX10_plan 0 = .ok (.aload_n 0, 1) := by decide +kernel
theorem dX10_plan_1 : decode cX10_plan 1 = .ok (.getfield 9, 3) := by decide +kernel
theorem dX10_plan_4 : decode cX10_plan 4 = .ok (.getfield 41, 3) := by decide +kernel
theorem dX10_plan_7 : decode cX10_plan 7 = .ok (.istore_n 2, 1) := by decide +kernel
theorem dX10_plan_8 : decode cX10_plan 8 = .ok (.iload_n 2, 1) := by decide +kernel
theorem dX10_plan_9 : decode cX10_plan 9 = .ok (.invokestatic 47, 3) := by decide +kernel
theorem dX10_plan_12 : decode cX10_plan 12 = .ok (.iload_n 1, 1) := by decide +kernel
theorem dX10_plan_13 : decode cX10_plan 13 = .ok (.isub, 1) := by decide +kernel
theorem dX10_plan_14 : decode cX10_plan 14 = .ok (.istore_n 3, 1) := by decide +kernel
theorem dX10_plan_15 : decode cX10_plan 15 = .ok (.iconst 0, 1) := by decide +kernel
theorem dX10_plan_16 : decode cX10_plan 16 = .ok (.istore 4, 2) := by decide +kernel
theorem dX10_plan_18 : decode cX10_plan 18 = .ok (.iload 4, 2) := by decide +kernel
theorem dX10_plan_20 : decode cX10_plan 20 = .ok (.sipush 1024, 3) := by decide +kernel
theorem dX10_plan_23 : decode cX10_plan 23 = .ok (.if_icmp .ge 114, 3) := by decide +kernel
theorem dX10_plan_26 : decode cX10_plan 26 = .ok (.iload 4, 2) := by decide +kernel
theorem dX10_plan_28 : decode cX10_plan 28 = .ok (.iload_n 2, 1) := by decide +kernel
theorem dX10_plan_29 : decode cX10_plan 29 = .ok (.if_icmp .gt 108, 3) := by decide +kernel
theorem dX10_plan_32 : decode cX10_plan 32 = .ok (.iload 4, 2) := by decide +kernel
theorem dX10_plan_34 : decode cX10_plan 34 = .ok (.invokestatic 47, 3) := by decide +kernel
theorem dX10_plan_37 : decode cX10_plan 37 = .ok (.istore 5, 2) := by decide +kernel
theorem dX10_plan_39 : decode cX10_plan 39 = .ok (.iload 4, 2) := by decide +kernel
theorem dX10_plan_41 : decode cX10_plan 41 = .ok (.iload_n 2, 1) := by decide +kernel
theorem dX10_plan_42 : decode cX10_plan 42 = .ok (.iand, 1) := by decide +kernel
theorem dX10_plan_43 : decode cX10_plan 43 = .ok (.iload 4, 2) := by decide +kernel
theorem dX10_plan_45 : decode cX10_plan 45 = .ok (.if_icmp .ne 86, 3) := by decide +kernel
theorem dX10_plan_48 : decode cX10_plan 48 = .ok (.iload 5, 2) := by decide +kernel
theorem dX10_plan_50 : decode cX10_plan 50 = .ok (.iload_n 3, 1) := by decide +kernel
theorem dX10_plan_51 : decode cX10_plan 51 = .ok (.if_icmp .lt 80, 3) := by decide +kernel
theorem dX10_plan_54 : decode cX10_plan 54 = .ok (.aload_n 0, 1) := by decide +kernel
theorem dX10_plan_55 : decode cX10_plan 55 = .ok (.getfield 15, 3) := by decide +kernel
theorem dX10_plan_58 : decode cX10_plan 58 = .ok (.iload 4, 2) := by decide +kernel
theorem dX10_plan_60 : decode cX10_plan 60 = .ok (.invokevirtual 27, 3) := by decide +kernel
theorem dX10_plan_63 : decode cX10_plan 63 = .ok (.astore 6, 2) := by decide +kernel
theorem dX10_plan_65 : decode cX10_plan 65 = .ok (.aload 6, 2) := by decide +kernel
theorem dX10_plan_67 : decode cX10_plan 67 = .ok (.iload 4, 2) := by decide +kernel
theorem dX10_plan_69 : decode cX10_plan 69 = .ok (.iload_n 2, 1) := by decide +kernel
theorem dX10_plan_70 : decode cX10_plan 70 = .ok (.if_icmp .ne 7, 3) := by decide +kernel
theorem dX10_plan_73 : decode cX10_plan 73 = .ok (.lconst 0, 1) := by decide +kernel
theorem dX10_plan_74 : decode cX10_plan 74 = .ok (.goto 13, 3) := by decide +kernel
theorem dX10_plan_77 : decode cX10_plan 77 = .ok (.aload_n 0, 1) := by decide +kernel
theorem dX10_plan_78 : decode cX10_plan 78 = .ok (.getfield 15, 3) := by decide +kernel
theorem dX10_plan_81 : decode cX10_plan 81 = .ok (.aload 6, 2) := by decide +kernel
theorem dX10_plan_83 : decode cX10_plan 83 = .ok (.iconst (-1), 1) := by decide +kernel
theorem dX10_plan_84 : decode cX10_plan 84 = .ok (.invokevirtual 33, 3) := by decide +kernel
theorem dX10_plan_87 : decode cX10_plan 87 = .ok (.putfield 53, 3) := by decide +kernel
theorem dX10_plan_90 : decode cX10_plan 90 = .ok (.iload 5, 2) := by decide +kernel
theorem dX10_plan_92 : decode cX10_plan 92 = .ok (.iload_n 3, 1) := by decide +kernel
theorem dX10_plan_93 : decode cX10_plan 93 = .ok (.if_icmp .le 38, 3) := by decide +kernel
theorem dX10_plan_96 : decode cX10_plan 96 = .ok (.aload_n 0, 1) := by decide +kernel
theorem dX10_plan_97 : decode cX10_plan 97 = .ok (.iload 4, 2) := by decide +kernel
theorem dX10_plan_99 : decode cX10_plan 99 = .ok (.invokevirtual 59, 3) := by decide +kernel
theorem dX10_plan_102 : decode cX10_plan 102 = .ok (.istore 7, 2) := by decide +kernel
theorem dX10_plan_104 : decode cX10_plan 104 = .ok (.aload 6, 2) := by decide +kernel
theorem dX10_plan_106 : decode cX10_plan 106 = .ok (.dup, 1) := by decide +kernel
theorem dX10_plan_107 : decode cX10_plan 107 = .ok (.getfield 53, 3) := by decide +kernel
theorem dX10_plan_110 : decode cX10_plan 110 = .ok (.aload_n 0, 1) := by decide +kernel
theorem dX10_plan_111 : decode cX10_plan 111 = .ok (.getfield 15, 3) := by decide +kernel
theorem dX10_plan_114 : decode cX10_plan 114 = .ok (.iload 4, 2) := by decide +kernel
theorem dX10_plan_116 : decode cX10_plan 116 = .ok (.iload 7, 2) := by decide +kernel
theorem dX10_plan_118 : decode cX10_plan 118 = .ok (.invokestatic 23, 3) := by decide +kernel
theorem dX10_plan_121 : decode cX10_plan 121 = .ok (.invokevirtual 27, 3) := by decide +kernel
theorem dX10_plan_124 : decode cX10_plan 124 = .ok (.getfield 53, 3) := by decide +kernel
theorem dX10_plan_127 : decode cX10_plan 127 = .ok (.ladd, 1) := by decide +kernel
theorem dX10_plan_128 : decode cX10_plan 128 = .ok (.putfield 53, 3) := by decide +kernel
theorem dX10_plan_131 : decode cX10_plan 131 = .ok (.iinc 4 1, 3) := by decide +kernel
theorem dX10_plan_134 : decode cX10_plan 134 = .ok (.goto (-116), 3) := by decide +kernel
theorem dX10_plan_137 : decode cX10_plan 137 = .ok (.aload_n 0, 1) := by decide +kernel
theorem dX10_plan_138 : decode cX10_plan 138 = .ok (.getfield 15, 3) := by decide +kernel
theorem dX10_plan_141 : decode cX10_plan 141 = .ok (.iload_n 2, 1) := by decide +kernel
theorem dX10_plan_142 : decode cX10_plan 142 = .ok (.invokevirtual 27, 3) := by decide +kernel
theorem dX10_plan_145 : decode cX10_plan 145 = .ok (.getfield 53, 3) := by decide +kernel
theorem dX10_plan_148 : decode cX10_plan 148 = .ok (.lreturn, 1) := by decide +kernel
theorem dX10_bestNext_0 : decode cX10_bestNext 0 = .ok (.iconst (-1), 1) := by decide +kernel
theorem dX10_bestNext_1 : decode cX10_bestNext 1 = .ok (.istore_n 2, 1) := by decide +kernel
theorem dX10_bestNext_2 : decode cX10_bestNext 2 = .ok (.lconst 0, 1) := by decide +kernel
theorem dX10_bestNext_3 : decode cX10_bestNext 3 = .ok (.lstore_n 3, 1) := by decide +kernel
theorem dX10_bestNext_4 : decode cX10_bestNext 4 = .ok (.iconst 0, 1) := by decide +kernel
theorem dX10_bestNext_5 : decode cX10_bestNext 5 = .ok (.istore 5, 2) := by decide +kernel
theorem dX10_bestNext_7 : decode cX10_bestNext 7 = .ok (.iload 5, 2) := by decide +kernel
theorem dX10_bestNext_9 : decode cX10_bestNext 9 = .ok (.bipush 10, 2) := by decide +kernel
theorem dX10_bestNext_11 : decode cX10_bestNext 11 = .ok (.if_icmp .ge 54, 3) := by decide +kernel
theorem dX10_bestNext_14 : decode cX10_bestNext 14 = .ok (.iload_n 1, 1) := by decide +kernel
theorem dX10_bestNext_15 : decode cX10_bestNext 15 = .ok (.iload 5, 2) := by decide +kernel
theorem dX10_bestNext_17 : decode cX10_bestNext 17 = .ok (.invokestatic 19, 3) := by decide +kernel
theorem dX10_bestNext_20 : decode cX10_bestNext 20 = .ok (.ifCond .eq 39, 3) := by decide +kernel
theorem dX10_bestNext_23 : decode cX10_bestNext 23 = .ok (.aload_n 0, 1) := by decide +kernel
theorem dX10_bestNext_24 : decode cX10_bestNext 24 = .ok (.getfield 15, 3) := by decide +kernel
theorem dX10_bestNext_27 : decode cX10_bestNext 27 = .ok (.iload_n 1, 1) := by decide +kernel
theorem dX10_bestNext_28 : decode cX10_bestNext 28 = .ok (.iload 5, 2) := by decide +kernel
theorem dX10_bestNext_30 : decode cX10_bestNext 30 = .ok (.invokestatic 23, 3) := by decide +kernel
theorem dX10_bestNext_33 : decode cX10_bestNext 33 = .ok (.invokevirtual 27, 3) := by decide +kernel
theorem dX10_bestNext_36 : decode cX10_bestNext 36 = .ok (.getfield 53, 3) := by decide +kernel
theorem dX10_bestNext_39 : decode cX10_bestNext 39 = .ok (.lstore 6, 2) := by decide +kernel
theorem dX10_bestNext_41 : decode cX10_bestNext 41 = .ok (.iload_n 2, 1) := by decide +kernel
theorem dX10_bestNext_42 : decode cX10_bestNext 42 = .ok (.iconst (-1), 1) := by decide +kernel
theorem dX10_bestNext_43 : decode cX10_bestNext 43 = .ok (.if_icmp .eq 10, 3) := by decide +kernel
theorem dX10_bestNext_46 : decode cX10_bestNext 46 = .ok (.lload 6, 2) := by decide +kernel
theorem dX10_bestNext_48 : decode cX10_bestNext 48 = .ok (.lload_n 3, 1) := by decide +kernel
theorem dX10_bestNext_49 : decode cX10_bestNext 49 = .ok (.lcmp, 1) := by decide +kernel
theorem dX10_bestNext_50 : decode cX10_bestNext 50 = .ok (.ifCond .ge 9, 3) := by decide +kernel
theorem dX10_bestNext_53 : decode cX10_bestNext 53 = .ok (.iload 5, 2) := by decide +kernel
theorem dX10_bestNext_55 : decode cX10_bestNext 55 = .ok (.istore_n 2, 1) := by decide +kernel
theorem dX10_bestNext_56 : decode cX10_bestNext 56 = .ok (.lload 6, 2) := by decide +kernel
theorem dX10_bestNext_58 : decode cX10_bestNext 58 = .ok (.lstore_n 3, 1) := by decide +kernel
theorem dX10_bestNext_59 : decode cX10_bestNext 59 = .ok (.iinc 5 1, 3) := by decide +kernel
theorem dX10_bestNext_62 : decode cX10_bestNext 62 = .ok (.goto (-55), 3) := by decide +kernel
theorem dX10_bestNext_65 : decode cX10_bestNext 65 = .ok (.iload_n 2, 1) := by decide +kernel
theorem dX10_bestNext_66 : decode cX10_bestNext 66 = .ok (.ireturn, 1) := by decide +kernel
theorem dX10_planned_0 : decode cX10_planned 0 = .ok (.aload_n 0, 1) := by decide +kernel
theorem dX10_planned_1 : decode cX10_planned 1 = .ok (.getfield 9, 3) := by decide +kernel
theorem dX10_planned_4 : decode cX10_planned 4 = .ok (.getfield 41, 3) := by decide +kernel
theorem dX10_planned_7 : decode cX10_planned 7 = .ok (.istore_n 2, 1) := by decide +kernel
theorem dX10_planned_8 : decode cX10_planned 8 = .ok (.aload_n 0, 1) := by decide +kernel
theorem dX10_planned_9 : decode cX10_planned 9 = .ok (.iload_n 2, 1) := by decide +kernel
theorem dX10_planned_10 : decode cX10_planned 10 = .ok (.invokevirtual 59, 3) := by decide +kernel
theorem dX10_planned_13 : decode cX10_planned 13 = .ok (.istore_n 3, 1) := by decide +kernel
theorem dX10_planned_14 : decode cX10_planned 14 = .ok (.iconst 0, 1) := by decide +kernel
theorem dX10_planned_15 : decode cX10_planned 15 = .ok (.istore 4, 2) := by decide +kernel
theorem dX10_planned_17 : decode cX10_planned 17 = .ok (.iload 4, 2) := by decide +kernel
theorem dX10_planned_19 : decode cX10_planned 19 = .ok (.iload_n 1, 1) := by decide +kernel
theorem dX10_planned_20 : decode cX10_planned 20 = .ok (.if_icmp .ge 33, 3) := by decide +kernel
theorem dX10_planned_23 : decode cX10_planned 23 = .ok (.iload 4, 2) := by decide +kernel
theorem dX10_planned_25 : decode cX10_planned 25 = .ok (.bipush 6, 2) := by decide +kernel
theorem dX10_planned_27 : decode cX10_planned 27 = .ok (.if_icmp .ge 26, 3) := by decide +kernel
theorem dX10_planned_30 : decode cX10_planned 30 = .ok (.iload_n 3, 1) := by decide +kernel
theorem dX10_planned_31 : decode cX10_planned 31 = .ok (.iconst (-1), 1) := by decide +kernel
theorem dX10_planned_32 : decode cX10_planned 32 = .ok (.if_icmp .eq 21, 3) := by decide +kernel
theorem dX10_planned_35 : decode cX10_planned 35 = .ok (.iload_n 2, 1) := by decide +kernel
theorem dX10_planned_36 : decode cX10_planned 36 = .ok (.iload_n 3, 1) := by decide +kernel
theorem dX10_planned_37 : decode cX10_planned 37 = .ok (.invokestatic 23, 3) := by decide +kernel
theorem dX10_planned_40 : decode cX10_planned 40 = .ok (.istore_n 2, 1) := by decide +kernel
theorem dX10_planned_41 : decode cX10_planned 41 = .ok (.aload_n 0, 1) := by decide +kernel
theorem dX10_planned_42 : decode cX10_planned 42 = .ok (.iload_n 2, 1) := by decide +kernel
theorem dX10_planned_43 : decode cX10_planned 43 = .ok (.invokevirtual 59, 3) := by decide +kernel
theorem dX10_planned_46 : decode cX10_planned 46 = .ok (.istore_n 3, 1) := by decide +kernel
theorem dX10_planned_47 : decode cX10_planned 47 = .ok (.iinc 4 1, 3) := by decide +kernel
theorem dX10_planned_50 : decode cX10_planned 50 = .ok (.goto (-33), 3) := by decide +kernel
theorem dX10_planned_53 : decode cX10_planned 53 = .ok (.iload_n 3, 1) := by decide +kernel
theorem dX10_planned_54 : decode cX10_planned 54 = .ok (.ireturn, 1) := by decide +kernel
theorem dX10_greedy_0 : decode cX10_greedy 0 = .ok (.lconst 0, 1) := by decide +kernel
theorem dX10_greedy_1 : decode cX10_greedy 1 = .ok (.lstore_n 2, 1) := by decide +kernel
theorem dX10_greedy_2 : decode cX10_greedy 2 = .ok (.aload_n 0, 1) := by decide +kernel
theorem dX10_greedy_3 : decode cX10_greedy 3 = .ok (.getfield 9, 3) := by decide +kernel
theorem dX10_greedy_6 : decode cX10_greedy 6 = .ok (.getfield 41, 3) := by decide +kernel
theorem dX10_greedy_9 : decode cX10_greedy 9 = .ok (.istore 4, 2) := by decide +kernel
theorem dX10_greedy_11 : decode cX10_greedy 11 = .ok (.aload_n 0, 1) := by decide +kernel
theorem dX10_greedy_12 : decode cX10_greedy 12 = .ok (.iload 4, 2) := by decide +kernel
theorem dX10_greedy_14 : decode cX10_greedy 14 = .ok (.invokevirtual 62, 3) := by decide +kernel
theorem dX10_greedy_17 : decode cX10_greedy 17 = .ok (.istore 5, 2) := by decide +kernel
theorem dX10_greedy_19 : decode cX10_greedy 19 = .ok (.iconst 0, 1) := by decide +kernel
theorem dX10_greedy_20 : decode cX10_greedy 20 = .ok (.istore 6, 2) := by decide +kernel
theorem dX10_greedy_22 : decode cX10_greedy 22 = .ok (.iload 6, 2) := by decide +kernel
theorem dX10_greedy_24 : decode cX10_greedy 24 = .ok (.iload_n 1, 1) := by decide +kernel
theorem dX10_greedy_25 : decode cX10_greedy 25 = .ok (.if_icmp .ge 59, 3) := by decide +kernel
theorem dX10_greedy_28 : decode cX10_greedy 28 = .ok (.iload 6, 2) := by decide +kernel
theorem dX10_greedy_30 : decode cX10_greedy 30 = .ok (.bipush 6, 2) := by decide +kernel
theorem dX10_greedy_32 : decode cX10_greedy 32 = .ok (.if_icmp .ge 52, 3) := by decide +kernel
theorem dX10_greedy_35 : decode cX10_greedy 35 = .ok (.iload 5, 2) := by decide +kernel
theorem dX10_greedy_37 : decode cX10_greedy 37 = .ok (.iconst (-1), 1) := by decide +kernel
theorem dX10_greedy_38 : decode cX10_greedy 38 = .ok (.if_icmp .eq 46, 3) := by decide +kernel
theorem dX10_greedy_41 : decode cX10_greedy 41 = .ok (.iload 4, 2) := by decide +kernel
theorem dX10_greedy_43 : decode cX10_greedy 43 = .ok (.iload 5, 2) := by decide +kernel
theorem dX10_greedy_45 : decode cX10_greedy 45 = .ok (.invokestatic 23, 3) := by decide +kernel
theorem dX10_greedy_48 : decode cX10_greedy 48 = .ok (.istore 4, 2) := by decide +kernel
theorem dX10_greedy_50 : decode cX10_greedy 50 = .ok (.lload_n 2, 1) := by decide +kernel
theorem dX10_greedy_51 : decode cX10_greedy 51 = .ok (.aload_n 0, 1) := by decide +kernel
theorem dX10_greedy_52 : decode cX10_greedy 52 = .ok (.getfield 15, 3) := by decide +kernel
theorem dX10_greedy_55 : decode cX10_greedy 55 = .ok (.aload_n 0, 1) := by decide +kernel
theorem dX10_greedy_56 : decode cX10_greedy 56 = .ok (.getfield 15, 3) := by decide +kernel
theorem dX10_greedy_59 : decode cX10_greedy 59 = .ok (.iload 4, 2) := by decide +kernel
theorem dX10_greedy_61 : decode cX10_greedy 61 = .ok (.invokevirtual 27, 3) := by decide +kernel
theorem dX10_greedy_64 : decode cX10_greedy 64 = .ok (.iconst (-1), 1) := by decide +kernel
theorem dX10_greedy_65 : decode cX10_greedy 65 = .ok (.invokevirtual 33, 3) := by decide +kernel
theorem dX10_greedy_68 : decode cX10_greedy 68 = .ok (.ladd, 1) := by decide +kernel
theorem dX10_greedy_69 : decode cX10_greedy 69 = .ok (.lstore_n 2, 1) := by decide +kernel
theorem dX10_greedy_70 : decode cX10_greedy 70 = .ok (.aload_n 0, 1) := by decide +kernel
theorem dX10_greedy_71 : decode cX10_greedy 71 = .ok (.iload 4, 2) := by decide +kernel
theorem dX10_greedy_73 : decode cX10_greedy 73 = .ok (.invokevirtual 62, 3) := by decide +kernel
theorem dX10_greedy_76 : decode cX10_greedy 76 = .ok (.istore 5, 2) := by decide +kernel
theorem dX10_greedy_78 : decode cX10_greedy 78 = .ok (.iinc 6 1, 3) := by decide +kernel
theorem dX10_greedy_81 : decode cX10_greedy 81 = .ok (.goto (-59), 3) := by decide +kernel
theorem dX10_greedy_84 : decode cX10_greedy 84 = .ok (.lload_n 2, 1) := by decide +kernel
theorem dX10_greedy_85 : decode cX10_greedy 85 = .ok (.lreturn, 1) := by decide +kernel
theorem dX10_follow_0 : decode cX10_follow 0 = .ok (.lconst 0, 1) := by decide +kernel
theorem dX10_follow_1 : decode cX10_follow 1 = .ok (.lstore 4, 2) := by decide +kernel
theorem dX10_follow_3 : decode cX10_follow 3 = .ok (.iconst (-1), 1) := by decide +kernel
theorem dX10_follow_4 : decode cX10_follow 4 = .ok (.istore 6, 2) := by decide +kernel
theorem dX10_follow_6 : decode cX10_follow 6 = .ok (.aload_n 0, 1) := by decide +kernel
theorem dX10_follow_7 : decode cX10_follow 7 = .ok (.getfield 9, 3) := by decide +kernel
theorem dX10_follow_10 : decode cX10_follow 10 = .ok (.getfield 41, 3) := by decide +kernel
theorem dX10_follow_13 : decode cX10_follow 13 = .ok (.istore 7, 2) := by decide +kernel
theorem dX10_follow_15 : decode cX10_follow 15 = .ok (.iconst 0, 1) := by decide +kernel
theorem dX10_follow_16 : decode cX10_follow 16 = .ok (.istore 8, 2) := by decide +kernel
theorem dX10_follow_18 : decode cX10_follow 18 = .ok (.iload 8, 2) := by decide +kernel
theorem dX10_follow_20 : decode cX10_follow 20 = .ok (.iload_n 2, 1) := by decide +kernel
theorem dX10_follow_21 : decode cX10_follow 21 = .ok (.if_icmp .ge 91, 3) := by decide +kernel
theorem dX10_follow_24 : decode cX10_follow 24 = .ok (.iload 8, 2) := by decide +kernel
theorem dX10_follow_26 : decode cX10_follow 26 = .ok (.bipush 10, 2) := by decide +kernel
theorem dX10_follow_28 : decode cX10_follow 28 = .ok (.if_icmp .ge 84, 3) := by decide +kernel
theorem dX10_follow_31 : decode cX10_follow 31 = .ok (.aload_n 1, 1) := by decide +kernel
theorem dX10_follow_32 : decode cX10_follow 32 = .ok (.iload 8, 2) := by decide +kernel
theorem dX10_follow_34 : decode cX10_follow 34 = .ok (.invokevirtual 65, 3) := by decide +kernel
theorem dX10_follow_37 : decode cX10_follow 37 = .ok (.istore 9, 2) := by decide +kernel
theorem dX10_follow_39 : decode cX10_follow 39 = .ok (.iload 7, 2) := by decide +kernel
theorem dX10_follow_41 : decode cX10_follow 41 = .ok (.iload 9, 2) := by decide +kernel
theorem dX10_follow_43 : decode cX10_follow 43 = .ok (.invokestatic 19, 3) := by decide +kernel
theorem dX10_follow_46 : decode cX10_follow 46 = .ok (.ifCond .ne 7, 3) := by decide +kernel
theorem dX10_follow_49 : decode cX10_follow 49 = .ok (.ldc2_w 70, 3) := by decide +kernel
theorem dX10_follow_52 : decode cX10_follow 52 = .ok (.lreturn, 1) := by decide +kernel
theorem dX10_follow_53 : decode cX10_follow 53 = .ok (.iload 7, 2) := by decide +kernel
theorem dX10_follow_55 : decode cX10_follow 55 = .ok (.iload 9, 2) := by decide +kernel
theorem dX10_follow_57 : decode cX10_follow 57 = .ok (.invokestatic 23, 3) := by decide +kernel
theorem dX10_follow_60 : decode cX10_follow 60 = .ok (.istore 7, 2) := by decide +kernel
theorem dX10_follow_62 : decode cX10_follow 62 = .ok (.lload 4, 2) := by decide +kernel
theorem dX10_follow_64 : decode cX10_follow 64 = .ok (.aload_n 0, 1) := by decide +kernel
theorem dX10_follow_65 : decode cX10_follow 65 = .ok (.getfield 15, 3) := by decide +kernel
theorem dX10_follow_68 : decode cX10_follow 68 = .ok (.aload_n 0, 1) := by decide +kernel
theorem dX10_follow_69 : decode cX10_follow 69 = .ok (.getfield 15, 3) := by decide +kernel
theorem dX10_follow_72 : decode cX10_follow 72 = .ok (.iload 7, 2) := by decide +kernel
theorem dX10_follow_74 : decode cX10_follow 74 = .ok (.invokevirtual 27, 3) := by decide +kernel
theorem dX10_follow_77 : decode cX10_follow 77 = .ok (.iconst (-1), 1) := by decide +kernel
theorem dX10_follow_78 : decode cX10_follow 78 = .ok (.invokevirtual 33, 3) := by decide +kernel
theorem dX10_follow_81 : decode cX10_follow 81 = .ok (.ladd, 1) := by decide +kernel
theorem dX10_follow_82 : decode cX10_follow 82 = .ok (.lstore 4, 2) := by decide +kernel
theorem dX10_follow_84 : decode cX10_follow 84 = .ok (.iload 6, 2) := by decide +kernel
theorem dX10_follow_86 : decode cX10_follow 86 = .ok (.iconst (-1), 1) := by decide +kernel
theorem dX10_follow_87 : decode cX10_follow 87 = .ok (.if_icmp .ne 19, 3) := by decide +kernel
theorem dX10_follow_90 : decode cX10_follow 90 = .ok (.aload_n 0, 1) := by decide +kernel
theorem dX10_follow_91 : decode cX10_follow 91 = .ok (.getfield 15, 3) := by decide +kernel
theorem dX10_follow_94 : decode cX10_follow 94 = .ok (.iload 7, 2) := by decide +kernel
theorem dX10_follow_96 : decode cX10_follow 96 = .ok (.invokevirtual 72, 3) := by decide +kernel
theorem dX10_follow_99 : decode cX10_follow 99 = .ok (.ifCond .eq 7, 3) := by decide +kernel
theorem dX10_follow_102 : decode cX10_follow 102 = .ok (.iload 8, 2) := by decide +kernel
theorem dX10_follow_104 : decode cX10_follow 104 = .ok (.istore 6, 2) := by decide +kernel
theorem dX10_follow_106 : decode cX10_follow 106 = .ok (.iinc 8 1, 3) := by decide +kernel
theorem dX10_follow_109 : decode cX10_follow 109 = .ok (.goto (-91), 3) := by decide +kernel
theorem dX10_follow_112 : decode cX10_follow 112 = .ok (.iload_n 3, 1) := by decide +kernel
theorem dX10_follow_113 : decode cX10_follow 113 = .ok (.ifCond .ne 8, 3) := by decide +kernel
theorem dX10_follow_116 : decode cX10_follow 116 = .ok (.lload 4, 2) := by decide +kernel
theorem dX10_follow_118 : decode cX10_follow 118 = .ok (.goto 6, 3) := by decide +kernel
theorem dX10_follow_121 : decode cX10_follow 121 = .ok (.iload 6, 2) := by decide +kernel
theorem dX10_follow_123 : decode cX10_follow 123 = .ok (.i2l, 1) := by decide +kernel
theorem dX10_follow_124 : decode cX10_follow 124 = .ok (.lreturn, 1) := by decide +kernel
theorem dX10_bearable_0 : decode cX10_bearable 0 = .ok (.iconst 0, 1) := by decide +kernel
theorem dX10_bearable_1 : decode cX10_bearable 1 = .ok (.istore_n 1, 1) := by decide +kernel
theorem dX10_bearable_2 : decode cX10_bearable 2 = .ok (.aload_n 0, 1) := by decide +kernel
theorem dX10_bearable_3 : decode cX10_bearable 3 = .ok (.getfield 9, 3) := by decide +kernel
theorem dX10_bearable_6 : decode cX10_bearable 6 = .ok (.getfield 41, 3) := by decide +kernel
theorem dX10_bearable_9 : decode cX10_bearable 9 = .ok (.istore_n 2, 1) := by decide +kernel
theorem dX10_bearable_10 : decode cX10_bearable 10 = .ok (.iconst 0, 1) := by decide +kernel
theorem dX10_bearable_11 : decode cX10_bearable 11 = .ok (.istore_n 3, 1) := by decide +kernel
theorem dX10_bearable_12 : decode cX10_bearable 12 = .ok (.iload_n 3, 1) := by decide +kernel
theorem dX10_bearable_13 : decode cX10_bearable 13 = .ok (.bipush 10, 2) := by decide +kernel
theorem dX10_bearable_15 : decode cX10_bearable 15 = .ok (.if_icmp .ge 51, 3) := by decide +kernel
theorem dX10_bearable_18 : decode cX10_bearable 18 = .ok (.iload_n 2, 1) := by decide +kernel
theorem dX10_bearable_19 : decode cX10_bearable 19 = .ok (.ifCond .eq 47, 3) := by decide +kernel
theorem dX10_bearable_22 : decode cX10_bearable 22 = .ok (.aload_n 0, 1) := by decide +kernel
theorem dX10_bearable_23 : decode cX10_bearable 23 = .ok (.iload_n 2, 1) := by decide +kernel
theorem dX10_bearable_24 : decode cX10_bearable 24 = .ok (.invokevirtual 62, 3) := by decide +kernel
theorem dX10_bearable_27 : decode cX10_bearable 27 = .ok (.istore 4, 2) := by decide +kernel
theorem dX10_bearable_29 : decode cX10_bearable 29 = .ok (.iload 4, 2) := by decide +kernel
theorem dX10_bearable_31 : decode cX10_bearable 31 = .ok (.iconst (-1), 1) := by decide +kernel
theorem dX10_bearable_32 : decode cX10_bearable 32 = .ok (.if_icmp .ne 5, 3) := by decide +kernel
theorem dX10_bearable_35 : decode cX10_bearable 35 = .ok (.iload_n 1, 1) := by decide +kernel
theorem dX10_bearable_36 : decode cX10_bearable 36 = .ok (.ireturn, 1) := by decide +kernel
theorem dX10_bearable_37 : decode cX10_bearable 37 = .ok (.iload_n 2, 1) := by decide +kernel
theorem dX10_bearable_38 : decode cX10_bearable 38 = .ok (.iload 4, 2) := by decide +kernel
theorem dX10_bearable_40 : decode cX10_bearable 40 = .ok (.invokestatic 23, 3) := by decide +kernel
theorem dX10_bearable_43 : decode cX10_bearable 43 = .ok (.istore_n 2, 1) := by decide +kernel
theorem dX10_bearable_44 : decode cX10_bearable 44 = .ok (.aload_n 0, 1) := by decide +kernel
theorem dX10_bearable_45 : decode cX10_bearable 45 = .ok (.getfield 15, 3) := by decide +kernel
theorem dX10_bearable_48 : decode cX10_bearable 48 = .ok (.iload_n 2, 1) := by decide +kernel
theorem dX10_bearable_49 : decode cX10_bearable 49 = .ok (.invokevirtual 72, 3) := by decide +kernel
theorem dX10_bearable_52 : decode cX10_bearable 52 = .ok (.ifCond .eq 5, 3) := by decide +kernel
theorem dX10_bearable_55 : decode cX10_bearable 55 = .ok (.iload_n 1, 1) := by decide +kernel
theorem dX10_bearable_56 : decode cX10_bearable 56 = .ok (.ireturn, 1) := by decide +kernel
theorem dX10_bearable_57 : decode cX10_bearable 57 = .ok (.iinc 1 1, 3) := by decide +kernel
theorem dX10_bearable_60 : decode cX10_bearable 60 = .ok (.iinc 3 1, 3) := by decide +kernel
theorem dX10_bearable_63 : decode cX10_bearable 63 = .ok (.goto (-51), 3) := by decide +kernel
theorem dX10_bearable_66 : decode cX10_bearable 66 = .ok (.iload_n 1, 1) := by decide +kernel
theorem dX10_bearable_67 : decode cX10_bearable 67 = .ok (.ireturn, 1) := by decide +kernel
theorem dX10_bestOf_0 : decode cX10_bestOf 0 = .ok (.iconst (-1), 1) := by decide +kernel
theorem dX10_bestOf_1 : decode cX10_bestOf 1 = .ok (.istore_n 2, 1) := by decide +kernel
theorem dX10_bestOf_2 : decode cX10_bestOf 2 = .ok (.lconst 0, 1) := by decide +kernel
theorem dX10_bestOf_3 : decode cX10_bestOf 3 = .ok (.lstore_n 3, 1) := by decide +kernel
theorem dX10_bestOf_4 : decode cX10_bestOf 4 = .ok (.iconst 0, 1) := by decide +kernel
theorem dX10_bestOf_5 : decode cX10_bestOf 5 = .ok (.istore 5, 2) := by decide +kernel
theorem dX10_bestOf_7 : decode cX10_bestOf 7 = .ok (.iload 5, 2) := by decide +kernel
theorem dX10_bestOf_9 : decode cX10_bestOf 9 = .ok (.sipush 1024, 3) := by decide +kernel
theorem dX10_bestOf_12 : decode cX10_bestOf 12 = .ok (.if_icmp .ge 67, 3) := by decide +kernel
theorem dX10_bestOf_15 : decode cX10_bestOf 15 = .ok (.aload_n 0, 1) := by decide +kernel
theorem dX10_bestOf_16 : decode cX10_bestOf 16 = .ok (.getfield 9, 3) := by decide +kernel
theorem dX10_bestOf_19 : decode cX10_bestOf 19 = .ok (.iload 5, 2) := by decide +kernel
theorem dX10_bestOf_21 : decode cX10_bestOf 21 = .ok (.invokevirtual 75, 3) := by decide +kernel
theorem dX10_bestOf_24 : decode cX10_bestOf 24 = .ok (.ifCond .eq 49, 3) := by decide +kernel
theorem dX10_bestOf_27 : decode cX10_bestOf 27 = .ok (.iload 5, 2) := by decide +kernel
theorem dX10_bestOf_29 : decode cX10_bestOf 29 = .ok (.invokestatic 47, 3) := by decide +kernel
theorem dX10_bestOf_32 : decode cX10_bestOf 32 = .ok (.iload_n 1, 1) := by decide +kernel
theorem dX10_bestOf_33 : decode cX10_bestOf 33 = .ok (.if_icmp .ne 40, 3) := by decide +kernel
theorem dX10_bestOf_36 : decode cX10_bestOf 36 = .ok (.aload_n 0, 1) := by decide +kernel
theorem dX10_bestOf_37 : decode cX10_bestOf 37 = .ok (.getfield 15, 3) := by decide +kernel
theorem dX10_bestOf_40 : decode cX10_bestOf 40 = .ok (.aload_n 0, 1) := by decide +kernel
theorem dX10_bestOf_41 : decode cX10_bestOf 41 = .ok (.getfield 15, 3) := by decide +kernel
theorem dX10_bestOf_44 : decode cX10_bestOf 44 = .ok (.iload 5, 2) := by decide +kernel
theorem dX10_bestOf_46 : decode cX10_bestOf 46 = .ok (.invokevirtual 27, 3) := by decide +kernel
theorem dX10_bestOf_49 : decode cX10_bestOf 49 = .ok (.iconst (-1), 1) := by decide +kernel
theorem dX10_bestOf_50 : decode cX10_bestOf 50 = .ok (.invokevirtual 33, 3) := by decide +kernel
theorem dX10_bestOf_53 : decode cX10_bestOf 53 = .ok (.lstore 6, 2) := by decide +kernel
theorem dX10_bestOf_55 : decode cX10_bestOf 55 = .ok (.iload_n 2, 1) := by decide +kernel
theorem dX10_bestOf_56 : decode cX10_bestOf 56 = .ok (.iconst (-1), 1) := by decide +kernel
theorem dX10_bestOf_57 : decode cX10_bestOf 57 = .ok (.if_icmp .eq 10, 3) := by decide +kernel
theorem dX10_bestOf_60 : decode cX10_bestOf 60 = .ok (.lload 6, 2) := by decide +kernel
theorem dX10_bestOf_62 : decode cX10_bestOf 62 = .ok (.lload_n 3, 1) := by decide +kernel
theorem dX10_bestOf_63 : decode cX10_bestOf 63 = .ok (.lcmp, 1) := by decide +kernel
theorem dX10_bestOf_64 : decode cX10_bestOf 64 = .ok (.ifCond .ge 9, 3) := by decide +kernel
theorem dX10_bestOf_67 : decode cX10_bestOf 67 = .ok (.iload 5, 2) := by decide +kernel
theorem dX10_bestOf_69 : decode cX10_bestOf 69 = .ok (.istore_n 2, 1) := by decide +kernel
theorem dX10_bestOf_70 : decode cX10_bestOf 70 = .ok (.lload 6, 2) := by decide +kernel
theorem dX10_bestOf_72 : decode cX10_bestOf 72 = .ok (.lstore_n 3, 1) := by decide +kernel
theorem dX10_bestOf_73 : decode cX10_bestOf 73 = .ok (.iinc 5 1, 3) := by decide +kernel
theorem dX10_bestOf_76 : decode cX10_bestOf 76 = .ok (.goto (-69), 3) := by decide +kernel
theorem dX10_bestOf_79 : decode cX10_bestOf 79 = .ok (.iload_n 2, 1) := by decide +kernel
theorem dX10_bestOf_80 : decode cX10_bestOf 80 = .ok (.ireturn, 1) := by decide +kernel
theorem dX10_exchange_0 : decode cX10_exchange 0 = .ok (.iconst (-1), 1) := by decide +kernel
theorem dX10_exchange_1 : decode cX10_exchange 1 = .ok (.istore_n 2, 1) := by decide +kernel
theorem dX10_exchange_2 : decode cX10_exchange 2 = .ok (.lconst 0, 1) := by decide +kernel
theorem dX10_exchange_3 : decode cX10_exchange 3 = .ok (.lstore_n 3, 1) := by decide +kernel
theorem dX10_exchange_4 : decode cX10_exchange 4 = .ok (.aload_n 0, 1) := by decide +kernel
theorem dX10_exchange_5 : decode cX10_exchange 5 = .ok (.getfield 9, 3) := by decide +kernel
theorem dX10_exchange_8 : decode cX10_exchange 8 = .ok (.invokevirtual 79, 3) := by decide +kernel
theorem dX10_exchange_11 : decode cX10_exchange 11 = .ok (.aload_n 0, 1) := by decide +kernel
theorem dX10_exchange_12 : decode cX10_exchange 12 = .ok (.getfield 9, 3) := by decide +kernel
theorem dX10_exchange_15 : decode cX10_exchange 15 = .ok (.getfield 41, 3) := by decide +kernel
theorem dX10_exchange_18 : decode cX10_exchange 18 = .ok (.iconst (-1), 1) := by decide +kernel
theorem dX10_exchange_19 : decode cX10_exchange 19 = .ok (.ixor, 1) := by decide +kernel
theorem dX10_exchange_20 : decode cX10_exchange 20 = .ok (.iand, 1) := by decide +kernel
theorem dX10_exchange_21 : decode cX10_exchange 21 = .ok (.istore 5, 2) := by decide +kernel
theorem dX10_exchange_23 : decode cX10_exchange 23 = .ok (.iconst 0, 1) := by decide +kernel
theorem dX10_exchange_24 : decode cX10_exchange 24 = .ok (.istore 6, 2) := by decide +kernel
theorem dX10_exchange_26 : decode cX10_exchange 26 = .ok (.iload 6, 2) := by decide +kernel
theorem dX10_exchange_28 : decode cX10_exchange 28 = .ok (.sipush 1000, 3) := by decide +kernel
theorem dX10_exchange_31 : decode cX10_exchange 31 = .ok (.if_icmp .ge 141, 3) := by decide +kernel
theorem dX10_exchange_34 : decode cX10_exchange 34 = .ok (.iload 6, 2) := by decide +kernel
theorem dX10_exchange_36 : decode cX10_exchange 36 = .ok (.bipush 100, 2) := by decide +kernel
theorem dX10_exchange_38 : decode cX10_exchange 38 = .ok (.idiv, 1) := by decide +kernel
theorem dX10_exchange_39 : decode cX10_exchange 39 = .ok (.istore 7, 2) := by decide +kernel
theorem dX10_exchange_41 : decode cX10_exchange 41 = .ok (.iload 6, 2) := by decide +kernel
theorem dX10_exchange_43 : decode cX10_exchange 43 = .ok (.bipush 10, 2) := by decide +kernel
theorem dX10_exchange_45 : decode cX10_exchange 45 = .ok (.idiv, 1) := by decide +kernel
theorem dX10_exchange_46 : decode cX10_exchange 46 = .ok (.bipush 10, 2) := by decide +kernel
theorem dX10_exchange_48 : decode cX10_exchange 48 = .ok (.irem, 1) := by decide +kernel
theorem dX10_exchange_49 : decode cX10_exchange 49 = .ok (.istore 8, 2) := by decide +kernel
theorem dX10_exchange_51 : decode cX10_exchange 51 = .ok (.iload 6, 2) := by decide +kernel
theorem dX10_exchange_53 : decode cX10_exchange 53 = .ok (.bipush 10, 2) := by decide +kernel
theorem dX10_exchange_55 : decode cX10_exchange 55 = .ok (.irem, 1) := by decide +kernel
theorem dX10_exchange_56 : decode cX10_exchange 56 = .ok (.istore 9, 2) := by decide +kernel
theorem dX10_exchange_58 : decode cX10_exchange 58 = .ok (.iload 5, 2) := by decide +kernel
theorem dX10_exchange_60 : decode cX10_exchange 60 = .ok (.iload 7, 2) := by decide +kernel
theorem dX10_exchange_62 : decode cX10_exchange 62 = .ok (.invokestatic 19, 3) := by decide +kernel
theorem dX10_exchange_65 : decode cX10_exchange 65 = .ok (.ifCond .eq 101, 3) := by decide +kernel
theorem dX10_exchange_68 : decode cX10_exchange 68 = .ok (.iload 8, 2) := by decide +kernel
theorem dX10_exchange_70 : decode cX10_exchange 70 = .ok (.iload 9, 2) := by decide +kernel
theorem dX10_exchange_72 : decode cX10_exchange 72 = .ok (.if_icmp .ge 94, 3) := by decide +kernel
theorem dX10_exchange_75 : decode cX10_exchange 75 = .ok (.aload_n 0, 1) := by decide +kernel
theorem dX10_exchange_76 : decode cX10_exchange 76 = .ok (.getfield 9, 3) := by decide +kernel
theorem dX10_exchange_79 : decode cX10_exchange 79 = .ok (.getfield 41, 3) := by decide +kernel
theorem dX10_exchange_82 : decode cX10_exchange 82 = .ok (.iload 8, 2) := by decide +kernel
theorem dX10_exchange_84 : decode cX10_exchange 84 = .ok (.invokestatic 19, 3) := by decide +kernel
theorem dX10_exchange_87 : decode cX10_exchange 87 = .ok (.ifCond .eq 79, 3) := by decide +kernel
theorem dX10_exchange_90 : decode cX10_exchange 90 = .ok (.aload_n 0, 1) := by decide +kernel
theorem dX10_exchange_91 : decode cX10_exchange 91 = .ok (.getfield 9, 3) := by decide +kernel
theorem dX10_exchange_94 : decode cX10_exchange 94 = .ok (.getfield 41, 3) := by decide +kernel
theorem dX10_exchange_97 : decode cX10_exchange 97 = .ok (.iload 9, 2) := by decide +kernel
theorem dX10_exchange_99 : decode cX10_exchange 99 = .ok (.invokestatic 19, 3) := by decide +kernel
theorem dX10_exchange_102 : decode cX10_exchange 102 = .ok (.ifCond .eq 64, 3) := by decide +kernel
theorem dX10_exchange_105 : decode cX10_exchange 105 = .ok (.aload_n 0, 1) := by decide +kernel
theorem dX10_exchange_106 : decode cX10_exchange 106 = .ok (.getfield 9, 3) := by decide +kernel
theorem dX10_exchange_109 : decode cX10_exchange 109 = .ok (.getfield 41, 3) := by decide +kernel
theorem dX10_exchange_112 : decode cX10_exchange 112 = .ok (.iload 8, 2) := by decide +kernel
theorem dX10_exchange_114 : decode cX10_exchange 114 = .ok (.invokestatic 23, 3) := by decide +kernel
theorem dX10_exchange_117 : decode cX10_exchange 117 = .ok (.iload 9, 2) := by decide +kernel
theorem dX10_exchange_119 : decode cX10_exchange 119 = .ok (.invokestatic 23, 3) := by decide +kernel
theorem dX10_exchange_122 : decode cX10_exchange 122 = .ok (.istore 10, 2) := by decide +kernel
theorem dX10_exchange_124 : decode cX10_exchange 124 = .ok (.aload_n 0, 1) := by decide +kernel
theorem dX10_exchange_125 : decode cX10_exchange 125 = .ok (.getfield 15, 3) := by decide +kernel
theorem dX10_exchange_128 : decode cX10_exchange 128 = .ok (.aload_n 0, 1) := by decide +kernel
theorem dX10_exchange_129 : decode cX10_exchange 129 = .ok (.getfield 15, 3) := by decide +kernel
theorem dX10_exchange_132 : decode cX10_exchange 132 = .ok (.iload 10, 2) := by decide +kernel
theorem dX10_exchange_134 : decode cX10_exchange 134 = .ok (.iconst 1, 1) := by decide +kernel
theorem dX10_exchange_135 : decode cX10_exchange 135 = .ok (.iload 7, 2) := by decide +kernel
theorem dX10_exchange_137 : decode cX10_exchange 137 = .ok (.ishl, 1) := by decide +kernel
theorem dX10_exchange_138 : decode cX10_exchange 138 = .ok (.ior, 1) := by decide +kernel
theorem dX10_exchange_139 : decode cX10_exchange 139 = .ok (.invokevirtual 27, 3) := by decide +kernel
theorem dX10_exchange_142 : decode cX10_exchange 142 = .ok (.iconst (-1), 1) := by decide +kernel
theorem dX10_exchange_143 : decode cX10_exchange 143 = .ok (.invokevirtual 33, 3) := by decide +kernel
theorem dX10_exchange_146 : decode cX10_exchange 146 = .ok (.lstore 11, 2) := by decide +kernel
theorem dX10_exchange_148 : decode cX10_exchange 148 = .ok (.iload_n 2, 1) := by decide +kernel
theorem dX10_exchange_149 : decode cX10_exchange 149 = .ok (.iconst (-1), 1) := by decide +kernel
theorem dX10_exchange_150 : decode cX10_exchange 150 = .ok (.if_icmp .eq 10, 3) := by decide +kernel
theorem dX10_exchange_153 : decode cX10_exchange 153 = .ok (.lload 11, 2) := by decide +kernel
theorem dX10_exchange_155 : decode cX10_exchange 155 = .ok (.lload_n 3, 1) := by decide +kernel
theorem dX10_exchange_156 : decode cX10_exchange 156 = .ok (.lcmp, 1) := by decide +kernel
theorem dX10_exchange_157 : decode cX10_exchange 157 = .ok (.ifCond .ge 9, 3) := by decide +kernel
theorem dX10_exchange_160 : decode cX10_exchange 160 = .ok (.iload 6, 2) := by decide +kernel
theorem dX10_exchange_162 : decode cX10_exchange 162 = .ok (.istore_n 2, 1) := by decide +kernel
theorem dX10_exchange_163 : decode cX10_exchange 163 = .ok (.lload 11, 2) := by decide +kernel
theorem dX10_exchange_165 : decode cX10_exchange 165 = .ok (.lstore_n 3, 1) := by decide +kernel
theorem dX10_exchange_166 : decode cX10_exchange 166 = .ok (.iinc 6 1, 3) := by decide +kernel
theorem dX10_exchange_169 : decode cX10_exchange 169 = .ok (.goto (-143), 3) := by decide +kernel
theorem dX10_exchange_172 : decode cX10_exchange 172 = .ok (.iload_n 1, 1) := by decide +kernel
theorem dX10_exchange_173 : decode cX10_exchange 173 = .ok (.tableswitch 48 0 2 #[27, 33, 42], 27) := by decide +kernel
theorem dX10_exchange_200 : decode cX10_exchange 200 = .ok (.iload_n 2, 1) := by decide +kernel
theorem dX10_exchange_201 : decode cX10_exchange 201 = .ok (.bipush 100, 2) := by decide +kernel
theorem dX10_exchange_203 : decode cX10_exchange 203 = .ok (.idiv, 1) := by decide +kernel
theorem dX10_exchange_204 : decode cX10_exchange 204 = .ok (.i2l, 1) := by decide +kernel
theorem dX10_exchange_205 : decode cX10_exchange 205 = .ok (.lreturn, 1) := by decide +kernel
theorem dX10_exchange_206 : decode cX10_exchange 206 = .ok (.iload_n 2, 1) := by decide +kernel
theorem dX10_exchange_207 : decode cX10_exchange 207 = .ok (.bipush 10, 2) := by decide +kernel
theorem dX10_exchange_209 : decode cX10_exchange 209 = .ok (.idiv, 1) := by decide +kernel
theorem dX10_exchange_210 : decode cX10_exchange 210 = .ok (.bipush 10, 2) := by decide +kernel
theorem dX10_exchange_212 : decode cX10_exchange 212 = .ok (.irem, 1) := by decide +kernel
theorem dX10_exchange_213 : decode cX10_exchange 213 = .ok (.i2l, 1) := by decide +kernel
theorem dX10_exchange_214 : decode cX10_exchange 214 = .ok (.lreturn, 1) := by decide +kernel
theorem dX10_exchange_215 : decode cX10_exchange 215 = .ok (.iload_n 2, 1) := by decide +kernel
theorem dX10_exchange_216 : decode cX10_exchange 216 = .ok (.bipush 10, 2) := by decide +kernel
theorem dX10_exchange_218 : decode cX10_exchange 218 = .ok (.irem, 1) := by decide +kernel
theorem dX10_exchange_219 : decode cX10_exchange 219 = .ok (.i2l, 1) := by decide +kernel
theorem dX10_exchange_220 : decode cX10_exchange 220 = .ok (.lreturn, 1) := by decide +kernel
theorem dX10_exchange_221 : decode cX10_exchange 221 = .ok (.lload_n 3, 1) := by decide +kernel
theorem dX10_exchange_222 : decode cX10_exchange 222 = .ok (.lreturn, 1) := by decide +kernel
theorem dX11_init_0 : decode cX11_init 0 = .ok (.aload_n 0, 1) := by decide +kernel
theorem dX11_init_1 : decode cX11_init 1 = .ok (.invokespecial 1, 3) := by decide +kernel
theorem dX11_init_4 : decode cX11_init 4 = .ok (.aload_n 0, 1) := by decide +kernel
theorem dX11_init_5 : decode cX11_init 5 = .ok (.new 7, 3) := by decide +kernel
theorem dX11_init_8 : decode cX11_init 8 = .ok (.dup, 1) := by decide +kernel
theorem dX11_init_9 : decode cX11_init 9 = .ok (.invokespecial 9, 3) := by decide +kernel
theorem dX11_init_12 : decode cX11_init 12 = .ok (.putfield 10, 3) := by decide +kernel
theorem dX11_init_15 : decode cX11_init 15 = .ok (.aload_n 0, 1) := by decide +kernel
theorem dX11_init_16 : decode cX11_init 16 = .ok (.new 16, 3) := by decide +kernel
theorem dX11_init_19 : decode cX11_init 19 = .ok (.dup, 1) := by decide +kernel
theorem dX11_init_20 : decode cX11_init 20 = .ok (.invokespecial 18, 3) := by decide +kernel
theorem dX11_init_23 : decode cX11_init 23 = .ok (.putfield 19, 3) := by decide +kernel
theorem dX11_init_26 : decode cX11_init 26 = .ok (.aload_n 0, 1) := by decide +kernel
theorem dX11_init_27 : decode cX11_init 27 = .ok (.new 23, 3) := by decide +kernel
theorem dX11_init_30 : decode cX11_init 30 = .ok (.dup, 1) := by decide +kernel
theorem dX11_init_31 : decode cX11_init 31 = .ok (.invokespecial 25, 3) := by decide +kernel
theorem dX11_init_34 : decode cX11_init 34 = .ok (.putfield 26, 3) := by decide +kernel
theorem dX11_init_37 : decode cX11_init 37 = .ok (.aload_n 0, 1) := by decide +kernel
theorem dX11_init_38 : decode cX11_init 38 = .ok (.new 30, 3) := by decide +kernel
theorem dX11_init_41 : decode cX11_init 41 = .ok (.dup, 1) := by decide +kernel
theorem dX11_init_42 : decode cX11_init 42 = .ok (.aload_n 0, 1) := by decide +kernel
theorem dX11_init_43 : decode cX11_init 43 = .ok (.getfield 10, 3) := by decide +kernel
theorem dX11_init_46 : decode cX11_init 46 = .ok (.aload_n 0, 1) := by decide +kernel
theorem dX11_init_47 : decode cX11_init 47 = .ok (.getfield 19, 3) := by decide +kernel
theorem dX11_init_50 : decode cX11_init 50 = .ok (.invokespecial 32, 3) := by decide +kernel
theorem dX11_init_53 : decode cX11_init 53 = .ok (.putfield 35, 3) := by decide +kernel
theorem dX11_init_56 : decode cX11_init 56 = .ok (.aload_n 0, 1) := by decide +kernel
theorem dX11_init_57 : decode cX11_init 57 = .ok (.new 39, 3) := by decide +kernel
theorem dX11_init_60 : decode cX11_init 60 = .ok (.dup, 1) := by decide +kernel
theorem dX11_init_61 : decode cX11_init 61 = .ok (.aload_n 0, 1) := by decide +kernel
theorem dX11_init_62 : decode cX11_init 62 = .ok (.getfield 26, 3) := by decide +kernel
theorem dX11_init_65 : decode cX11_init 65 = .ok (.invokespecial 41, 3) := by decide +kernel
theorem dX11_init_68 : decode cX11_init 68 = .ok (.putfield 44, 3) := by decide +kernel
theorem dX11_init_71 : decode cX11_init 71 = .ok (.aload_n 0, 1) := by decide +kernel
theorem dX11_init_72 : decode cX11_init 72 = .ok (.iconst 4, 1) := by decide +kernel
theorem dX11_init_73 : decode cX11_init 73 = .ok (.anewarray 48, 3) := by decide +kernel
theorem dX11_init_76 : decode cX11_init 76 = .ok (.putfield 50, 3) := by decide +kernel
theorem dX11_init_79 : decode cX11_init 79 = .ok (.iconst 0, 1) := by decide +kernel
theorem dX11_init_80 : decode cX11_init 80 = .ok (.istore_n 1, 1) := by decide +kernel
theorem dX11_init_81 : decode cX11_init 81 = .ok (.iload_n 1, 1) := by decide +kernel
theorem dX11_init_82 : decode cX11_init 82 = .ok (.iconst 4, 1) := by decide +kernel
theorem dX11_init_83 : decode cX11_init 83 = .ok (.if_icmp .ge 30, 3) := by decide +kernel
theorem dX11_init_86 : decode cX11_init 86 = .ok (.aload_n 0, 1) := by decide +kernel
theorem dX11_init_87 : decode cX11_init 87 = .ok (.getfield 50, 3) := by decide +kernel
theorem dX11_init_90 : decode cX11_init 90 = .ok (.iload_n 1, 1) := by decide +kernel
theorem dX11_init_91 : decode cX11_init 91 = .ok (.new 48, 3) := by decide +kernel
theorem dX11_init_94 : decode cX11_init 94 = .ok (.dup, 1) := by decide +kernel
theorem dX11_init_95 : decode cX11_init 95 = .ok (.aload_n 0, 1) := by decide +kernel
theorem dX11_init_96 : decode cX11_init 96 = .ok (.getfield 26, 3) := by decide +kernel
theorem dX11_init_99 : decode cX11_init 99 = .ok (.aload_n 0, 1) := by decide +kernel
theorem dX11_init_100 : decode cX11_init 100 = .ok (.getfield 10, 3) := by decide +kernel
theorem dX11_init_103 : decode cX11_init 103 = .ok (.invokespecial 54, 3) := by decide +kernel
theorem dX11_init_106 : decode cX11_init 106 = .ok (.aastore, 1) := by decide +kernel
theorem dX11_init_107 : decode cX11_init 107 = .ok (.iinc 1 1, 3) := by decide +kernel
theorem dX11_init_110 : decode cX11_init 110 = .ok (.goto (-29), 3) := by decide +kernel
theorem dX11_init_113 : decode cX11_init 113 = .ok (.aload_n 0, 1) := by decide +kernel
theorem dX11_init_114 : decode cX11_init 114 = .ok (.new 48, 3) := by decide +kernel
theorem dX11_init_117 : decode cX11_init 117 = .ok (.dup, 1) := by decide +kernel
theorem dX11_init_118 : decode cX11_init 118 = .ok (.aload_n 0, 1) := by decide +kernel
theorem dX11_init_119 : decode cX11_init 119 = .ok (.getfield 26, 3) := by decide +kernel
theorem dX11_init_122 : decode cX11_init 122 = .ok (.aload_n 0, 1) := by decide +kernel
theorem dX11_init_123 : decode cX11_init 123 = .ok (.getfield 10, 3) := by decide +kernel
theorem dX11_init_126 : decode cX11_init 126 = .ok (.invokespecial 54, 3) := by decide +kernel
theorem dX11_init_129 : decode cX11_init 129 = .ok (.putfield 57, 3) := by decide +kernel
theorem dX11_init_132 : decode cX11_init 132 = .ok (.aload_n 0, 1) := by decide +kernel
theorem dX11_init_133 : decode cX11_init 133 = .ok (.new 61, 3) := by decide +kernel
theorem dX11_init_136 : decode cX11_init 136 = .ok (.dup, 1) := by decide +kernel
theorem dX11_init_137 : decode cX11_init 137 = .ok (.aload_n 0, 1) := by decide +kernel
theorem dX11_init_138 : decode cX11_init 138 = .ok (.getfield 10, 3) := by decide +kernel
theorem dX11_init_141 : decode cX11_init 141 = .ok (.aload_n 0, 1) := by decide +kernel
theorem dX11_init_142 : decode cX11_init 142 = .ok (.getfield 19, 3) := by decide +kernel
theorem dX11_init_145 : decode cX11_init 145 = .ok (.aload_n 0, 1) := by decide +kernel
theorem dX11_init_146 : decode cX11_init 146 = .ok (.getfield 35, 3) := by decide +kernel
theorem dX11_init_149 : decode cX11_init 149 = .ok (.invokespecial 63, 3) := by decide +kernel
theorem dX11_init_152 : decode cX11_init 152 = .ok (.putfield 66, 3) := by decide +kernel
theorem dX11_init_155 : decode cX11_init 155 = .ok (.aload_n 0, 1) := by decide +kernel
theorem dX11_init_156 : decode cX11_init 156 = .ok (.new 70, 3) := by decide +kernel
theorem dX11_init_159 : decode cX11_init 159 = .ok (.dup, 1) := by decide +kernel
theorem dX11_init_160 : decode cX11_init 160 = .ok (.aload_n 0, 1) := by decide +kernel
theorem dX11_init_161 : decode cX11_init 161 = .ok (.getfield 10, 3) := by decide +kernel
theorem dX11_init_164 : decode cX11_init 164 = .ok (.aload_n 0, 1) := by decide +kernel
theorem dX11_init_165 : decode cX11_init 165 = .ok (.getfield 35, 3) := by decide +kernel
theorem dX11_init_168 : decode cX11_init 168 = .ok (.invokespecial 72, 3) := by decide +kernel
theorem dX11_init_171 : decode cX11_init 171 = .ok (.putfield 75, 3) := by decide +kernel
theorem dX11_init_174 : decode cX11_init 174 = .ok (.aload_n 0, 1) := by decide +kernel
theorem dX11_init_175 : decode cX11_init 175 = .ok (.new 79, 3) := by decide +kernel
theorem dX11_init_178 : decode cX11_init 178 = .ok (.dup, 1) := by decide +kernel
theorem dX11_init_179 : decode cX11_init 179 = .ok (.aload_n 0, 1) := by decide +kernel
theorem dX11_init_180 : decode cX11_init 180 = .ok (.getfield 10, 3) := by decide +kernel
theorem dX11_init_183 : decode cX11_init 183 = .ok (.aload_n 0, 1) := by decide +kernel
theorem dX11_init_184 : decode cX11_init 184 = .ok (.getfield 35, 3) := by decide +kernel
theorem dX11_init_187 : decode cX11_init 187 = .ok (.invokespecial 81, 3) := by decide +kernel
theorem dX11_init_190 : decode cX11_init 190 = .ok (.putfield 82, 3) := by decide +kernel
theorem dX11_init_193 : decode cX11_init 193 = .ok (.return_, 1) := by decide +kernel
theorem dX11_word_0 : decode cX11_word 0 = .ok (.iload_n 1, 1) := by decide +kernel
theorem dX11_word_1 : decode cX11_word 1 = .ok (.iconst 0, 1) := by decide +kernel
theorem dX11_word_2 : decode cX11_word 2 = .ok (.iconst 3, 1) := by decide +kernel
theorem dX11_word_3 : decode cX11_word 3 = .ok (.invokestatic 86, 3) := by decide +kernel
theorem dX11_word_6 : decode cX11_word 6 = .ok (.ifCond .eq 23, 3) := by decide +kernel
theorem dX11_word_9 : decode cX11_word 9 = .ok (.iload_n 2, 1) := by decide +kernel
theorem dX11_word_10 : decode cX11_word 10 = .ok (.iconst 0, 1) := by decide +kernel
theorem dX11_word_11 : decode cX11_word 11 = .ok (.bipush 63, 2) := by decide +kernel
theorem dX11_word_13 : decode cX11_word 13 = .ok (.invokestatic 86, 3) := by decide +kernel
theorem dX11_word_16 : decode cX11_word 16 = .ok (.ifCond .eq 13, 3) := by decide +kernel
theorem dX11_word_19 : decode cX11_word 19 = .ok (.iload_n 3, 1) := by decide +kernel
theorem dX11_word_20 : decode cX11_word 20 = .ok (.iconst 1, 1) := by decide +kernel
theorem dX11_word_21 : decode cX11_word 21 = .ok (.bipush 9, 2) := by decide +kernel
theorem dX11_word_23 : decode cX11_word 23 = .ok (.invokestatic 86, 3) := by decide +kernel
theorem dX11_word_26 : decode cX11_word 26 = .ok (.ifCond .ne 5, 3) := by decide +kernel
theorem dX11_word_29 : decode cX11_word 29 = .ok (.iconst (-1), 1) := by decide +kernel
theorem dX11_word_30 : decode cX11_word 30 = .ok (.ireturn, 1) := by decide +kernel
theorem dX11_word_31 : decode cX11_word 31 = .ok (.aload_n 0, 1) := by decide +kernel
theorem dX11_word_32 : decode cX11_word 32 = .ok (.getfield 10, 3) := by decide +kernel
theorem dX11_word_35 : decode cX11_word 35 = .ok (.iload_n 1, 1) := by decide +kernel
theorem dX11_word_36 : decode cX11_word 36 = .ok (.iload_n 2, 1) := by decide +kernel
theorem dX11_word_37 : decode cX11_word 37 = .ok (.iload_n 3, 1) := by decide +kernel
theorem dX11_word_38 : decode cX11_word 38 = .ok (.invokevirtual 90, 3) := by decide +kernel
theorem dX11_word_41 : decode cX11_word 41 = .ok (.ireturn, 1) := by decide +kernel
theorem dX11_people_0 : decode cX11_people 0 = .ok (.iload_n 1, 1) := by decide +kernel
theorem dX11_people_1 : decode cX11_people 1 = .ok (.iconst 0, 1) := by decide +kernel
theorem dX11_people_2 : decode cX11_people 2 = .ok (.iconst 3, 1) := by decide +kernel
theorem dX11_people_3 : decode cX11_people 3 = .ok (.invokestatic 86, 3) := by decide +kernel
theorem dX11_people_6 : decode cX11_people 6 = .ok (.ifCond .eq 14, 3) := by decide +kernel
theorem dX11_people_9 : decode cX11_people 9 = .ok (.iload_n 2, 1) := by decide +kernel
theorem dX11_people_10 : decode cX11_people 10 = .ok (.iconst 0, 1) := by decide +kernel
theorem dX11_people_11 : decode cX11_people 11 = .ok (.sipush 1000, 3) := by decide +kernel
theorem dX11_people_14 : decode cX11_people 14 = .ok (.invokestatic 86, 3) := by decide +kernel
theorem dX11_people_17 : decode cX11_people 17 = .ok (.ifCond .ne 5, 3) := by decide +kernel
theorem dX11_people_20 : decode cX11_people 20 = .ok (.iconst 0, 1) := by decide +kernel
theorem dX11_people_21 : decode cX11_people 21 = .ok (.ireturn, 1) := by decide +kernel
theorem dX11_people_22 : decode cX11_people 22 = .ok (.aload_n 0, 1) := by decide +kernel
theorem dX11_people_23 : decode cX11_people 23 = .ok (.getfield 19, 3) := by decide +kernel
theorem dX11_people_26 : decode cX11_people 26 = .ok (.getfield 94, 3) := by decide +kernel
theorem dX11_people_29 : decode cX11_people 29 = .ok (.iload_n 1, 1) := by decide +kernel
theorem dX11_people_30 : decode cX11_people 30 = .ok (.iload_n 2, 1) := by decide +kernel
theorem dX11_people_31 : decode cX11_people 31 = .ok (.iastore, 1) := by decide +kernel
theorem dX11_people_32 : decode cX11_people 32 = .ok (.iconst 1, 1) := by decide +kernel
theorem dX11_people_33 : decode cX11_people 33 = .ok (.ireturn, 1) := by decide +kernel
theorem dX11_want_0 : decode cX11_want 0 = .ok (.iload_n 1, 1) := by decide +kernel
theorem dX11_want_1 : decode cX11_want 1 = .ok (.iconst 0, 1) := by decide +kernel
theorem dX11_want_2 : decode cX11_want 2 = .ok (.iconst 3, 1) := by decide +kernel
theorem dX11_want_3 : decode cX11_want 3 = .ok (.invokestatic 86, 3) := by decide +kernel
theorem dX11_want_6 : decode cX11_want 6 = .ok (.ifCond .eq 36, 3) := by decide +kernel
theorem dX11_want_9 : decode cX11_want 9 = .ok (.iload_n 2, 1) := by decide +kernel
theorem dX11_want_10 : decode cX11_want 10 = .ok (.iconst 0, 1) := by decide +kernel
theorem dX11_want_11 : decode cX11_want 11 = .ok (.bipush 63, 2) := by decide +kernel
theorem dX11_want_13 : decode cX11_want 13 = .ok (.invokestatic 86, 3) := by decide +kernel
theorem dX11_want_16 : decode cX11_want 16 = .ok (.ifCond .eq 26, 3) := by decide +kernel
theorem dX11_want_19 : decode cX11_want 19 = .ok (.iload_n 3, 1) := by decide +kernel
theorem dX11_want_20 : decode cX11_want 20 = .ok (.iconst 0, 1) := by decide +kernel
theorem dX11_want_21 : decode cX11_want 21 = .ok (.sipush 1000, 3) := by decide +kernel
theorem dX11_want_24 : decode cX11_want 24 = .ok (.invokestatic 86, 3) := by decide +kernel
theorem dX11_want_27 : decode cX11_want 27 = .ok (.ifCond .eq 15, 3) := by decide +kernel
theorem dX11_want_30 : decode cX11_want 30 = .ok (.iload 4, 2) := by decide +kernel
